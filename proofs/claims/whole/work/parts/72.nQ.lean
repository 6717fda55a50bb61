/-! ===== tokens of a text ===== -/
def ruF (p : Nat → Bool) : Nat → Nat → Nat
  | 0, i => i
  | f + 1, i => if p i = true then ruF p f (i + 1) else i
/-- the end of a run from i on, n at most -/
def ru (p : Nat → Bool) (n i : Nat) : Nat := ruF p (n - i) i
theorem ru_n {p : Nat → Bool} {n i : Nat} (h : ¬ i < n) : ru p n i = i := by
  unfold ru
  rw [show n - i = 0 by omega]
  rfl
theorem ru_t {p : Nat → Bool} {n i : Nat} (h : i < n) (hp : p i = true) : ru p n i = ru p n (i + 1) := by
  unfold ru
  obtain ⟨f, hf⟩ : ∃ f, n - i = f + 1 := ⟨n - i - 1, by omega⟩
  rw [hf, show n - (i + 1) = f by omega]
  show (if p i = true then _ else _) = _
  rw [if_pos hp]
theorem ru_f {p : Nat → Bool} {n i : Nat} (hp : p i = false) : ru p n i = i := by
  unfold ru
  cases n - i with
  | zero => rfl
  | succ f =>
    show (if p i = true then _ else _) = _
    rw [if_neg (by rw [hp]; decide)]
theorem ru_ge {p : Nat → Bool} {n : Nat} : ∀ f i, n - i ≤ f → i ≤ ru p n i ∧ (i ≤ n → ru p n i ≤ n)
  | 0, i, h => by
    rw [ru_n (by omega)]
    exact ⟨Nat.le_refl _, fun q => q⟩
  | f + 1, i, h => by
    by_cases hi : i < n
    · cases hp : p i with
      | false =>
        rw [ru_f hp]
        exact ⟨Nat.le_refl _, fun q => q⟩
      | true =>
        rw [ru_t hi hp]
        have := ru_ge (p := p) (n := n) f (i + 1) (by omega)
        exact ⟨by omega, fun q => this.2 (by omega)⟩
    · rw [ru_n hi]
      exact ⟨Nat.le_refl _, fun q => q⟩
theorem ru_le {p : Nat → Bool} {n i : Nat} (h : i ≤ n) : i ≤ ru p n i ∧ ru p n i ≤ n := ⟨(ru_ge n i (by omega)).1, (ru_ge n i (by omega)).2 h⟩
theorem ru_gt {p : Nat → Bool} {n i : Nat} (h : i < n) (hp : p i = true) : i < ru p n i := by
  rw [ru_t h hp]
  have := (ru_le (p := p) (n := n) (i := i + 1) (by omega)).1
  omega
def allB (f : Nat → Bool) : Nat → Bool
  | 0 => true
  | k + 1 => allB f k && f k
theorem allB_iff {f : Nat → Bool} : ∀ {n : Nat}, allB f n = true ↔ ∀ k, k < n → f k = true
  | 0 => ⟨fun _ k hk => (by omega), fun _ => rfl⟩
  | n + 1 => by
    show (allB f n && f n) = true ↔ _
    rw [Bool.and_eq_true, allB_iff (n := n)]
    constructor
    · rintro ⟨h1, h2⟩ k hk
      by_cases z : k = n
      · rw [z]; exact h2
      · exact h1 k (by omega)
    · intro h
      exact ⟨fun k hk => h k (by omega), h n (by omega)⟩
def wsB (b : Nat → Nat) (i : Nat) : Bool := decide (b i = 10) || decide (b i = 32)
def smB (b : Nat → Nat) (i : Nat) : Bool := decide (97 ≤ b i) && decide (b i ≤ 122)
def dtB (b : Nat → Nat) (i : Nat) : Bool := decide (48 ≤ b i) && decide (b i ≤ 57)
def wLnL : List Nat := [5, 4, 5, 5, 4, 4, 4, 3, 4, 3, 4, 3, 2, 3, 3, 5, 5, 3, 4, 4, 3]
def wStL : List Nat := [0, 6, 11, 17, 23, 28, 33, 38, 42, 47, 51, 56, 60, 63, 67, 71, 77, 83, 87, 92, 97, 101]
def wLn (k : Nat) : Nat := wLnL.getD k 0
def wSt (k : Nat) : Nat := wStL.getD k 101
/-- word k stands from a to e -/
def wqB (b : Nat → Nat) (a e k : Nat) : Bool := decide (wLn k = e - a) && allB (fun j => decide (wdN (wSt k + j) = b (a + j))) (wLn k)
def wkF (b : Nat → Nat) (a e : Nat) : Nat → Option Nat
  | 0 => none
  | k + 1 => match wkF b a e k with
    | some j => some j
    | none => if wqB b a e k = true then some k else none
abbrev wkN (b : Nat → Nat) (a e : Nat) : Option Nat := wkF b a e 21
theorem wkF_s {b : Nat → Nat} {a e k : Nat} (h : wkF b a e k = none) : wkF b a e (k + 1) = if wqB b a e k = true then some k else none := by
  show (match wkF b a e k with | some j => some j | none => _) = _
  rw [h]
theorem wkF_m {b : Nat → Nat} {a e k j : Nat} (h : wkF b a e k = some j) : ∀ d, wkF b a e (k + d) = some j
  | 0 => h
  | d + 1 => by
    show (match wkF b a e (k + d) with | some j => some j | none => _) = _
    rw [wkF_m h d]
theorem wkF_lt {b : Nat → Nat} {a e : Nat} : ∀ {k j : Nat}, wkF b a e k = some j → j < k ∧ wqB b a e j = true
  | 0, j, h => by cases h
  | k + 1, j, h => by
    cases q : wkF b a e k with
    | some i =>
      rw [wkF_m q 1] at h
      cases h
      exact ⟨Nat.lt_succ_of_lt (wkF_lt q).1, (wkF_lt q).2⟩
    | none =>
      rw [wkF_s q] at h
      by_cases z : wqB b a e k = true
      · rw [if_pos z] at h
        cases h
        exact ⟨Nat.lt_succ_self _, z⟩
      · rw [if_neg z] at h
        cases h
theorem wkF_no {b : Nat → Nat} {a e : Nat} : ∀ {n : Nat}, wkF b a e n = none → ∀ k, k < n → wqB b a e k = false
  | 0, _, k, hk => by omega
  | n + 1, h, k, hk => by
    cases q : wkF b a e n with
    | some i =>
      rw [wkF_m q 1] at h
      cases h
    | none =>
      rw [wkF_s q] at h
      by_cases z : wqB b a e n = true
      · rw [if_pos z] at h
        cases h
      · by_cases y : k = n
        · rw [y]
          simpa using z
        · exact wkF_no q k (by omega)
/-- letters packed, six of them -/
def pkF (b : Nat → Nat) (a e : Nat) : Nat → Nat
  | 0 => 0
  | j + 1 => 32 * pkF b a e j + (if a + j < e then b (a + j) - 96 else 0)
abbrev pkN (b : Nat → Nat) (a e : Nat) : Nat := pkF b a e 6
def nbF (b : Nat → Nat) (a : Nat) : Nat → Nat
  | 0 => 0
  | j + 1 => if nbF b a j > 99999 then nbF b a j else 10 * nbF b a j + (b (a + j) - 48)
/-- kind, which, length of a sign -/
def sgT (b : Nat → Nat) (n a : Nat) : Nat × Nat × Nat :=
  if b a = 61 then (5, 2, 1)
  else if b a = 60 then (if (if a + 1 < n then b (a + 1) else 0) = 61 then (5, 1, 2) else if (if a + 1 < n then b (a + 1) else 0) = 62 then (5, 3, 2) else (5, 0, 1))
  else if b a = 62 then (if (if a + 1 < n then b (a + 1) else 0) = 61 then (5, 4, 2) else (5, 5, 1))
  else if b a = 59 ∨ b a = 40 ∨ b a = 41 ∨ b a = 43 ∨ b a = 45 ∨ b a = 42 ∨ b a = 47 ∨ b a = 37 then (4, b a, 1) else (6, 0, 1)
/-- the token from i on: kind, which, its place, the place behind it -/
def tkA (b : Nat → Nat) (n a : Nat) : Nat × Nat × Nat × Nat :=
  if ¬ a < n then (0, 0, a, a)
  else if smB b a = true then (match wkN b a (ru (smB b) n a) with
    | some k => (1, k, a, ru (smB b) n a)
    | none => if ru (smB b) n a - a ≤ 6 then (2, pkN b a (ru (smB b) n a), a, ru (smB b) n a) else (6, 0, a, ru (smB b) n a))
  else if dtB b a = true then (3, nbF b a (ru (dtB b) n a - a), a, ru (dtB b) n a)
  else ((sgT b n a).1, (sgT b n a).2.1, a, a + (sgT b n a).2.2)
def tk (b : Nat → Nat) (n i : Nat) : Nat × Nat × Nat × Nat := tkA b n (ru (wsB b) n i)
/-! the reference's side -/
def mTt (S : ms_S) (b : Nat → Nat) (n : Nat) : Prop := n ≤ 700 ∧ m_stop S = nI n ∧ (∀ i, i < n → a_tape S i = nI (b i) ∧ b i < 256) ∧ mWd S
def fK : Nat → Bool := fun k => Nat.ble 7 k && Nat.ble k 10
theorem mTt_E {S S' : ms_S} {b : Nat → Nat} {n : Nat} (h : mE fK fN S S') (ht : mTt S b n) : mTt S' b n := ⟨ht.1, (h.1 0 6 (Or.inr rfl)).trans ht.2.1, fun i hi => ⟨(congrFun (h.2.2.2.1 1 rfl) i).trans (ht.2.2.1 i hi).1, (ht.2.2.1 i hi).2⟩, fun i hi => (congrFun (h.2.2.2.1 2 rfl) i).trans (ht.2.2.2 i hi)⟩
def mTk (S : ms_S) (t : Nat × Nat × Nat × Nat) : Prop := m_kind S = nI t.1 ∧ (¬ t.1 = 0 → ¬ t.1 = 6 → m_which S = nI t.2.1) ∧ m_at S = nI t.2.2.1 ∧ m_next S = nI t.2.2.2
theorem c_isSmall (G : ab_G) (fr : Bool) (S : ms_S) (tl : ab_H) (b : Nat → Nat) (n i : Nat) (ht : mTt S b n) (hi : i ≤ n) (K : Int32 → ms_S → Prop) (k : K (bI (decide (i < n) && smB b i)) S) : ctI G 1 M_X12_isSmall fr [.ref 0, .int (nI i)] lM S tl K := by
  obtain ⟨t1, t2, t3, t4⟩ := ht
  have e6 : S.1 0 6 = nI n := t2
  refine m_X12_isSmall (fun n0 => ?_)
  rw [e6, nI_leI (by omega) (by omega)]
  unfold smB at k
  refine ⟨fun q => by rw [decide_eq_false (by omega)] at k; exact k, fun q => ?_⟩
  obtain ⟨e1, e2⟩ := t3 i (by omega)
  have e1 : S.2.2.2.1 1 i = nI (b i) := e1
  rw [decide_eq_true (by omega), Bool.true_and] at k
  rw [nI_clamp (by omega), e1, nI_ltI (by omega) (by decide), nI_ltI (by decide) (by omega)]
  have hv : vp_in (nI i) 700 := (x_vp (by omega)).mpr (by omega)
  refine ⟨hv, fun z => by rw [decide_eq_false (by omega)] at k; exact k, fun z => ⟨hv, fun y => by rw [decide_eq_false (p := b i ≤ 122) (by omega), Bool.and_false] at k; exact k, fun y => by rw [decide_eq_true (p := b i ≤ 122) (by omega), decide_eq_true (by omega)] at k; exact k⟩⟩
theorem c_isDigit (G : ab_G) (fr : Bool) (S : ms_S) (tl : ab_H) (b : Nat → Nat) (n i : Nat) (ht : mTt S b n) (hi : i ≤ n) (K : Int32 → ms_S → Prop) (k : K (bI (decide (i < n) && dtB b i)) S) : ctI G 1 M_X12_isDigit fr [.ref 0, .int (nI i)] lM S tl K := by
  obtain ⟨t1, t2, t3, t4⟩ := ht
  have e6 : S.1 0 6 = nI n := t2
  refine m_X12_isDigit (fun n0 => ?_)
  rw [e6, nI_leI (by omega) (by omega)]
  unfold dtB at k
  refine ⟨fun q => by rw [decide_eq_false (by omega)] at k; exact k, fun q => ?_⟩
  obtain ⟨e1, e2⟩ := t3 i (by omega)
  have e1 : S.2.2.2.1 1 i = nI (b i) := e1
  rw [decide_eq_true (by omega), Bool.true_and] at k
  rw [nI_clamp (by omega), e1, nI_ltI (by omega) (by decide), nI_ltI (by decide) (by omega)]
  have hv : vp_in (nI i) 700 := (x_vp (by omega)).mpr (by omega)
  refine ⟨hv, fun z => by rw [decide_eq_false (by omega)] at k; exact k, fun z => ⟨hv, fun y => by rw [decide_eq_false (p := b i ≤ 57) (by omega), Bool.and_false] at k; exact k, fun y => by rw [decide_eq_true (p := b i ≤ 57) (by omega), decide_eq_true (by omega)] at k; exact k⟩⟩
theorem pkF_lt {b : Nat → Nat} {a e : Nat} (h : ∀ i, a ≤ i → i < e → b i - 96 < 32) : ∀ j, pkF b a e j < 32 ^ j
  | 0 => by show 0 < 1; decide
  | j + 1 => by
    have ih := pkF_lt h j
    show 32 * pkF b a e j + _ < _
    have hx : (if a + j < e then b (a + j) - 96 else 0) < 32 := by
      split
      · exact h _ (by omega) (by assumption)
      · decide
    rw [Nat.pow_succ]
    omega
theorem c_packed (G : ab_G) (fr : Bool) (S : ms_S) (tl : ab_H) (b : Nat → Nat) (n a e : Nat) (ht : mTt S b n) (hae : a ≤ e) (he : e ≤ n) (hsm : ∀ i, a ≤ i → i < e → smB b i = true) (K : Int32 → ms_S → Prop) (k : K (nI (pkN b a e)) S) : ctI G 1 M_X12_packed fr [.ref 0, .int (nI a), .int (nI e)] lM S tl K := by
  obtain ⟨t1, t2, t3, t4⟩ := ht
  have hlt : ∀ i, a ≤ i → i < e → 96 ≤ b i ∧ b i - 96 < 32 := fun i h1 h2 => by
    have := hsm i h1 h2
    unfold smB at this
    simp only [Bool.and_eq_true, decide_eq_true_eq] at this
    omega
  refine m_X12_packed (fun n0 => ?_)
  have KL : ∀ d j, j + d = 6 → L_X12_packed_5 G fr n0 tl K S (nI a) (nI e) (nI (pkF b a e j)) (nI (a + j)) := by
    intro d
    induction d with
    | zero =>
      intro j hj
      have : j = 6 := by omega
      subst this
      refine b_X12_packed_5 ?_
      rw [nI_add]
      exact ⟨fun _ => k, fun q => absurd (Int32.le_refl _) q⟩
    | succ d ih =>
      intro j hj
      have h9 := ih (j + 1) (by omega)
      have hp := pkF_lt (b := b) (a := a) (e := e) (fun i h1 h2 => (hlt i h1 h2).2) j
      have hp2 : pkF b a e j < 32 ^ 5 := Nat.lt_of_lt_of_le hp (Nat.pow_le_pow_right (by decide) (by omega))
      have K37 : ∀ x, x < 32 → x = (if a + j < e then b (a + j) - 96 else 0) → L_X12_packed_37 G fr n0 tl K S (nI a) (nI e) (nI (a + j)) (nI x) (nI (pkF b a e j) <<< (nI 5 &&& 31)) := by
        intro x hx ex
        refine b_X12_packed_37 ?_
        rw [nu_shl (by decide) (by omega), nu_or, nI_add]
        have e1 : pkF b a e j * 2 ^ 5 ||| x = pkF b a e (j + 1) := by
          rw [Nat.mul_comm, ← Nat.two_pow_add_eq_or_of_lt hx]
          show _ = 32 * pkF b a e j + _
          rw [← ex]
        rw [e1]
        exact h9
      refine b_X12_packed_5 ?_
      rw [nI_add, nI_leI (by omega) (by omega), nI_leI (by omega) (by omega)]
      refine ⟨fun q => absurd q (by omega), fun _ => ⟨fun q => K37 0 (by decide) (by rw [if_neg (by omega)]), fun q => ⟨(x_vp (by omega)).mpr (by omega), ?_⟩⟩⟩
      obtain ⟨l1, l2⟩ := hlt (a + j) (by omega) (by omega)
      have e1 : S.2.2.2.1 1 (a + j) = nI (b (a + j)) := (t3 (a + j) (by omega)).1
      rw [nI_clamp (by omega), e1, pk_sub l1]
      exact K37 _ l2 (by rw [if_pos (by omega)])
  exact KL 6 0 rfl
theorem wd_t : ∀ k, k < 21 → wSt (k + 1) = wSt k + wLn k + 1 ∧ wLn k ≤ 5 ∧ wdN (wSt k + wLn k) = 32 ∧ ∀ j, j < wLn k → ¬ wdN (wSt k + j) = 32 := by decide +kernel
theorem wd_b : ∀ k, k ≤ 21 → wSt k ≤ 101 ∧ (k < 21 → wSt k + wLn k < 101) := by decide +kernel
theorem wd_l : ∀ i, i < 101 → wdN i < 128 := by decide +kernel
theorem c_wordAt (G : ab_G) (fr : Bool) (S : ms_S) (tl : ab_H) (b : Nat → Nat) (n a e : Nat) (ht : mTt S b n) (hae : a ≤ e) (he : e ≤ n) (K : Int32 → ms_S → Prop) (k : K (fI (wkN b a e)) S) : ctI G 1 M_X12_wordAt fr [.ref 0, .int (nI a), .int (nI e)] lM S tl K := by
  obtain ⟨t1, t2, t3, t4⟩ := ht
  have eW : ∀ i, i < 101 → S.2.2.2.1 2 i = nI (wdN i) := fun i hi => t4 i hi
  refine m_X12_wordAt (fun n0 => ?_)
  have KO : ∀ d w, w + d = 21 → wkF b a e w = none → L_X12_wordAt_5 G fr n0 tl K S (nI a) (nI e) (nI w) (nI (wSt w)) := by
    intro d
    induction d with
    | zero =>
      intro w hw hy
      have : w = 21 := by omega
      subst this
      refine b_X12_wordAt_5 ⟨fun _ => ?_, fun q => absurd (by decide) q⟩
      rw [show wkN b a e = none from hy] at k
      exact k
    | succ d ih =>
      intro w hw hy
      obtain ⟨s1, s2, s3, s4⟩ := wd_t w (by omega)
      obtain ⟨s5, s6⟩ := wd_b w (by omega)
      have s6 := s6 (by omega)
      refine b_X12_wordAt_5 ?_
      rw [nI_leI (by decide) (by omega)]
      refine ⟨fun q => absurd q (by omega), fun _ => ?_⟩
      have K104 : ∀ x : Bool, wqB b a e w = x → L_X12_wordAt_104 G fr n0 tl K S (nI a) (nI e) (nI w) (nI (wSt w)) (nI (wLn w)) (bI x) := by
        intro x hx
        refine b_X12_wordAt_104 ?_
        simp only [nI_add, x_b0]
        refine ⟨fun q => ?_, fun q => ?_⟩
        · rw [show wSt w + (wLn w + 1) = wSt (w + 1) by omega]
          exact ih (w + 1) (by omega) (by rw [wkF_s hy, if_neg (by rw [hx, q]; decide)])
        · have h9 := wkF_m (show wkF b a e (w + 1) = some w by rw [wkF_s hy, if_pos (by rw [hx]; exact nf_t q)]) d
          rw [show w + 1 + d = 21 by omega] at h9
          rw [show wkN b a e = some w from h9] at k
          exact k
      have KC : ∀ d j, j + d = wLn w → ∀ x : Bool, (decide (wLn w = e - a) && allB (fun j => decide (wdN (wSt w + j) = b (a + j))) j) = x → L_X12_wordAt_57 G fr n0 tl K S (nI a) (nI e) (nI w) (nI (wSt w)) (nI (wLn w)) (bI x) (nI j) := by
        intro d
        induction d with
        | zero =>
          intro j hj x hx
          refine b_X12_wordAt_57 ?_
          rw [nI_leI (by omega) (by omega)]
          refine ⟨fun _ => K104 x ?_, fun q => absurd q (by omega)⟩
          rw [← hx, show j = wLn w by omega]
          rfl
        | succ d ihj =>
          intro j hj x hx
          refine b_X12_wordAt_57 ?_
          rw [nI_leI (by omega) (by omega), x_b0]
          refine ⟨fun q => absurd q (by omega), fun _ => ⟨fun q => ?_, fun q => ?_⟩⟩
          · subst q
            refine K104 false ?_
            cases z : wqB b a e w with
            | false => rfl
            | true =>
              unfold wqB at z
              rw [Bool.and_eq_true] at z
              rw [z.1, Bool.true_and] at hx
              have h9 := allB_iff.mp z.2
              rw [allB_iff.mpr (fun j2 hj2 => h9 j2 (by omega))] at hx
              cases hx
          · have hx1 := nf_t q
            subst hx1
            rw [Bool.and_eq_true] at hx
            have hlen := of_decide_eq_true hx.1
            have e1 : S.2.2.2.1 1 (a + j) = nI (b (a + j)) := (t3 (a + j) (by omega)).1
            have e1b := (t3 (a + j) (by omega)).2
            have e2 := wd_l (wSt w + j) (by omega)
            simp only [nI_add]
            rw [nI_clamp (by omega), nI_clamp (by omega), eW _ (by omega), e1, nI_eq (by omega) (by omega)]
            have K96 : ∀ x : Bool, decide (wdN (wSt w + j) = b (a + j)) = x → L_X12_wordAt_96 G fr n0 tl K S (nI a) (nI e) (nI w) (nI (wSt w)) (nI (wLn w)) (nI j) (bI x) := by
              intro x hx2
              refine b_X12_wordAt_96 ?_
              rw [nI_add]
              refine ihj (j + 1) (by omega) x ?_
              show (_ && (allB _ j && decide (wdN (wSt w + j) = b (a + j)))) = x
              rw [hx.1, hx.2, hx2]
              rfl
            exact ⟨(x_vp (by omega)).mpr (by omega), (x_vp (by omega)).mpr (by omega), fun z => K96 true (decide_eq_true z), fun z => K96 false (decide_eq_false z)⟩
      have KL : ∀ d j, j + d = wLn w → L_X12_wordAt_18 G fr n0 tl K S (nI a) (nI e) (nI w) (nI (wSt w)) (nI j) := by
        intro d
        induction d with
        | zero =>
          intro j hj
          rw [show j = wLn w by omega]
          refine b_X12_wordAt_18 ?_
          rw [nI_add, nI_clamp (by omega), eW _ (by omega), s3, pk_sub hae, nI_eq (a := wLn w) (b := e - a) (by omega) (by omega)]
          refine ⟨(x_vp (by omega)).mpr (by omega), fun _ => ⟨fun z => b_X12_wordAt_52 (KC (wLn w) 0 (by omega) true (by rw [decide_eq_true z]; rfl)), fun z => b_X12_wordAt_52 (KC (wLn w) 0 (by omega) false (by rw [decide_eq_false z]; rfl))⟩, fun q => absurd rfl q⟩
        | succ d ihj =>
          intro j hj
          have e2 := wd_l (wSt w + j) (by omega)
          refine b_X12_wordAt_18 ?_
          rw [nI_add, nI_clamp (by omega), eW _ (by omega), nI_eq (by omega) (by decide), nI_add]
          exact ⟨(x_vp (by omega)).mpr (by omega), fun q => absurd q (s4 j (by omega)), fun _ => ihj (j + 1) (by omega)⟩
      exact KL (wLn w) 0 (by omega)
  exact KO 21 0 rfl rfl
