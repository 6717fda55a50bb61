/-! ===== laws as they are read ===== -/
def rkN (k : Nat) : Nat := if 13 ≤ k then 6 else if 11 ≤ k then 5 else if 5 ≤ k then 4 else if k = 2 then 3 else if k = 3 then 2 else if k = 4 then 1 else 0
theorem rk_le (k : Nat) : rkN k ≤ 6 := by
  unfold rkN
  (repeat' split) <;> decide
/-- knots; signs that wait; brackets; counted; a value is wanted; NOT may stand -/
abbrev tSU : Type := tDQ × List Nat × Nat × Nat × Bool × Bool
def bdW (ls : Nat) : List Nat → tDQ → tDQ × List Nat
  | [], q => (q, [])
  | k :: r, q => if ls ≤ rkN k then bdW ls r (q.1 + 1, up q.2 q.1 (k, 0)) else (q, k :: r)
abbrev isTk (b : Nat → Nat) (n i k w : Nat) : Bool := decide (tkK b n i = k) && decide (tkW b n i = w)
def leafS (b : Nat → Nat) (n : Nat) (u : tSU) (i : Nat) : Except (Nat × Nat) (tSU × Nat) :=
  if isTk b n i 4 40 = true then (if u.2.2.1 = 8 then .error (2, tkP b n i) else .ok ((u.1, 0 :: u.2.1, u.2.2.1 + 1, u.2.2.2.1, u.2.2.2.2.1, true), tkN b n i))
  else if (isTk b n i 1 13 && u.2.2.2.2.2) = true then (if u.2.2.2.1 = 64 then .error (2, tkP b n i) else .ok ((u.1, 2 :: u.2.1, u.2.2.1, u.2.2.2.1 + 1, u.2.2.2.2.1, u.2.2.2.2.2), tkN b n i))
  else if tkK b n i = 1 ∧ 14 ≤ tkW b n i then (if u.2.2.2.1 = 64 then .error (2, tkP b n i) else .ok (((u.1.1 + 1, up u.1.2 u.1.1 (1, tkW b n i - 14)), u.2.1, u.2.2.1, u.2.2.2.1 + 1, false, u.2.2.2.2.2), tkN b n i))
  else if tkK b n i = 3 then (if 9999 < tkW b n i then .error (2, tkP b n i) else if u.2.2.2.1 = 64 then .error (2, tkP b n i) else .ok (((u.1.1 + 1, up u.1.2 u.1.1 (0, tkW b n i)), u.2.1, u.2.2.1, u.2.2.2.1 + 1, false, u.2.2.2.2.2), tkN b n i))
  else .error (1, tkP b n i)
/-- the kind of a sign -/
def sgK (b : Nat → Nat) (n i : Nat) : Nat := if isTk b n i 1 11 = true then 3 else if isTk b n i 1 12 = true then 4 else if tkK b n i = 5 then 5 + tkW b n i else if isTk b n i 4 43 = true then 11 else if isTk b n i 4 45 = true then 12 else if isTk b n i 4 42 = true then 13 else if isTk b n i 4 47 = true then 14 else 0
def hd4 : List Nat → Bool
  | [] => false
  | k :: _ => decide (rkN k = 4)
def signS (b : Nat → Nat) (n : Nat) (u : tSU) (i : Nat) : Except (Nat × Nat) (tSU × Nat) :=
  if (isTk b n i 4 41 && decide (0 < u.2.2.1)) = true then .ok (((bdW 1 u.2.1 u.1).1, (bdW 1 u.2.1 u.1).2.tail, u.2.2.1 - 1, u.2.2.2.1, u.2.2.2.2.1, u.2.2.2.2.2), tkN b n i)
  else if sgK b n i = 0 then .error (1, tkP b n i)
  else if (decide (rkN (sgK b n i) = 4) && hd4 (bdW (if rkN (sgK b n i) = 4 then 5 else rkN (sgK b n i)) u.2.1 u.1).2) = true then .error (1, tkP b n i)
  else if u.2.2.2.1 = 64 then .error (2, tkP b n i)
  else .ok (((bdW (if rkN (sgK b n i) = 4 then 5 else rkN (sgK b n i)) u.2.1 u.1).1, sgK b n i :: (bdW (if rkN (sgK b n i) = 4 then 5 else rkN (sgK b n i)) u.2.1 u.1).2, u.2.2.1, u.2.2.2.1 + 1, true, decide (rkN (sgK b n i) < 3)), tkN b n i)
def sumS (b : Nat → Nat) (n : Nat) : Nat → tSU → Nat → Except (Nat × Nat) (tDQ × Nat)
  | 0, _, _ => .error (0, 0)
  | f + 1, u, i => if (isTk b n i 4 59 && (!u.2.2.2.2.1 && decide (u.2.2.1 = 0))) = true then .ok ((bdW 1 u.2.1 u.1).1, i) else bE (if u.2.2.2.2.1 = true then leafS b n u i else signS b n u i) (fun r => sumS b n f r.1 r.2)
abbrev u0 (c : Nat) : tSU := ((0, fun _ => (0, 0)), [], 0, c, true, true)
/-! what holds of it -/
def nzC : List Nat → Nat
  | [] => 0
  | k :: r => (if k = 0 then 0 else 1) + nzC r
def zrC : List Nat → Nat
  | [] => 0
  | k :: r => (if k = 0 then 1 else 0) + zrC r
def bnC : List Nat → Nat
  | [] => 0
  | k :: r => (if 3 ≤ k then 1 else 0) + bnC r
theorem len_C : ∀ W : List Nat, W.length = nzC W + zrC W
  | [] => rfl
  | k :: r => by
    have := len_C r
    show r.length + 1 = ((if k = 0 then 0 else 1) + nzC r) + ((if k = 0 then 1 else 0) + zrC r)
    split <;> omega
theorem bn_le : ∀ W : List Nat, bnC W ≤ nzC W
  | [] => Nat.le_refl _
  | k :: r => by
    have := bn_le r
    show (if 3 ≤ k then 1 else 0) + bnC r ≤ (if k = 0 then 0 else 1) + nzC r
    split
    · rw [if_neg (by omega)]
      omega
    · split <;> omega
/-- all kinds that wait -/
def wOk (W : List Nat) : Prop := ∀ k, k ∈ W → k ≤ 14 ∧ ¬ k = 1
theorem ixF_c {kn kn' : Nat → Nat × Nat} : ∀ {m : Nat}, (∀ j, j < m → kn j = kn' j) → ixF kn m = ixF kn' m
  | 0, _ => rfl
  | m + 1, h => by
    show stI (ixF kn m) (kn m).1 m = stI (ixF kn' m) (kn' m).1 m
    rw [ixF_c (fun j hj => h j (by omega)), h m (by omega)]
theorem ixF_up {kn : Nat → Nat × Nat} {m j : Nat} {x : Nat × Nat} (h : j ≤ m) : ixF (up kn m x) j = ixF kn j := ixF_c (fun i hi => up_no (by omega))
theorem ixF_s {kn : Nat → Nat × Nat} {m : Nat} {x : Nat × Nat} : ixF (up kn m x) (m + 1) = stI (ixF kn m) x.1 m := by
  show stI (ixF (up kn m x) m) (up kn m x m).1 m = _
  rw [ixF_up (Nat.le_refl _), up_at]
def hR (A : Nat → Int32) (f : Nat) : List Nat → Prop
  | [] => True
  | a :: r => A r.length = nI (f + a) ∧ hR A f r
def wR (A : Nat → Int32) : List Nat → Prop
  | [] => True
  | k :: r => A r.length = nI k ∧ wR A r
theorem hR_u {A : Nat → Int32} {f i : Nat} {x : Int32} : ∀ {st : List Nat}, st.length ≤ i → hR A f st → hR (upd A i x) f st
  | [], _, _ => trivial
  | a :: r, h, q => by
    have h : r.length + 1 ≤ i := h
    exact ⟨(upd_no (by omega)).trans q.1, hR_u (by omega) q.2⟩
theorem wR_u {A : Nat → Int32} {i : Nat} {x : Int32} : ∀ {st : List Nat}, st.length ≤ i → wR A st → wR (upd A i x) st
  | [], _, _ => trivial
  | a :: r, h, q => by
    have h : r.length + 1 ≤ i := h
    exact ⟨(upd_no (by omega)).trans q.1, wR_u (by omega) q.2⟩
/-- knots, held values and waiting signs in the reference -/
def mSu (S : ms_S) (f : Nat) (q : tDQ) (W : List Nat) : Prop := S.1 0 21 = nI (f + q.1) ∧ S.1 0 43 = nI W.length ∧ wR (S.2.2.2.1 22) W ∧ S.1 0 44 = nI (ixF q.2 q.1).length ∧ hR (S.2.2.2.1 23) f (ixF q.2 q.1) ∧ knR S f q.1 q.2
def aS : Nat → Bool := fun a => Nat.ble 19 a && Nat.ble a 23
/-- but for fields F, knots from f on, and the two stacks nothing has changed -/
def mSg (F : Nat → Bool) (f : Nat) (S X : ms_S) : Prop := (∀ k, F k = false → X.1 0 k = S.1 0 k) ∧ X.2.1 = S.2.1 ∧ (∀ a, aS a = false → X.2.2.2.1 a = S.2.2.2.1 a) ∧ ∀ a i, 19 ≤ a → a ≤ 21 → i < 64 + f → X.2.2.2.1 a i = S.2.2.2.1 a i
theorem mSg.rf {F : Nat → Bool} {f : Nat} {S : ms_S} : mSg F f S S := ⟨fun _ _ => rfl, rfl, fun _ _ => rfl, fun _ _ _ _ _ => rfl⟩
theorem mSg.tr {F : Nat → Bool} {f : Nat} {S1 S2 S3 : ms_S} (h1 : mSg F f S1 S2) (h2 : mSg F f S2 S3) : mSg F f S1 S3 := ⟨fun k q => (h2.1 k q).trans (h1.1 k q), h2.2.1.trans h1.2.1, fun a q => (h2.2.2.1 a q).trans (h1.2.2.1 a q), fun a i q1 q2 q3 => (h2.2.2.2 a i q1 q2 q3).trans (h1.2.2.2 a i q1 q2 q3)⟩
theorem mSg.mono {F F' : Nat → Bool} {f : Nat} {S X : ms_S} (h : mSg F f S X) (hF : ∀ k, F' k = false → F k = false) : mSg F' f S X := ⟨fun k q => h.1 k (hF k q), h.2⟩
theorem mSg.sV {F : Nat → Bool} {f k : Nat} {S : ms_S} {x : Int32} (hk : F k = true) : mSg F f S (sV S k x) := ⟨fun j q => u2_ne (Or.inr (fun z => by rw [z, hk] at q; cases q)), rfl, fun _ _ => rfl, fun _ _ _ _ _ => rfl⟩
theorem mSg.sA {F : Nat → Bool} {f a i : Nat} {S : ms_S} {x : Int32} (ha : aS a = true) (hi : a ≤ 21 → 64 + f ≤ i) : mSg F f S (sA S a i x) := ⟨fun _ _ => rfl, rfl, fun b q => u1_ne (fun z => by rw [z, ha] at q; cases q), fun b j q1 q2 q3 => by
  by_cases z : b = a
  · subst z
    show u1 S.2.2.2.1 b _ b j = _
    rw [u1_eq]
    exact upd_no (by have := hi q2; omega)
  · show u1 S.2.2.2.1 a _ b j = _
    rw [u1_ne z]⟩
def fBd : Nat → Bool := fun k => Nat.beq k 21 || Nat.beq k 43 || Nat.beq k 44
theorem c_rank (G : ab_G) (fr : Bool) (S : ms_S) (tl : ab_H) (k : Nat) (hk : k ≤ 14) (K : Int32 → ms_S → Prop) (c : K (nI (rkN k)) S) : ctI G 1 M_X12_rank fr [.int (nI k)] lM S tl K := by
  refine m_X12_rank (fun n0 => ?_)
  unfold rkN at c
  rw [nI_ltI (a := k) (b := 13) (by omega) (by decide), nI_ltI (a := k) (b := 11) (by omega) (by decide), nI_ltI (a := k) (b := 5) (by omega) (by decide), nI_eq (a := k) (b := 2) (by omega) (by decide), nI_eq (a := k) (b := 3) (by omega) (by decide), nI_eq (a := k) (b := 4) (by omega) (by decide)]
  refine ⟨fun h1 => ?_, fun h1 => b_X12_rank_58 (by rw [if_pos (by omega)] at c; exact c)⟩
  rw [if_neg (by omega)] at c
  refine ⟨fun h2 => ?_, fun h2 => b_X12_rank_58 (by rw [if_pos (by omega)] at c; exact c)⟩
  rw [if_neg (by omega)] at c
  refine ⟨fun h3 => ?_, fun h3 => b_X12_rank_58 (by rw [if_pos (by omega)] at c; exact c)⟩
  rw [if_neg (by omega)] at c
  refine ⟨fun h4 => b_X12_rank_58 (by rw [if_pos h4] at c; exact c), fun h4 => ?_⟩
  rw [if_neg h4] at c
  refine ⟨fun h5 => b_X12_rank_58 (by rw [if_pos h5] at c; exact c), fun h5 => ?_⟩
  rw [if_neg h5] at c
  exact ⟨fun h6 => b_X12_rank_58 (by rw [if_pos h6] at c; exact c), fun h6 => b_X12_rank_58 (by rw [if_neg h6] at c; exact c)⟩
/-- one knot more -/
theorem knR_up {S X : ms_S} {f m k x : Nat} {kn : Nat → Nat × Nat} (h : knR S f m kn) (hs : ∀ a i, 19 ≤ a → a ≤ 21 → i < 64 + (f + m) → X.2.2.2.1 a i = S.2.2.2.1 a i) (h1 : a_knot X (64 + (f + m)) = nI k) (h2 : k ≤ 14) (h3 : k ≤ 1 → a_part X (64 + (f + m)) = nI x) (h4 : k = 1 → x < 7) (h5 : x ≤ 9999) (h6 : k = 2 → ∃ a r, ixF kn m = a :: r ∧ a_part X (64 + (f + m)) = nI (f + a)) (h7 : 3 ≤ k → ∃ c a r, ixF kn m = c :: a :: r ∧ a_part X (64 + (f + m)) = nI (f + a) ∧ a_other X (64 + (f + m)) = nI (f + c)) : knR X f (m + 1) (up kn m (k, x)) := by
  intro j hj
  by_cases z : j = m
  · subst z
    rw [ixF_up (Nat.le_refl _), up_at]
    exact ⟨h1, h2, h3, h4, h5, h6, h7⟩
  · rw [ixF_up (by omega), up_no z]
    obtain ⟨g1, g2, g3, g4, g5, g6, g7⟩ := h j (by omega)
    have e19 := hs 19 (64 + (f + j)) (by decide) (by decide) (by omega)
    have e20 := hs 20 (64 + (f + j)) (by decide) (by decide) (by omega)
    have e21 := hs 21 (64 + (f + j)) (by decide) (by decide) (by omega)
    refine ⟨e19.trans g1, g2, fun q => e20.trans (g3 q), g4, g5, fun q => ?_, fun q => ?_⟩
    · obtain ⟨a, r, w1, w2⟩ := g6 q
      exact ⟨a, r, w1, e20.trans w2⟩
    · obtain ⟨c, a, r, w1, w2, w3⟩ := g7 q
      exact ⟨c, a, r, w1, e20.trans w2, e21.trans w3⟩
/-- grown: knot m of kind k, its values popped before: st is what is held -/
theorem u_grown (G : ab_G) (fr : Bool) (S : ms_S) (tl : ab_H) (f m k x : Nat) (kn : Nat → Nat × Nat) (st : List Nat) (pa ot : Int32) (e21 : S.1 0 21 = nI (f + m)) (hm : f + m < 64) (e44 : S.1 0 44 = nI st.length) (hst : st.length < 96) (hh : hR (S.2.2.2.1 23) f st) (hk : knR S f m kn) (hix : stI (ixF kn m) k m = m :: st) (h2 : k ≤ 14) (h3 : k ≤ 1 → pa = nI x) (h4 : k = 1 → x < 7) (h5 : x ≤ 9999) (h6 : k = 2 → ∃ a r, ixF kn m = a :: r ∧ pa = nI (f + a)) (h7 : 3 ≤ k → ∃ c a r, ixF kn m = c :: a :: r ∧ pa = nI (f + a) ∧ ot = nI (f + c)) (W : List Nat) (e43 : S.1 0 43 = nI W.length) (hw : wR (S.2.2.2.1 22) W) (K : ms_S → Prop)
    (c : ∀ X, mSg fBd f S X → mSu X f (m + 1, up kn m (k, x)) W → K X) : ctU G 1 M_X12_grown fr [.ref 0, .int (nI k), .int pa, .int ot] lM S tl K := by
  refine m_X12_grown (fun n0 => ?_)
  have hv : vp_in (nI (64 + (f + m))) 128 := (x_vp (by omega)).mpr (by omega)
  rw [e21, e44, nI_add, nI_clamp (by omega), nI_clamp (by omega), nI_add, nI_add]
  refine ⟨hv, hv, hv, (x_vp (by omega)).mpr hst, c _ (((((((mSg.sA rfl (fun _ => by omega)).tr (mSg.sA rfl (fun _ => by omega))).tr (mSg.sA rfl (fun _ => by omega))).tr (mSg.sA rfl (fun z => absurd z (by decide)))).tr (mSg.sV rfl)).tr (mSg.sV rfl))) ⟨rfl, e43, hw, ?_, ?_, ?_⟩⟩
  · rw [ixF_s, hix]
    rfl
  · rw [ixF_s, hix]
    exact ⟨upd_at, hR_u (Nat.le_refl _) hh⟩
  · refine knR_up hk (fun a i q1 q2 q3 => ?_) upd_at h2 (fun q => ?_) h4 h5 (fun q => ?_) (fun q => ?_)
    · rcases (show a = 19 ∨ a = 20 ∨ a = 21 by omega) with rfl | rfl | rfl
      · exact upd_no (by omega)
      · exact upd_no (by omega)
      · exact upd_no (by omega)
    · rw [← h3 q]
      exact upd_at
    · obtain ⟨a, r, w1, w2⟩ := h6 q
      exact ⟨a, r, w1, by rw [← w2]; exact upd_at⟩
    · obtain ⟨cc, a, r, w1, w2, w3⟩ := h7 q
      exact ⟨cc, a, r, w1, by rw [← w2]; exact upd_at, by rw [← w3]; exact upd_at⟩
theorem u_drop (G : ab_G) (fr : Bool) (S : ms_S) (tl : ab_H) (f a : Nat) (r : List Nat) (e44 : S.1 0 44 = nI (r.length + 1)) (hr : r.length < 96) (hh : hR (S.2.2.2.1 23) f (a :: r)) (K : Int32 → ms_S → Prop) (c : K (nI (f + a)) (sV S 44 (nI r.length))) : ctI G 1 M_X12_dropHeld fr [.ref 0] lM S tl K := by
  refine m_X12_dropHeld (fun n0 => ?_)
  have h1 : S.2.2.2.1 23 r.length = nI (f + a) := hh.1
  rw [e44, pk_sub (by omega), show r.length + 1 - 1 = r.length by omega, nI_clamp (by omega), h1]
  exact ⟨(x_vp (by omega)).mpr hr, c⟩
theorem bn_bd {ls : Nat} : ∀ {W : List Nat} {q : tDQ}, (bdW ls W q).1.1 + nzC (bdW ls W q).2 = q.1 + nzC W ∨ ls = 0
  | [], q => Or.inl rfl
  | k :: r, q => by
    unfold bdW
    split
    · rename_i h
      by_cases h0 : ls = 0
      · exact Or.inr h0
      · have hk : ¬ k = 0 := by
          intro z
          subst z
          have : rkN 0 = 0 := rfl
          omega
        rcases bn_bd (ls := ls) (W := r) (q := (q.1 + 1, up q.2 q.1 (k, 0))) with e | e
        · left
          show _ = q.1 + ((if k = 0 then 0 else 1) + nzC r)
          rw [if_neg hk, e]
          show q.1 + 1 + nzC r = _
          omega
        · exact Or.inr e
    · exact Or.inl rfl
theorem c_bind (G : ab_G) (fr : Bool) (S : ms_S) (tl : ab_H) (f ls : Nat) (q : tDQ) (W : List Nat) (hls : 1 ≤ ls) (hls6 : ls ≤ 6) (h : mSu S f q W) (hW : wOk W) (hc : f + q.1 + nzC W ≤ 64) (hz : zrC W ≤ 8) (hl : (ixF q.2 q.1).length = bnC W + 1) (K : ms_S → Prop)
    (c : ∀ X, mSg fBd f S X → mSu X f (bdW ls W q).1 (bdW ls W q).2 → wOk (bdW ls W q).2 → (ixF (bdW ls W q).1.2 (bdW ls W q).1.1).length = bnC (bdW ls W q).2 + 1 → zrC (bdW ls W q).2 = zrC W → K X) : ctU G 2 M_X12_bind fr [.ref 0, .int (nI ls)] lM S tl K := by
  refine m_X12_bind (fun n0 => ?_)
  suffices KB : ∀ (W2 : List Nat) (q2 : tDQ) (X : ms_S), mSg fBd f S X → mSu X f q2 W2 → wOk W2 → f + q2.1 + nzC W2 ≤ 64 → zrC W2 ≤ 8 → (ixF q2.2 q2.1).length = bnC W2 + 1 → bdW ls W2 q2 = bdW ls W q → zrC W2 = zrC W → L_X12_bind_0 G fr n0 tl K X (nI ls) from KB W q S mSg.rf h hW hc hz hl rfl rfl
  intro W2
  induction W2 with
  | nil =>
    intro q2 X x1 x2 x3 x4 x5 x6 x7 x8
    refine b_X12_bind_0 ?_
    rw [x2.2.1]
    refine ⟨fun _ => b_X12_bind_76 (c X x1 ?_ ?_ ?_ ?_), fun z => absurd (Int32.le_refl _) z⟩
    · rw [← x7]; exact x2
    · rw [← x7]; exact x3
    · rw [← x7]; exact x6
    · rw [← x7]; exact x8
  | cons k r ih =>
    intro q2 X x1 x2 x3 x4 x5 x6 x7 x8
    have hlen := len_C (k :: r)
    have hbn := bn_le (k :: r)
    obtain ⟨s1, s2, s3, s4, s5, s6⟩ := id x2
    have hk := x3 k List.mem_cons_self
    have s2 : X.1 0 43 = nI (r.length + 1) := s2
    have hrl : r.length + 1 = (k :: r).length := rfl
    have e22 : X.2.2.2.1 22 r.length = nI k := s3.1
    have hr14 : rkN k ≤ 6 := rk_le k
    refine b_X12_bind_0 ?_
    rw [s2, x_le0 (by omega), pk_sub (by omega), show r.length + 1 - 1 = r.length by omega, nI_clamp (by omega), e22]
    have hv : vp_in (nI r.length) 96 := (x_vp (by omega)).mpr (by omega)
    refine ⟨fun z => absurd z (by omega), fun _ => ⟨hv, c_rank G fr X tl k hk.1 _ ?_⟩⟩
    rw [nI_ltI (by omega) (by omega), s2, pk_sub (by omega), show r.length + 1 - 1 = r.length by omega, nI_clamp (by omega), e22]
    rw [show bdW ls (k :: r) q2 = if ls ≤ rkN k then bdW ls r (q2.1 + 1, up q2.2 q2.1 (k, 0)) else (q2, k :: r) from rfl] at x7
    refine ⟨fun z => b_X12_bind_76 ?_, fun z => ⟨hv, ?_⟩⟩
    · rw [if_neg (by omega)] at x7
      refine c X x1 ?_ ?_ ?_ ?_
      · rw [← x7]; exact x2
      · rw [← x7]; exact x3
      · rw [← x7]; exact x6
      · rw [← x7]; exact x8
    rw [if_pos (by omega)] at x7
    have hk0 : ¬ k = 0 := by
      intro y
      subst y
      have : rkN 0 = 0 := rfl
      omega
    have hnz : nzC (k :: r) = 1 + nzC r := by
      show (if k = 0 then 0 else 1) + nzC r = _
      rw [if_neg hk0]
    have hzr : zrC (k :: r) = zrC r := by
      show (if k = 0 then 1 else 0) + zrC r = _
      rw [if_neg hk0, Nat.zero_add]
    have hWr : wOk r := fun y hy => x3 y (List.mem_cons_of_mem _ hy)
    have x9 : mSg fBd f S (sV X 43 (nI r.length)) := x1.tr (mSg.sV rfl)
    rw [nI_eq (by omega) (by decide)]
    -- behind the drops
    have KG : ∀ (st : List Nat) (pa ot : Int32) (Y : ms_S), mSg fBd f S Y → Y.1 0 21 = nI (f + q2.1) → Y.1 0 43 = nI r.length → Y.2.2.2.1 22 = X.2.2.2.1 22 → Y.1 0 44 = nI st.length → st.length < 96 → hR (Y.2.2.2.1 23) f st → knR Y f q2.1 q2.2 → stI (ixF q2.2 q2.1) k q2.1 = q2.1 :: st → st.length + 1 = bnC r + 1 → (k = 2 → ∃ a r, ixF q2.2 q2.1 = a :: r ∧ pa = nI (f + a)) → (3 ≤ k → ∃ c a r, ixF q2.2 q2.1 = c :: a :: r ∧ pa = nI (f + a) ∧ ot = nI (f + c)) → ctU G 1 M_X12_grown fr [.ref 0, .int (nI k), .int pa, .int ot] lM Y tl (fun S2 => L_X12_bind_0 G fr n0 tl K S2 (nI ls)) := by
      intro st pa ot Y y1 y2 y3 y4 y5 y6 y7 y8 y9 y10 y11 y12
      refine u_grown G fr Y tl f q2.1 k 0 q2.2 st pa ot y2 (by omega) y5 y6 y7 y8 y9 hk.1 (fun z => absurd z (by omega)) (fun z => absurd z hk.2) (Nat.zero_le _) y11 y12 r y3 (by rw [y4]; exact s3.2) _ (fun Z w1 w2 => ih _ Z (y1.tr w1) w2 hWr ?_ (by omega) ?_ x7 (by omega))
      · show f + (q2.1 + 1) + nzC r ≤ 64
        omega
      · rw [ixF_s, y9]
        exact y10
    have hbk : bnC (k :: r) = (if 3 ≤ k then 1 else 0) + bnC r := rfl
    refine ⟨fun hk2 => ?_, fun hk2 => ?_⟩
    · subst hk2
      rw [if_neg (by decide)] at hbk
      cases hst : ixF q2.2 q2.1 with
      | nil =>
        rw [hst] at x6
        exact absurd x6 (by show ¬ 0 = _; omega)
      | cons a st =>
        rw [hst] at s4 s5 x6
        have x6 : st.length + 1 = bnC (2 :: r) + 1 := x6
        refine b_X12_bind_58 (u_drop G fr (sV X 43 (nI r.length)) tl f a st s4 (by omega) s5 _ ?_)
        exact KG st _ _ _ (x9.tr (mSg.sV rfl)) s1 rfl rfl rfl (by omega) s5.2 s6 (by rw [hst]; rfl) (by omega) (fun _ => ⟨a, st, hst, rfl⟩) (fun z => absurd z (by decide))
    · have hk3 : 3 ≤ k := by omega
      rw [if_pos hk3] at hbk
      cases hst : ixF q2.2 q2.1 with
      | nil =>
        rw [hst] at x6
        exact absurd x6 (by show ¬ 0 = _; omega)
      | cons c1 st1 =>
        cases st1 with
        | nil =>
          rw [hst] at x6
          exact absurd x6 (by show ¬ 1 = _; omega)
        | cons a st =>
          rw [hst] at s4 s5 x6
          have x6 : st.length + 1 + 1 = bnC (k :: r) + 1 := x6
          refine u_drop G fr (sV X 43 (nI r.length)) tl f c1 (a :: st) s4 (by show st.length + 1 < 96; omega) s5 _ (b_X12_bind_58 (u_drop G fr (sV (sV X 43 (nI r.length)) 44 (nI (a :: st).length)) tl f a st rfl (by omega) s5.2 _ ?_))
          exact KG st _ _ _ ((x9.tr (mSg.sV rfl)).tr (mSg.sV rfl)) s1 rfl rfl rfl (by omega) s5.2.2 s6 (by rw [hst]; unfold stI; rw [if_neg (by omega), if_neg (by omega)]; rfl) (by omega) (fun z => absurd z hk2) (fun _ => ⟨c1, a, st, hst, rfl, rfl⟩)
