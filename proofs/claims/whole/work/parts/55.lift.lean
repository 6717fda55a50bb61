/-! ===== contracts with typed answers; walks between cut points (printed by wip/tools/lift.py) ===== -/
abbrev hLy (lay : List ms_D) (S : ms_S) (tl : ab_H) : ab_H := ms_h S 0 lay ++ tl
def poI (lay : List ms_D) (tl : ab_H) (K : Int32 → ms_S → Prop) (r : Option Value) (h' : ab_H) : Prop := ∃ (v : Int32) (S' : ms_S), r = some (.int v) ∧ h' = hLy lay S' tl ∧ K v S'
def poL (lay : List ms_D) (tl : ab_H) (K : Int64 → ms_S → Prop) (r : Option Value) (h' : ab_H) : Prop := ∃ (v : Int64) (S' : ms_S), r = some (.long v) ∧ h' = hLy lay S' tl ∧ K v S'
def poU (lay : List ms_D) (tl : ab_H) (K : ms_S → Prop) (r : Option Value) (h' : ab_H) : Prop := ∃ (S' : ms_S), r = none ∧ h' = hLy lay S' tl ∧ K S'
def ctI (G : ab_G) (d : Nat) (M : ab_MD) (fr : Bool) (as : List Value) (lay : List ms_D) (S : ms_S) (tl : ab_H) (K : Int32 → ms_S → Prop) : Prop := ab_CT G d M fr as (hLy lay S tl) 0 0 (poI lay tl K)
def ctL (G : ab_G) (d : Nat) (M : ab_MD) (fr : Bool) (as : List Value) (lay : List ms_D) (S : ms_S) (tl : ab_H) (K : Int64 → ms_S → Prop) : Prop := ab_CT G d M fr as (hLy lay S tl) 0 0 (poL lay tl K)
def ctU (G : ab_G) (d : Nat) (M : ab_MD) (fr : Bool) (as : List Value) (lay : List ms_D) (S : ms_S) (tl : ab_H) (K : ms_S → Prop) : Prop := ab_CT G d M fr as (hLy lay S tl) 0 0 (poU lay tl K)
section LF
variable {G : ab_G} {d : Nat} {M : ab_MD} {fr : Bool} {as : List Value} {lay : List ms_D} {S S9 : ms_S} {tl : ab_H}
theorem ctI.mo {K K9 : Int32 → ms_S → Prop} (c : ctI G d M fr as lay S tl K9) (k : ∀ v S', K9 v S' → K v S') : ctI G d M fr as lay S tl K := Met_mono c (fun _ _ ⟨v, S', e1, e2, q⟩ => ⟨v, S', e1, e2, k v S' q⟩)
theorem ctL.mo {K K9 : Int64 → ms_S → Prop} (c : ctL G d M fr as lay S tl K9) (k : ∀ v S', K9 v S' → K v S') : ctL G d M fr as lay S tl K := Met_mono c (fun _ _ ⟨v, S', e1, e2, q⟩ => ⟨v, S', e1, e2, k v S' q⟩)
theorem ctU.mo {K K9 : ms_S → Prop} (c : ctU G d M fr as lay S tl K9) (k : ∀ S', K9 S' → K S') : ctU G d M fr as lay S tl K := Met_mono c (fun _ _ ⟨S', e1, e2, q⟩ => ⟨S', e1, e2, k S' q⟩)
theorem ctI.ab {K0 : Int32 → ms_S → Prop} (h : ∀ K, (∀ v S', K0 v S' → K v S') → ctI G d M fr as lay S tl K) : ctI G d M fr as lay S tl K0 := h K0 (fun _ _ q => q)
theorem ctL.ab {K0 : Int64 → ms_S → Prop} (h : ∀ K, (∀ v S', K0 v S' → K v S') → ctL G d M fr as lay S tl K) : ctL G d M fr as lay S tl K0 := h K0 (fun _ _ q => q)
theorem ctU.ab {K0 : ms_S → Prop} (h : ∀ K, (∀ S', K0 S' → K S') → ctU G d M fr as lay S tl K) : ctU G d M fr as lay S tl K0 := h K0 (fun _ q => q)
/-- out of contracts that say answer and cells -/
theorem ctI.eq {K : Int32 → ms_S → Prop} {v9 : Int32} (c : ab_CT G d M fr as (hLy lay S tl) 0 0 (fun r h' => r = some (.int v9) ∧ h' = hLy lay S9 tl)) (k : K v9 S9) : ctI G d M fr as lay S tl K := Met_mono c (fun _ _ ⟨e1, e2⟩ => ⟨v9, S9, e1, e2, k⟩)
theorem ctL.eq {K : Int64 → ms_S → Prop} {v9 : Int64} (c : ab_CT G d M fr as (hLy lay S tl) 0 0 (fun r h' => r = some (.long v9) ∧ h' = hLy lay S9 tl)) (k : K v9 S9) : ctL G d M fr as lay S tl K := Met_mono c (fun _ _ ⟨e1, e2⟩ => ⟨v9, S9, e1, e2, k⟩)
theorem ctU.eq {K : ms_S → Prop} (c : ab_CT G d M fr as (hLy lay S tl) 0 0 (fun r h' => r = none ∧ h' = hLy lay S9 tl)) (k : K S9) : ctU G d M fr as lay S tl K := Met_mono c (fun _ _ ⟨e1, e2⟩ => ⟨S9, e1, e2, k⟩)
/-- the same with typed ends -/
theorem ctI.e1 {K : Int32 → ms_S → Prop} {v9 : Int32} (c : ctI G d M fr as lay S tl (fun v S' => v = v9 ∧ S' = S9)) (k : K v9 S9) : ctI G d M fr as lay S tl K := c.mo (fun _ _ ⟨e1, e2⟩ => by rw [e1, e2]; exact k)
theorem ctL.e1 {K : Int64 → ms_S → Prop} {v9 : Int64} (c : ctL G d M fr as lay S tl (fun v S' => v = v9 ∧ S' = S9)) (k : K v9 S9) : ctL G d M fr as lay S tl K := c.mo (fun _ _ ⟨e1, e2⟩ => by rw [e1, e2]; exact k)
theorem ctU.e1 {K : ms_S → Prop} (c : ctU G d M fr as lay S tl (fun S' => S' = S9)) (k : K S9) : ctU G d M fr as lay S tl K := c.mo (fun _ e2 => by rw [e2]; exact k)
/-- back to answer and cells -/
theorem ctI.to {v9 : Int32} (c : ctI G d M fr as lay S tl (fun v S' => v = v9 ∧ S' = S9)) : ab_CT G d M fr as (hLy lay S tl) 0 0 (fun r h' => r = some (.int v9) ∧ h' = hLy lay S9 tl) := Met_mono c (fun _ _ ⟨_, _, e1, e2, q1, q2⟩ => ⟨by rw [e1, q1], by rw [e2, q2]⟩)
end LF
theorem wk_0 : ∀ i v, ab_lg [] i = some v → ab_lg [] i = some v := fun _ _ q => q
theorem wk_s {x : Option Value} {L' L : List (Option Value)} (h : ∀ i v, ab_lg L' i = some v → ab_lg L i = some v) : ∀ i v, ab_lg (x :: L') i = some v → ab_lg (x :: L) i = some v
  | 0, _, q => q
  | i + 1, v, q => h i v q
theorem wk_n {x : Option Value} {L' L : List (Option Value)} (h : ∀ i v, ab_lg L' i = some v → ab_lg L i = some v) : ∀ i v, ab_lg (none :: L') i = some v → ab_lg (x :: L) i = some v
  | 0, _, q => by cases q
  | i + 1, v, q => h i v q
theorem nw_b {x : Int32} (h : x = 0 ∨ x = 1) : narrow .boolean (.int x) = .int x := by rcases h with rfl | rfl <;> rfl
theorem bI_01 (b : Bool) : bI b = 0 ∨ bI b = 1 := by cases b <;> decide
section LSW
variable {G : ab_G} {d : Nat} {M : ab_MD} {fr : Bool} {n0 : Nat} {post : Option Value → ab_H → Prop} {pc : Nat} {L : List (Option Value)} {st : List Value} {h : ab_H}
theorem wp_tswN {n9 : Nat} {d9 lo hi : Int} {offs : Array Int} {x : Int32} (sx9 : Int32) (t : Nat) (off : Int) (row : ab_lk M.2.2.2.2.2.2 pc = some (.tableswitch d9 lo hi offs, n9)) (hx : x = sx9) (h1 : decide (sx9.toInt < lo) = false) (h2 : decide (hi < sx9.toInt) = false) (ho : offs[(sx9.toInt - lo).toNat]? = some off) (ht : (pc : Int) + off = (t : Int))
    (k : wp G d M fr n0 post t L st h) : wp G d M fr n0 post pc L (.int x :: st) h := by
  subst hx
  exact wp_tsw row (of_decide_eq_false h1) (of_decide_eq_false h2) ho ht k
theorem wp_tswD {n9 : Nat} {d9 lo hi : Int} {offs : Array Int} {x : Int32} (t : Nat) (ks : List Int32) (row : ab_lk M.2.2.2.2.2.2 pc = some (.tableswitch d9 lo hi offs, n9)) (hall : (List.range (hi - lo + 1).toNat).all (fun j => decide (offs[j]? = some d9) || ks.any (fun k => decide (k.toInt = lo + (j : Int)))) = true) (hn : ∀ k ∈ ks, ¬ x = k) (ht : (pc : Int) + d9 = (t : Int))
    (k : wp G d M fr n0 post t L st h) : wp G d M fr n0 post pc L (.int x :: st) h := by
  by_cases h1 : x.toInt < lo
  · exact wp_tsd row (Or.inl h1) ht k
  by_cases h2 : hi < x.toInt
  · exact wp_tsd row (Or.inr h2) ht k
  have hj := List.all_eq_true.mp hall (x.toInt - lo).toNat (List.mem_range.mpr (by omega))
  simp only [Bool.or_eq_true, decide_eq_true_eq, List.any_eq_true] at hj
  rcases hj with hj | ⟨k9, hk9, hj⟩
  · exact wp_tsw row h1 h2 hj ht k
  · refine absurd ?_ (hn k9 hk9)
    apply Int32.toInt_inj.mp
    rw [hj]
    omega
theorem wp_lswN {n9 : Nat} {d9 : Int} {ps : Array (Int × Int)} {x : Int32} (sx9 : Int32) (t : Nat) (off : Int) (row : ab_lk M.2.2.2.2.2.2 pc = some (.lookupswitch d9 ps, n9)) (hx : x = sx9) (hp : (ps.toList.zip (ps.toList.drop 1)).all (fun (a, next) => a.1 < next.1) = true) (ho : Op.lookupswitch.offset ps.toList d9 sx9.toInt = off) (ht : (pc : Int) + off = (t : Int))
    (k : wp G d M fr n0 post t L st h) : wp G d M fr n0 post pc L (.int x :: st) h := by
  subst hx
  exact wp_lsw row hp ho ht k
theorem lsw_def {d9 x : Int} : ∀ {ps : List (Int × Int)}, (∀ p ∈ ps, ¬ p.1 = x) → Op.lookupswitch.offset ps d9 x = d9
  | [], _ => rfl
  | (a, o) :: r, h => by
    rw [Op.lookupswitch.offset_cons, if_neg (h (a, o) List.mem_cons_self)]
    exact lsw_def (fun p hp => h p (List.mem_cons_of_mem _ hp))
theorem wp_lswD {n9 : Nat} {d9 : Int} {ps : Array (Int × Int)} {x : Int32} (t : Nat) (ks : List Int32) (row : ab_lk M.2.2.2.2.2.2 pc = some (.lookupswitch d9 ps, n9)) (hp : (ps.toList.zip (ps.toList.drop 1)).all (fun (a, next) => a.1 < next.1) = true) (hall : ps.toList.all (fun p => ks.any (fun k => decide (k.toInt = p.1))) = true) (hn : ∀ k ∈ ks, ¬ x = k) (ht : (pc : Int) + d9 = (t : Int))
    (k : wp G d M fr n0 post t L st h) : wp G d M fr n0 post pc L (.int x :: st) h := by
  refine wp_lsw row hp (lsw_def (fun p hp9 z => ?_)) ht k
  have hj := List.all_eq_true.mp hall p hp9
  simp only [decide_eq_true_eq, List.any_eq_true] at hj
  obtain ⟨k9, hk9, hj⟩ := hj
  refine hn k9 hk9 ?_
  apply Int32.toInt_inj.mp
  rw [hj, z]
end LSW
/-! numbers, for simp -/
theorem x_vp {k N : Nat} (hk : k < 2 ^ 31) : vp_in (nI k) N ↔ k < N := by
  unfold vp_in
  rw [nI_clamp hk]
  have := nI_pos (n := k) hk
  constructor
  · intro q
    exact Nat.lt_of_not_le (fun z => q (Or.inr z))
  · intro q z
    rcases z with z | z
    · exact this z
    · omega
theorem x_lt0 {k : Nat} (hk : k < 2 ^ 31) : (nI k < 0) ↔ False := ⟨fun q => nI_pos hk q, False.elim⟩
theorem x_0le {k : Nat} (hk : k < 2 ^ 31) : (0 ≤ nI k) ↔ True := ⟨fun _ => trivial, fun _ => Int32.not_lt.mp (nI_pos hk)⟩
theorem x_eq0 {k : Nat} (hk : k < 2 ^ 31) : (nI k = 0) ↔ k = 0 := nI_eq (b := 0) hk (by decide)
theorem x_0lt {k : Nat} (hk : k < 2 ^ 31) : (0 < nI k) ↔ 0 < k := nI_ltI (a := 0) (by decide) hk
theorem x_le0 {k : Nat} (hk : k < 2 ^ 31) : (nI k ≤ 0) ↔ k = 0 := (nI_leI (b := 0) hk (by decide)).trans (by omega)
theorem x_b0 {b : Bool} : (bI b = 0) ↔ b = false := by cases b <;> decide
theorem x_b1 {b : Bool} : (bI b = nI 1) ↔ b = true := by cases b <;> decide
theorem x_neg {k : Nat} (h0 : 0 < k) (hk : k < 2 ^ 31) : (-(nI k) < 0) ↔ True := ⟨fun _ => trivial, fun _ => neg_neg h0 hk⟩
theorem x_0n {k : Nat} (h0 : 0 < k) (hk : k < 2 ^ 31) : (0 ≤ -(nI k)) ↔ False := ⟨fun q => absurd (neg_neg h0 hk) (Int32.not_lt.mpr q), False.elim⟩
/-! setters of other cells -/
abbrev sVa (S : ms_S) (a k : Nat) (x : Int32) : ms_S := (u2 S.1 a k x, S.2)
abbrev sWa (S : ms_S) (a k : Nat) (x : Int64) : ms_S := (S.1, u2 S.2.1 a k x, S.2.2)
abbrev sRa (S : ms_S) (a k : Nat) (x : Nat) : ms_S := (S.1, S.2.1, u2 S.2.2.1 a k x, S.2.2.2)

