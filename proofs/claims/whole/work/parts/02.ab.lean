/-! ===== ABSTRACT WORLDS: cells by their places, references are places; one step of an abstract machine; its soundness over W ===== -/
abbrev ab_E : Type := (Nat × vp_A) ⊕ (Nat × List Value)
abbrev ab_H : Type := List ab_E
def ab_v (ad : Nat → Nat) : Value → Value
  | .ref k => .ref (ad k)
  | .int x => .int x
  | .long x => .long x
  | v => v
def ab_a (ad : Nat → Nat) : vp_A → vp_A
  | (n, .inr (.inr (.inr (.inr f)))) => (n, .inr (.inr (.inr (.inr (fun j => (f j).map ad)))))
  | x => x
def ab_e (ad : Nat → Nat) (cA : Nat → ClassId) : ab_E → va_E
  | .inl q => .inl (cA q.1, ab_a ad q.2)
  | .inr q => .inr (q.1, q.2.map (ab_v ad))
def ab_w (ad : Nat → Nat) (cA : Nat → ClassId) : Nat → ab_H → va_W
  | _, [] => []
  | k, e :: t => (ad k, ab_e ad cA e) :: ab_w ad cA (k + 1) t
theorem ab_w_get (ad : Nat → Nat) (cA : Nat → ClassId) : ∀ (h : ab_H) (k i : Nat), (ab_w ad cA k h)[i]? = (h[i]?).map (fun e => (ad (k + i), ab_e ad cA e))
  | [], k, i => by simp [ab_w]
  | e :: t, k, 0 => by simp [ab_w]
  | e :: t, k, i + 1 => by
    have h := ab_w_get ad cA t (k + 1) i
    rw [show k + 1 + i = k + (i + 1) by omega] at h
    simpa [ab_w] using h
theorem ab_w_set (ad : Nat → Nat) (cA : Nat → ClassId) (e : ab_E) : ∀ (h : ab_H) (k i : Nat), (ab_w ad cA k h).set i (ad (k + i), ab_e ad cA e) = ab_w ad cA k (h.set i e)
  | [], k, i => by simp [ab_w]
  | e :: t, k, 0 => by simp [ab_w]
  | e' :: t, k, i + 1 => by
    have h := ab_w_set ad cA e t (k + 1) i
    rw [show k + 1 + i = k + (i + 1) by omega] at h
    simpa [ab_w] using h
theorem ab_w_app (ad : Nat → Nat) (cA : Nat → ClassId) (e : ab_E) : ∀ (h : ab_H) (k : Nat), ab_w ad cA k (h ++ [e]) = ab_w ad cA k h ++ [(ad (k + h.length), ab_e ad cA e)]
  | [], k => by simp [ab_w]
  | e' :: t, k => by
    have h := ab_w_app ad cA e t (k + 1)
    rw [show k + 1 + t.length = k + (t.length + 1) by omega] at h
    simpa [ab_w] using h
theorem ab_at {ad : Nat → Nat} {cA : Nat → ClassId} {h : ab_H} {a : Nat} {e : ab_E} (hh : h[a]? = some e) : (ab_w ad cA 0 h)[a]? = some (ad a, ab_e ad cA e) := by
  rw [ab_w_get, hh]
  simp
theorem ab_to {ad : Nat → Nat} {cA : Nat → ClassId} {h : ab_H} (a : Nat) (e : ab_E) : (ab_w ad cA 0 h).set a (ad a, ab_e ad cA e) = ab_w ad cA 0 (h.set a e) := by
  have := ab_w_set ad cA e h 0 a
  rwa [Nat.zero_add] at this
/-! locals -/
def ab_lg : List (Option Value) → Nat → Option Value
  | [], _ => none
  | v :: _, 0 => v
  | _ :: t, n + 1 => ab_lg t n
def ab_k : Option Value → Option Value
  | some (.long _) => none
  | some (.double _) => none
  | w => w
def ab_s1 : List (Option Value) → Nat → Value → List (Option Value)
  | [], _, _ => []
  | _ :: t, 0, v => some v :: t
  | w :: t, 1, v => ab_k w :: ab_s1 t 0 v
  | w :: t, n + 2, v => w :: ab_s1 t (n + 1) v
def ab_t0 : List (Option Value) → List (Option Value)
  | [] => []
  | _ :: t => none :: t
def ab_s2 : List (Option Value) → Nat → Value → List (Option Value)
  | [], _, _ => []
  | _ :: t, 0, v => some v :: ab_t0 t
  | w :: t, 1, v => ab_k w :: ab_s2 t 0 v
  | w :: t, n + 2, v => w :: ab_s2 t (n + 1) v
theorem ab_k_some {w : Option Value} {v : Value} (h : ab_k w = some v) : w = some v ∧ v.category ≠ 2 := by
  cases w with
  | none => cases h
  | some x => cases x <;> simp [ab_k] at h <;> subst h <;> simp [Value.category]
theorem ab_lg_s1 : ∀ (L : List (Option Value)) (i j : Nat) (v w : Value), ab_lg (ab_s1 L i v) j = some w → (j = i ∧ w = v) ∨ (j ≠ i ∧ ab_lg L j = some w ∧ (j + 1 = i → w.category ≠ 2))
  | [], i, j, v, w, h => by simp [ab_s1, ab_lg] at h
  | x :: t, 0, 0, v, w, h => by simp [ab_s1, ab_lg] at h; exact Or.inl ⟨rfl, h.symm⟩
  | x :: t, 0, j + 1, v, w, h => by simp [ab_s1, ab_lg] at h; exact Or.inr ⟨by omega, h, by omega⟩
  | x :: t, 1, 0, v, w, h => by
    have h1 : ab_k x = some w := h
    exact Or.inr ⟨by omega, (ab_k_some h1).1, fun _ => (ab_k_some h1).2⟩
  | x :: t, 1, j + 1, v, w, h => by
    have h1 : ab_lg (ab_s1 t 0 v) j = some w := h
    rcases ab_lg_s1 t 0 j v w h1 with ⟨a, b⟩ | ⟨a, b, c⟩
    · exact Or.inl ⟨by omega, b⟩
    · exact Or.inr ⟨by omega, b, by omega⟩
  | x :: t, i + 2, 0, v, w, h => by
    have h1 : x = some w := h
    exact Or.inr ⟨by omega, h1, by omega⟩
  | x :: t, i + 2, j + 1, v, w, h => by
    have h1 : ab_lg (ab_s1 t (i + 1) v) j = some w := h
    rcases ab_lg_s1 t (i + 1) j v w h1 with ⟨a, b⟩ | ⟨a, b, c⟩
    · exact Or.inl ⟨by omega, b⟩
    · exact Or.inr ⟨by omega, b, fun q => c (by omega)⟩
theorem ab_lg_t0 : ∀ (t : List (Option Value)) (j : Nat) (w : Value), ab_lg (ab_t0 t) j = some w → j ≠ 0 ∧ ab_lg t j = some w
  | [], j, w, h => by simp [ab_t0, ab_lg] at h
  | x :: t, 0, w, h => by simp [ab_t0, ab_lg] at h
  | x :: t, j + 1, w, h => ⟨by omega, h⟩
theorem ab_lg_s2 : ∀ (L : List (Option Value)) (i j : Nat) (v w : Value), ab_lg (ab_s2 L i v) j = some w → (j = i ∧ w = v) ∨ (j ≠ i ∧ j ≠ i + 1 ∧ ab_lg L j = some w ∧ (j + 1 = i → w.category ≠ 2))
  | [], i, j, v, w, h => by simp [ab_s2, ab_lg] at h
  | x :: t, 0, 0, v, w, h => by simp [ab_s2, ab_lg] at h; exact Or.inl ⟨rfl, h.symm⟩
  | x :: t, 0, j + 1, v, w, h => by
    have h1 : ab_lg (ab_t0 t) j = some w := h
    obtain ⟨a, b⟩ := ab_lg_t0 t j w h1
    exact Or.inr ⟨by omega, by omega, b, by omega⟩
  | x :: t, 1, 0, v, w, h => by
    have h1 : ab_k x = some w := h
    exact Or.inr ⟨by omega, by omega, (ab_k_some h1).1, fun _ => (ab_k_some h1).2⟩
  | x :: t, 1, j + 1, v, w, h => by
    have h1 : ab_lg (ab_s2 t 0 v) j = some w := h
    rcases ab_lg_s2 t 0 j v w h1 with ⟨a, b⟩ | ⟨a, b, c, d⟩
    · exact Or.inl ⟨by omega, b⟩
    · exact Or.inr ⟨by omega, by omega, c, by omega⟩
  | x :: t, i + 2, 0, v, w, h => by
    have h1 : x = some w := h
    exact Or.inr ⟨by omega, by omega, h1, by omega⟩
  | x :: t, i + 2, j + 1, v, w, h => by
    have h1 : ab_lg (ab_s2 t (i + 1) v) j = some w := h
    rcases ab_lg_s2 t (i + 1) j v w h1 with ⟨a, b⟩ | ⟨a, b, c, d⟩
    · exact Or.inl ⟨by omega, b⟩
    · exact Or.inr ⟨by omega, by omega, c, fun q => d (by omega)⟩
def ab_ll (ad : Nat → Nat) : Nat → List (Option Value) → List (Nat × Value)
  | _, [] => []
  | k, none :: t => ab_ll ad (k + 1) t
  | k, some v :: t => (k, ab_v ad v) :: ab_ll ad (k + 1) t
theorem ab_ll_of (ad : Nat → Nat) : ∀ (L : List (Option Value)) (k : Nat) (q : Nat × Value), q ∈ ab_ll ad k L → ∃ i v, q.1 = k + i ∧ ab_lg L i = some v ∧ q.2 = ab_v ad v
  | [], k, q, h => by simp [ab_ll] at h
  | none :: t, k, q, h => by
    obtain ⟨i, v, a, b, c⟩ := ab_ll_of ad t (k + 1) q h
    exact ⟨i + 1, v, by omega, b, c⟩
  | some v :: t, k, q, h => by
    rcases List.mem_cons.mp h with h | h
    · exact ⟨0, v, by rw [h]; rfl, rfl, by rw [h]⟩
    · obtain ⟨i, v, a, b, c⟩ := ab_ll_of ad t (k + 1) q h
      exact ⟨i + 1, v, by omega, b, c⟩
theorem ab_ll_to (ad : Nat → Nat) : ∀ (L : List (Option Value)) (k i : Nat) (v : Value), ab_lg L i = some v → (k + i, ab_v ad v) ∈ ab_ll ad k L
  | [], k, i, v, h => by simp [ab_lg] at h
  | none :: t, k, 0, v, h => by simp [ab_lg] at h
  | some w :: t, k, 0, v, h => by
    have h1 : some w = some v := h
    cases h1
    exact List.mem_cons_self
  | none :: t, k, i + 1, v, h => by
    have := ab_ll_to ad t (k + 1) i v h
    rwa [show k + 1 + i = k + (i + 1) by omega] at this
  | some w :: t, k, i + 1, v, h => by
    have := ab_ll_to ad t (k + 1) i v h
    rw [show k + 1 + i = k + (i + 1) by omega] at this
    exact List.mem_cons_of_mem _ this
theorem ab_cat (ad : Nat → Nat) (v : Value) : (ab_v ad v).category = v.category := by cases v <;> rfl
def ab_lv (ad : Nat → Nat) (ls : Array Slot) (n : Nat) (L : List (Option Value)) : Prop := ls.size = n ∧ lv_wf ls ∧ ∀ i v, ab_lg L i = some v → ls[i]? = some (.val (ab_v ad v))
theorem ab_lv_has {ad : Nat → Nat} {ls : Array Slot} {n : Nat} {L : List (Option Value)} (h : ab_lv ad ls n L) : lv_has ls n (ab_ll ad 0 L) := by
  refine ⟨h.1, h.2.1, fun q hq => ?_⟩
  obtain ⟨i, v, a, b, c⟩ := ab_ll_of ad L 0 q hq
  rw [a, c, Nat.zero_add]
  exact h.2.2 i v b
theorem ab_lv_s1 {ad : Nat → Nat} {ls : Array Slot} {n i : Nat} {L : List (Option Value)} {v v' : Value} (hv : ab_v ad v = v') (h : lv_has ls n ((i, v') :: (ab_ll ad 0 L).filter (fun q => !(q.1 == i) && !(q.1 + 1 == i && q.2.category == 2)))) : ab_lv ad ls n (ab_s1 L i v) := by
  subst hv
  refine ⟨h.1, h.2.1, fun j w hj => ?_⟩
  rcases ab_lg_s1 L i j v w hj with ⟨rfl, rfl⟩ | ⟨a, b, c⟩
  · exact h.2.2 (j, ab_v ad w) List.mem_cons_self
  · have h1 := ab_ll_to ad L 0 j w b
    rw [Nat.zero_add] at h1
    refine h.2.2 (j, ab_v ad w) (List.mem_cons_of_mem _ (List.mem_filter.mpr ⟨h1, ?_⟩))
    simp only [Bool.and_eq_true, Bool.not_eq_true', beq_eq_false_iff_ne, ne_eq, Bool.and_eq_false_iff, ab_cat]
    refine ⟨a, ?_⟩
    by_cases q : j + 1 = i
    · exact Or.inr (c q)
    · exact Or.inl q
theorem ab_lv_s2 {ad : Nat → Nat} {ls : Array Slot} {n i : Nat} {L : List (Option Value)} {v v' : Value} (hv : ab_v ad v = v') (h : lv_has ls n ((i, v') :: (ab_ll ad 0 L).filter (fun q => !(q.1 == i) && (!(q.1 == i + 1) && !(q.1 + 1 == i && q.2.category == 2))))) : ab_lv ad ls n (ab_s2 L i v) := by
  subst hv
  refine ⟨h.1, h.2.1, fun j w hj => ?_⟩
  rcases ab_lg_s2 L i j v w hj with ⟨rfl, rfl⟩ | ⟨a, a2, b, c⟩
  · exact h.2.2 (j, ab_v ad w) List.mem_cons_self
  · have h1 := ab_ll_to ad L 0 j w b
    rw [Nat.zero_add] at h1
    refine h.2.2 (j, ab_v ad w) (List.mem_cons_of_mem _ (List.mem_filter.mpr ⟨h1, ?_⟩))
    simp only [Bool.and_eq_true, Bool.not_eq_true', beq_eq_false_iff_ne, ne_eq, Bool.and_eq_false_iff, ab_cat]
    refine ⟨a, a2, ?_⟩
    by_cases q : j + 1 = i
    · exact Or.inr (c q)
    · exact Or.inl q
/-! tables: lists of numbered rows -/
def ab_lk {α : Type} : List (Nat × α) → Nat → Option α
  | [], _ => none
  | (k, a) :: t, i => cond (Nat.beq k i) (some a) (ab_lk t i)
theorem ab_lk_mem {α : Type} : ∀ {l : List (Nat × α)} {i : Nat} {a : α}, ab_lk l i = some a → (i, a) ∈ l
  | [], i, a, h => by simp [ab_lk] at h
  | (k, b) :: t, i, a, h => by
    unfold ab_lk at h
    cases hk : Nat.beq k i with
    | true =>
      rw [hk] at h
      have : k = i := Nat.eq_of_beq_eq_true hk
      subst this
      cases h
      exact List.mem_cons_self
    | false =>
      rw [hk] at h
      exact List.mem_cons_of_mem _ (ab_lk_mem h)
