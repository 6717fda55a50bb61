/-! ===== memories: a fixed layout of cells, numbers by cell and place ===== -/
/-- int fields, long fields, references that change, rows of ints (booleans too), rows of longs -/
abbrev ms_S : Type := (Nat → Nat → Int32) × (Nat → Nat → Int64) × (Nat → Nat → Nat) × (Nat → Nat → Int32) × (Nat → Nat → Int64)
/-- a row of a kind and length; an object with its fields (0 int, 1 long, 2 a fixed reference, 3 a changing one); a fixed row of references -/
abbrev ms_D : Type := (Nat × Nat) ⊕ (Nat × List (Nat × Nat)) ⊕ (Nat × Nat × (Nat → Option Nat))
def ms_fv (S : ms_S) (a k : Nat) : Nat × Nat → Value
  | (0, _) => .int (S.1 a k)
  | (1, _) => .long (S.2.1 a k)
  | (2, d) => .ref d
  | (3, _) => .ref (S.2.2.1 a k)
  | _ => .null
def ms_f (S : ms_S) (a : Nat) : Nat → List (Nat × Nat) → List Value
  | _, [] => []
  | k, q :: t => ms_fv S a k q :: ms_f S a (k + 1) t
def ms_c (S : ms_S) (a : Nat) : ms_D → ab_E
  | .inl (1, n) => .inl (1, n, .inr (.inl (S.2.2.2.2 a)))
  | .inl (k, n) => .inl (k, n, .inl (S.2.2.2.1 a))
  | .inr (.inl (ci, fs)) => .inr (ci, ms_f S a 0 fs)
  | .inr (.inr (k, n, f)) => .inl (k, n, .inr (.inr (.inr (.inr f))))
def ms_h (S : ms_S) : Nat → List ms_D → ab_H
  | _, [] => []
  | a, d :: t => ms_c S a d :: ms_h S (a + 1) t
def u2 {α : Type} (V : Nat → Nat → α) (a k : Nat) (x : α) : Nat → Nat → α := fun a' k' => cond (Nat.beq a' a && Nat.beq k' k) x (V a' k')
def u1 {α : Type} (A : Nat → α) (a : Nat) (f : α) : Nat → α := fun a' => cond (Nat.beq a' a) f (A a')
theorem u2_ne {α : Type} {V : Nat → Nat → α} {a k a' k' : Nat} {x : α} (h : a' ≠ a ∨ k' ≠ k) : u2 V a k x a' k' = V a' k' := by
  unfold u2
  cases hb : (Nat.beq a' a && Nat.beq k' k) with
  | false => rfl
  | true =>
    simp only [Bool.and_eq_true] at hb
    have h1 := Nat.eq_of_beq_eq_true hb.1
    have h2 := Nat.eq_of_beq_eq_true hb.2
    rcases h with h | h <;> contradiction
theorem u2_eq {α : Type} {V : Nat → Nat → α} {a k : Nat} {x : α} : u2 V a k x a k = x := by
  unfold u2
  rw [Nat.beq_refl, Nat.beq_refl]
  rfl
theorem u1_ne {α : Type} {V : Nat → α} {a a' : Nat} {x : α} (h : a' ≠ a) : u1 V a x a' = V a' := by
  unfold u1
  cases hb : Nat.beq a' a with
  | false => rfl
  | true => exact absurd (Nat.eq_of_beq_eq_true hb) h
theorem u1_eq {α : Type} {V : Nat → α} {a : Nat} {x : α} : u1 V a x a = x := by
  unfold u1
  rw [Nat.beq_refl]
  rfl
theorem ms_f_get (S : ms_S) (a : Nat) : ∀ (fs : List (Nat × Nat)) (k0 k : Nat), (ms_f S a k0 fs)[k]? = (fs[k]?).map (ms_fv S a (k0 + k))
  | [], k0, k => by simp [ms_f]
  | q :: t, k0, 0 => by simp [ms_f]
  | q :: t, k0, k + 1 => by
    have h := ms_f_get S a t (k0 + 1) k
    rw [show k0 + 1 + k = k0 + (k + 1) by omega] at h
    simpa [ms_f] using h
theorem ms_f_len (S : ms_S) (a : Nat) : ∀ (fs : List (Nat × Nat)) (k0 : Nat), (ms_f S a k0 fs).length = fs.length
  | [], k0 => rfl
  | q :: t, k0 => by simp [ms_f, ms_f_len S a t (k0 + 1)]
theorem ms_h_get (S : ms_S) : ∀ (lay : List ms_D) (a0 i : Nat), (ms_h S a0 lay)[i]? = (lay[i]?).map (ms_c S (a0 + i))
  | [], a0, i => by simp [ms_h]
  | d :: t, a0, 0 => by simp [ms_h]
  | d :: t, a0, i + 1 => by
    have h := ms_h_get S t (a0 + 1) i
    rw [show a0 + 1 + i = a0 + (i + 1) by omega] at h
    simpa [ms_h] using h
theorem ms_h_len (S : ms_S) : ∀ (lay : List ms_D) (a0 : Nat), (ms_h S a0 lay).length = lay.length
  | [], a0 => rfl
  | d :: t, a0 => by simp [ms_h, ms_h_len S t (a0 + 1)]
theorem ms_get {S : ms_S} {lay : List ms_D} {tl : ab_H} {a : Nat} {d : ms_D} (h : lay[a]? = some d) : (ms_h S 0 lay ++ tl)[a]? = some (ms_c S a d) := by
  have hl : a < lay.length := (List.getElem?_eq_some_iff.mp h).1
  rw [List.getElem?_append_left (by rw [ms_h_len]; exact hl), ms_h_get, h, Nat.zero_add]
  rfl
/-- one cell changes -/
theorem ms_set {S S' : ms_S} {lay : List ms_D} {tl : ab_H} {a : Nat} {d : ms_D} (h : lay[a]? = some d) (ho : ∀ (i : Nat) (d' : ms_D), i ≠ a → ms_c S i d' = ms_c S' i d') : (ms_h S 0 lay ++ tl).set a (ms_c S' a d) = ms_h S' 0 lay ++ tl := by
  have hl : a < lay.length := (List.getElem?_eq_some_iff.mp h).1
  apply List.ext_getElem?
  intro i
  by_cases hi : i = a
  · subst hi
    rw [List.getElem?_set_self (by rw [List.length_append, ms_h_len]; omega), ms_get h]
  · rw [List.getElem?_set_ne (Ne.symm hi)]
    by_cases hq : i < lay.length
    · have h1 : lay[i]? = some lay[i] := List.getElem?_eq_getElem hq
      rw [ms_get h1, ms_get h1, ho i _ hi]
    · rw [List.getElem?_append_right (by rw [ms_h_len]; omega), List.getElem?_append_right (by rw [ms_h_len]; omega), ms_h_len, ms_h_len]
theorem ms_f_congr {S S' : ms_S} {a : Nat} (h1 : ∀ k, S.1 a k = S'.1 a k) (h2 : ∀ k, S.2.1 a k = S'.2.1 a k) (h3 : ∀ k, S.2.2.1 a k = S'.2.2.1 a k) : ∀ (fs : List (Nat × Nat)) (k : Nat), ms_f S a k fs = ms_f S' a k fs
  | [], k => rfl
  | q :: t, k => by
    have e : ms_fv S a k q = ms_fv S' a k q := by
      unfold ms_fv
      split <;> simp [h1, h2, h3]
    simp only [ms_f, e, ms_f_congr h1 h2 h3 t (k + 1)]
theorem ms_c_congr {S S' : ms_S} {a : Nat} (h1 : ∀ k, S.1 a k = S'.1 a k) (h2 : ∀ k, S.2.1 a k = S'.2.1 a k) (h3 : ∀ k, S.2.2.1 a k = S'.2.2.1 a k) (h4 : S.2.2.2.1 a = S'.2.2.2.1 a) (h5 : S.2.2.2.2 a = S'.2.2.2.2 a) (d : ms_D) : ms_c S a d = ms_c S' a d := by
  unfold ms_c
  split
  · rw [h5]
  · rw [h4]
  · rw [ms_f_congr h1 h2 h3]
  · rfl
/-- one field changes: what its cell holds then -/
theorem ms_f_set {S S' : ms_S} {a : Nat} {v : Value} : ∀ (fs : List (Nat × Nat)) (k0 k : Nat) (q : Nat × Nat), fs[k]? = some q → ms_fv S' a (k0 + k) q = v → (∀ (j : Nat) (q' : Nat × Nat), j ≠ k0 + k → ms_fv S a j q' = ms_fv S' a j q') → (ms_f S a k0 fs).set k v = ms_f S' a k0 fs
  | [], k0, k, q, h, hv, ho => by simp at h
  | q0 :: t, k0, 0, q, h, hv, ho => by
    simp only [List.getElem?_cons_zero, Option.some.injEq] at h
    subst h
    have e : ∀ (l : List (Nat × Nat)) (k1 : Nat), k0 < k1 → ms_f S a k1 l = ms_f S' a k1 l := by
      intro l
      induction l with
      | nil => intro k1 _; rfl
      | cons x t ih => intro k1 h1; simp only [ms_f, ho k1 x (by omega), ih (k1 + 1) (by omega)]
    have hv' : ms_fv S' a k0 q0 = v := hv
    simp only [ms_f, List.set_cons_zero, hv', e t (k0 + 1) (by omega)]
  | q0 :: t, k0, k + 1, q, h, hv, ho => by
    have h' : t[k]? = some q := by simpa using h
    have := ms_f_set (v := v) t (k0 + 1) k q h' (by rw [show k0 + 1 + k = k0 + (k + 1) by omega]; exact hv) (fun j q' hj => ho j q' (by omega))
    simp only [ms_f, List.set_cons_succ, this, ho k0 q0 (by omega)]
/-! one step over a memory -/
abbrev ms_R : Type := Prop × Nat × List (Option Value) × List Value × ms_S
def ms_gf (S : ms_S) (a : Nat) (r : Option (Nat × Nat × Nat × Bool)) (d : Option ms_D) : Option Value := match r, d with
  | some (ci, k, _, _), some (.inr (.inl (ci', fs))) => match fs[k]? with
    | some q => cond (Nat.beq ci ci') (some (ms_fv S a k q)) none
    | none => none
  | _, _ => none
def ms_pf (S : ms_S) (a : Nat) (v : Value) (r : Option (Nat × Nat × Nat × Bool)) (d : Option ms_D) : Option (Prop × ms_S) := match r, d with
  | some (ci, k, ty, fin), some (.inr (.inl (ci', fs))) => match fs[k]?, v with
    | some (0, _), .int x => cond (Nat.beq ci ci' && !fin) (some (ab_fg ty (.int x), (u2 S.1 a k x, S.2))) none
    | some (1, _), .long x => cond (Nat.beq ci ci' && !fin) (some (ab_fg ty (.long x), (S.1, u2 S.2.1 a k x, S.2.2))) none
    | some (3, _), .ref x => cond (Nat.beq ci ci' && !fin) (some (ab_fg ty (.ref x), (S.1, S.2.1, u2 S.2.2.1 a k x, S.2.2.2))) none
    | _, _ => none
  | _, _ => none
def ms_in (M : ab_MD) (lay : List ms_D) (n pc : Nat) (L : List (Option Value)) (S : ms_S) : Instr → List Value → Option ms_R
  | .getfield i, .ref a :: st => match ms_gf S a (ab_lk M.1.2.2.1 i) lay[a]? with
    | some v => some (True, pc + n, L, v :: st, S)
    | none => none
  | .putfield i, v :: .ref a :: st => match ms_pf S a v (ab_lk M.1.2.2.1 i) lay[a]? with
    | some r => some (r.1, pc + n, L, st, r.2)
    | none => none
  | .iaload, .int i :: .ref a :: st => match lay[a]? with
    | some (.inl (0, N)) => some (vp_in i N, pc + n, L, .int (S.2.2.2.1 a i.toNatClampNeg) :: st, S)
    | _ => none
  | .laload, .int i :: .ref a :: st => match lay[a]? with
    | some (.inl (1, N)) => some (vp_in i N, pc + n, L, .long (S.2.2.2.2 a i.toNatClampNeg) :: st, S)
    | _ => none
  | .baload, .int i :: .ref a :: st => match lay[a]? with
    | some (.inl (2, N)) => some (vp_in i N, pc + n, L, .int (S.2.2.2.1 a i.toNatClampNeg) :: st, S)
    | _ => none
  | .aaload, .int i :: .ref a :: st => match lay[a]? with
    | some (.inr (.inr (3, N, f))) => some (vp_in i N, pc + n, L, va_rf (f i.toNatClampNeg) :: st, S)
    | some (.inr (.inr (4, N, f))) => some (vp_in i N, pc + n, L, va_rf (f i.toNatClampNeg) :: st, S)
    | _ => none
  | .iastore, .int x :: .int i :: .ref a :: st => match lay[a]? with
    | some (.inl (0, N)) => some (vp_in i N, pc + n, L, st, (S.1, S.2.1, S.2.2.1, u1 S.2.2.2.1 a (upd (S.2.2.2.1 a) i.toNatClampNeg x), S.2.2.2.2))
    | _ => none
  | .lastore, .long x :: .int i :: .ref a :: st => match lay[a]? with
    | some (.inl (1, N)) => some (vp_in i N, pc + n, L, st, (S.1, S.2.1, S.2.2.1, S.2.2.2.1, u1 S.2.2.2.2 a (vp_updL (S.2.2.2.2 a) i.toNatClampNeg x)))
    | _ => none
  | .bastore, .int x :: .int i :: .ref a :: st => match lay[a]? with
    | some (.inl (2, N)) => some (vp_in i N, pc + n, L, st, (S.1, S.2.1, S.2.2.1, u1 S.2.2.2.1 a (upd (S.2.2.2.1 a) i.toNatClampNeg (x &&& 1)), S.2.2.2.2))
    | _ => none
  | .arraylength, .ref a :: st => match lay[a]? with
    | some (.inl (0, N)) => some (True, pc + n, L, .int (nI N) :: st, S)
    | some (.inl (1, N)) => some (True, pc + n, L, .int (nI N) :: st, S)
    | some (.inl (2, N)) => some (True, pc + n, L, .int (nI N) :: st, S)
    | _ => none
  | .iconst (.ofNat k9), st => some (True, pc + n, L, .int (nI k9) :: st, S)
  | .iconst (.negSucc k9), st => some (True, pc + n, L, .int (-(nI (k9 + 1))) :: st, S)
  | .bipush (.ofNat k9), st => some (True, pc + n, L, .int (nI k9) :: st, S)
  | .sipush (.ofNat k9), st => some (True, pc + n, L, .int (nI k9) :: st, S)
  | .iinc i (.ofNat k9), st => match ab_lg L i with
    | some (.int x) => cond (Nat.blt i M.2.2.2.1) (some (True, pc + n, ab_s1 L i (.int (x + nI k9)), st, S)) none
    | _ => none
  | ins, st => match ab_op ins st with
    | some (g, st') => some (g, pc + n, L, st', S)
    | none => match ab_mv M n pc L [] ins st with
      | some (g, pc', L', st', _) => some (g, pc', L', st', S)
      | none => none
def ms_st (M : ab_MD) (lay : List ms_D) (pc : Nat) (L : List (Option Value)) (st : List Value) (S : ms_S) : Option ms_R := match ab_lk M.2.2.2.2.2.2 pc with
  | some (ins, n) => ms_in M lay n pc L S ins st
  | none => none
set_option maxHeartbeats 4000000 in
theorem ms_nil {M : ab_MD} {n pc pc' : Nat} {L L' : List (Option Value)} {st st' : List Value} {ins : Instr} {g : Prop} {h0 : ab_H} (ho : ab_mv M n pc L [] ins st = some (g, pc', L', st', h0)) (h : ab_H) : ab_mv M n pc L h ins st = some (g, pc', L', st', h) := by
  unfold ab_mv at ho ⊢
  split at ho
  all_goals first
    | (unfold ab_ldI at ho ⊢; split at ho <;> cases ho <;> rfl)
    | (unfold ab_ldL at ho ⊢; split at ho <;> cases ho <;> rfl)
    | (unfold ab_ldA at ho ⊢; split at ho <;> cases ho <;> rfl)
    | (cases hq : Nat.blt _ M.2.2.2.1 <;> rw [hq] at ho <;> cases ho; rfl)
    | (simp [ab_gf] at ho; done)
    | (simp [ab_pf] at ho; done)
    | (simp at ho; done)
    | (split at ho <;> cases ho <;> rfl)
    | (split at ho <;> (try cases ho) <;> (cases hq : Nat.blt _ M.2.2.2.1 <;> rw [hq] at ho <;> cases ho; rfl))
    | skip
theorem ms_c_other {S S' : ms_S} {a : Nat} (h1 : ∀ i k, i ≠ a → S.1 i k = S'.1 i k) (h2 : ∀ i k, i ≠ a → S.2.1 i k = S'.2.1 i k) (h3 : ∀ i k, i ≠ a → S.2.2.1 i k = S'.2.2.1 i k) (h4 : ∀ i, i ≠ a → S.2.2.2.1 i = S'.2.2.2.1 i) (h5 : ∀ i, i ≠ a → S.2.2.2.2 i = S'.2.2.2.2 i) : ∀ (i : Nat) (d' : ms_D), i ≠ a → ms_c S i d' = ms_c S' i d' :=
  fun i d' hi => ms_c_congr (fun k => h1 i k hi) (fun k => h2 i k hi) (fun k => h3 i k hi) (h4 i hi) (h5 i hi) d'
theorem ms_gf_ok {S : ms_S} {lay : List ms_D} {tl : ab_H} {ad9 pc : Nat} {r : Option (Nat × Nat × Nat × Bool)} {v : Value} {L : List (Option Value)} {st : List Value} {h : ab_H} (hv : ms_gf S ad9 r lay[ad9]? = some v) : ab_gf r (ms_h S 0 lay ++ tl)[ad9]? pc L st h = some (True, pc, L, v :: st, h) := by
  unfold ms_gf at hv
  split at hv
  · rename_i ci kk ty fin ci' fs hl
    split at hv
    · rename_i q hq
      cases hb : Nat.beq ci ci' <;> rw [hb] at hv <;> cases hv
      have e1 := ms_get (S := S) (tl := tl) hl
      have e2 := ms_f_get S ad9 fs 0 kk
      rw [hq, Nat.zero_add] at e2
      unfold ab_gf
      rw [e1]
      show (match (ms_f S ad9 0 fs)[kk]? with | some v => cond (Nat.beq ci ci') (some (True, pc, L, v :: st, h)) none | none => none) = _
      rw [e2, hb]
      rfl
    · cases hv
  · cases hv
theorem ms_pf_key {S S9 : ms_S} {lay : List ms_D} {tl : ab_H} {ad9 pc oci ci kk ty : Nat} {ini fin : Bool} {fs : List (Nat × Nat)} {q : Nat × Nat} {v9 : Value} {L : List (Option Value)} {st : List Value} (hl : lay[ad9]? = some (.inr (.inl (ci, fs)))) (hq : fs[kk]? = some q) (hfin : fin = false) (hv : ms_fv S9 ad9 kk q = v9) (hf : ∀ (j : Nat) (q' : Nat × Nat), j ≠ kk → ms_fv S ad9 j q' = ms_fv S9 ad9 j q') (ho : ∀ (i : Nat) (d' : ms_D), i ≠ ad9 → ms_c S i d' = ms_c S9 i d') :
    ab_pf oci ini (some (ci, kk, ty, fin)) ad9 v9 (ms_h S 0 lay ++ tl)[ad9]? pc L st (ms_h S 0 lay ++ tl) = some (ab_fg ty v9, pc, L, st, ms_h S9 0 lay ++ tl) := by
  subst hfin
  have hlen : Nat.blt kk (ms_f S ad9 0 fs).length = true := by
    rw [ms_f_len]
    exact Nat.ble_eq_true_of_le (List.getElem?_eq_some_iff.mp hq).1
  have e0 := ms_get (S := S) (tl := tl) hl
  have e1 := ms_f_set (S := S) (S' := S9) (a := ad9) (v := v9) fs 0 kk q hq (by rw [Nat.zero_add]; exact hv) (fun j q' hj => hf j q' (by omega))
  have e2 := ms_set (S := S) (S' := S9) (tl := tl) hl ho
  unfold ab_pf
  rw [e0]
  show cond (Nat.beq ci ci && Nat.blt kk (ms_f S ad9 0 fs).length && (!false || (ini && Nat.beq ci oci))) (some (ab_fg ty v9, pc, L, st, (ms_h S 0 lay ++ tl).set ad9 (.inr (ci, (ms_f S ad9 0 fs).set kk v9)))) none = _
  rw [hlen, Nat.beq_refl, e1]
  rw [← e2]
  rfl
theorem ms_pf_ok {S S9 : ms_S} {lay : List ms_D} {tl : ab_H} {ad9 pc oci : Nat} {ini : Bool} {r : Option (Nat × Nat × Nat × Bool)} {v : Value} {g : Prop} {L : List (Option Value)} {st : List Value} (hv : ms_pf S ad9 v r lay[ad9]? = some (g, S9)) : ab_pf oci ini r ad9 v (ms_h S 0 lay ++ tl)[ad9]? pc L st (ms_h S 0 lay ++ tl) = some (g, pc, L, st, ms_h S9 0 lay ++ tl) := by
  unfold ms_pf at hv
  split at hv
  · rename_i ci kk ty fin ci' fs hl
    split at hv
    · rename_i d9 x9 hq
      cases hb : (Nat.beq ci ci' && !fin) <;> rw [hb] at hv <;> cases hv
      simp only [Bool.and_eq_true, Bool.not_eq_true'] at hb
      have hc := Nat.eq_of_beq_eq_true hb.1
      subst hc
      exact ms_pf_key (S9 := (u2 S.1 ad9 kk x9, S.2)) hl hq hb.2 (by show Value.int (u2 S.1 ad9 kk x9 ad9 kk) = _; rw [u2_eq]) (fun j q' hj => by unfold ms_fv; split <;> simp [u2_ne (Or.inr hj)]) (ms_c_other (fun i k' hi => (u2_ne (Or.inl hi)).symm) (fun _ _ _ => rfl) (fun _ _ _ => rfl) (fun _ _ => rfl) (fun _ _ => rfl))
    · rename_i d9 x9 hq
      cases hb : (Nat.beq ci ci' && !fin) <;> rw [hb] at hv <;> cases hv
      simp only [Bool.and_eq_true, Bool.not_eq_true'] at hb
      have hc := Nat.eq_of_beq_eq_true hb.1
      subst hc
      exact ms_pf_key (S9 := (S.1, u2 S.2.1 ad9 kk x9, S.2.2)) hl hq hb.2 (by show Value.long (u2 S.2.1 ad9 kk x9 ad9 kk) = _; rw [u2_eq]) (fun j q' hj => by unfold ms_fv; split <;> simp [u2_ne (Or.inr hj)]) (ms_c_other (fun _ _ _ => rfl) (fun i k' hi => (u2_ne (Or.inl hi)).symm) (fun _ _ _ => rfl) (fun _ _ => rfl) (fun _ _ => rfl))
    · rename_i d9 x9 hq
      cases hb : (Nat.beq ci ci' && !fin) <;> rw [hb] at hv <;> cases hv
      simp only [Bool.and_eq_true, Bool.not_eq_true'] at hb
      have hc := Nat.eq_of_beq_eq_true hb.1
      subst hc
      exact ms_pf_key (S9 := (S.1, S.2.1, u2 S.2.2.1 ad9 kk x9, S.2.2.2)) hl hq hb.2 (by show Value.ref (u2 S.2.2.1 ad9 kk x9 ad9 kk) = _; rw [u2_eq]) (fun j q' hj => by unfold ms_fv; split <;> simp [u2_ne (Or.inr hj)]) (ms_c_other (fun _ _ _ => rfl) (fun _ _ _ => rfl) (fun i k' hi => (u2_ne (Or.inl hi)).symm) (fun _ _ => rfl) (fun _ _ => rfl))
    · cases hv
  · cases hv
theorem ms_a0 {S : ms_S} {lay : List ms_D} {tl : ab_H} {ad9 N : Nat} (f : Nat → Int32) (hl : lay[ad9]? = some (.inl (0, N))) : (ms_h S 0 lay ++ tl).set ad9 (.inl (0, N, .inl f)) = ms_h (S.1, S.2.1, S.2.2.1, u1 S.2.2.2.1 ad9 f, S.2.2.2.2) 0 lay ++ tl := by
  have e := ms_set (S := S) (S' := (S.1, S.2.1, S.2.2.1, u1 S.2.2.2.1 ad9 f, S.2.2.2.2)) (tl := tl) hl (ms_c_other (fun _ _ _ => rfl) (fun _ _ _ => rfl) (fun _ _ _ => rfl) (fun i hi => (u1_ne hi).symm) (fun _ _ => rfl))
  rw [← e]
  show _ = (ms_h S 0 lay ++ tl).set ad9 (.inl (0, N, .inl (u1 S.2.2.2.1 ad9 f ad9)))
  rw [u1_eq]
theorem ms_a2 {S : ms_S} {lay : List ms_D} {tl : ab_H} {ad9 N : Nat} (f : Nat → Int32) (hl : lay[ad9]? = some (.inl (2, N))) : (ms_h S 0 lay ++ tl).set ad9 (.inl (2, N, .inl f)) = ms_h (S.1, S.2.1, S.2.2.1, u1 S.2.2.2.1 ad9 f, S.2.2.2.2) 0 lay ++ tl := by
  have e := ms_set (S := S) (S' := (S.1, S.2.1, S.2.2.1, u1 S.2.2.2.1 ad9 f, S.2.2.2.2)) (tl := tl) hl (ms_c_other (fun _ _ _ => rfl) (fun _ _ _ => rfl) (fun _ _ _ => rfl) (fun i hi => (u1_ne hi).symm) (fun _ _ => rfl))
  rw [← e]
  show _ = (ms_h S 0 lay ++ tl).set ad9 (.inl (2, N, .inl (u1 S.2.2.2.1 ad9 f ad9)))
  rw [u1_eq]
theorem ms_a1 {S : ms_S} {lay : List ms_D} {tl : ab_H} {ad9 N : Nat} (f : Nat → Int64) (hl : lay[ad9]? = some (.inl (1, N))) : (ms_h S 0 lay ++ tl).set ad9 (.inl (1, N, .inr (.inl f))) = ms_h (S.1, S.2.1, S.2.2.1, S.2.2.2.1, u1 S.2.2.2.2 ad9 f) 0 lay ++ tl := by
  have e := ms_set (S := S) (S' := (S.1, S.2.1, S.2.2.1, S.2.2.2.1, u1 S.2.2.2.2 ad9 f)) (tl := tl) hl (ms_c_other (fun _ _ _ => rfl) (fun _ _ _ => rfl) (fun _ _ _ => rfl) (fun _ _ => rfl) (fun i hi => (u1_ne hi).symm))
  rw [← e]
  show _ = (ms_h S 0 lay ++ tl).set ad9 (.inl (1, N, .inr (.inl (u1 S.2.2.2.2 ad9 f ad9))))
  rw [u1_eq]
theorem ms_iald {M : ab_MD} {lay : List ms_D} {n pc ad9 N : Nat} {L : List (Option Value)} {st : List Value} {S : ms_S} {tl : ab_H} {i9 : Int32} (hl : lay[ad9]? = some (.inl (0, N))) : ab_in M n pc L (.int i9 :: .ref ad9 :: st) (ms_h S 0 lay ++ tl) .iaload = some (vp_in i9 N, pc + n, L, .int (S.2.2.2.1 ad9 i9.toNatClampNeg) :: st, ms_h S 0 lay ++ tl) := by
  rw [show ab_in M n pc L (.int i9 :: .ref ad9 :: st) (ms_h S 0 lay ++ tl) .iaload = ab_mv M n pc L (ms_h S 0 lay ++ tl) .iaload (.int i9 :: .ref ad9 :: st) from rfl]
  unfold ab_mv
  dsimp only
  rw [ms_get hl]
  rfl
theorem ms_lald {M : ab_MD} {lay : List ms_D} {n pc ad9 N : Nat} {L : List (Option Value)} {st : List Value} {S : ms_S} {tl : ab_H} {i9 : Int32} (hl : lay[ad9]? = some (.inl (1, N))) : ab_in M n pc L (.int i9 :: .ref ad9 :: st) (ms_h S 0 lay ++ tl) .laload = some (vp_in i9 N, pc + n, L, .long (S.2.2.2.2 ad9 i9.toNatClampNeg) :: st, ms_h S 0 lay ++ tl) := by
  rw [show ab_in M n pc L (.int i9 :: .ref ad9 :: st) (ms_h S 0 lay ++ tl) .laload = ab_mv M n pc L (ms_h S 0 lay ++ tl) .laload (.int i9 :: .ref ad9 :: st) from rfl]
  unfold ab_mv
  dsimp only
  rw [ms_get hl]
  rfl
theorem ms_bald {M : ab_MD} {lay : List ms_D} {n pc ad9 N : Nat} {L : List (Option Value)} {st : List Value} {S : ms_S} {tl : ab_H} {i9 : Int32} (hl : lay[ad9]? = some (.inl (2, N))) : ab_in M n pc L (.int i9 :: .ref ad9 :: st) (ms_h S 0 lay ++ tl) .baload = some (vp_in i9 N, pc + n, L, .int (S.2.2.2.1 ad9 i9.toNatClampNeg) :: st, ms_h S 0 lay ++ tl) := by
  rw [show ab_in M n pc L (.int i9 :: .ref ad9 :: st) (ms_h S 0 lay ++ tl) .baload = ab_mv M n pc L (ms_h S 0 lay ++ tl) .baload (.int i9 :: .ref ad9 :: st) from rfl]
  unfold ab_mv
  dsimp only
  rw [ms_get hl]
  rfl
theorem ms_aald3 {M : ab_MD} {lay : List ms_D} {n pc ad9 N : Nat} {L : List (Option Value)} {st : List Value} {S : ms_S} {tl : ab_H} {i9 : Int32} {f9 : Nat → Option Nat} (hl : lay[ad9]? = some (.inr (.inr (3, N, f9)))) : ab_in M n pc L (.int i9 :: .ref ad9 :: st) (ms_h S 0 lay ++ tl) .aaload = some (vp_in i9 N, pc + n, L, va_rf (f9 i9.toNatClampNeg) :: st, ms_h S 0 lay ++ tl) := by
  rw [show ab_in M n pc L (.int i9 :: .ref ad9 :: st) (ms_h S 0 lay ++ tl) .aaload = ab_mv M n pc L (ms_h S 0 lay ++ tl) .aaload (.int i9 :: .ref ad9 :: st) from rfl]
  unfold ab_mv
  dsimp only
  rw [ms_get hl]
  rfl
theorem ms_aald4 {M : ab_MD} {lay : List ms_D} {n pc ad9 N : Nat} {L : List (Option Value)} {st : List Value} {S : ms_S} {tl : ab_H} {i9 : Int32} {f9 : Nat → Option Nat} (hl : lay[ad9]? = some (.inr (.inr (4, N, f9)))) : ab_in M n pc L (.int i9 :: .ref ad9 :: st) (ms_h S 0 lay ++ tl) .aaload = some (vp_in i9 N, pc + n, L, va_rf (f9 i9.toNatClampNeg) :: st, ms_h S 0 lay ++ tl) := by
  rw [show ab_in M n pc L (.int i9 :: .ref ad9 :: st) (ms_h S 0 lay ++ tl) .aaload = ab_mv M n pc L (ms_h S 0 lay ++ tl) .aaload (.int i9 :: .ref ad9 :: st) from rfl]
  unfold ab_mv
  dsimp only
  rw [ms_get hl]
  rfl
theorem ms_iast {M : ab_MD} {lay : List ms_D} {n pc ad9 N : Nat} {L : List (Option Value)} {st : List Value} {S : ms_S} {tl : ab_H} {i9 x9 : Int32} (hl : lay[ad9]? = some (.inl (0, N))) : ab_in M n pc L (.int x9 :: .int i9 :: .ref ad9 :: st) (ms_h S 0 lay ++ tl) .iastore = some (vp_in i9 N, pc + n, L, st, ms_h (S.1, S.2.1, S.2.2.1, u1 S.2.2.2.1 ad9 (upd (S.2.2.2.1 ad9) i9.toNatClampNeg x9), S.2.2.2.2) 0 lay ++ tl) := by
  rw [show ab_in M n pc L (.int x9 :: .int i9 :: .ref ad9 :: st) (ms_h S 0 lay ++ tl) .iastore = ab_mv M n pc L (ms_h S 0 lay ++ tl) .iastore (.int x9 :: .int i9 :: .ref ad9 :: st) from rfl]
  unfold ab_mv
  dsimp only
  rw [ms_get hl]
  rw [← ms_a0 _ hl]
  rfl
theorem ms_last {M : ab_MD} {lay : List ms_D} {n pc ad9 N : Nat} {L : List (Option Value)} {st : List Value} {S : ms_S} {tl : ab_H} {i9 : Int32} {x9 : Int64} (hl : lay[ad9]? = some (.inl (1, N))) : ab_in M n pc L (.long x9 :: .int i9 :: .ref ad9 :: st) (ms_h S 0 lay ++ tl) .lastore = some (vp_in i9 N, pc + n, L, st, ms_h (S.1, S.2.1, S.2.2.1, S.2.2.2.1, u1 S.2.2.2.2 ad9 (vp_updL (S.2.2.2.2 ad9) i9.toNatClampNeg x9)) 0 lay ++ tl) := by
  rw [show ab_in M n pc L (.long x9 :: .int i9 :: .ref ad9 :: st) (ms_h S 0 lay ++ tl) .lastore = ab_mv M n pc L (ms_h S 0 lay ++ tl) .lastore (.long x9 :: .int i9 :: .ref ad9 :: st) from rfl]
  unfold ab_mv
  dsimp only
  rw [ms_get hl]
  rw [← ms_a1 _ hl]
  rfl
theorem ms_bast {M : ab_MD} {lay : List ms_D} {n pc ad9 N : Nat} {L : List (Option Value)} {st : List Value} {S : ms_S} {tl : ab_H} {i9 x9 : Int32} (hl : lay[ad9]? = some (.inl (2, N))) : ab_in M n pc L (.int x9 :: .int i9 :: .ref ad9 :: st) (ms_h S 0 lay ++ tl) .bastore = some (vp_in i9 N, pc + n, L, st, ms_h (S.1, S.2.1, S.2.2.1, u1 S.2.2.2.1 ad9 (upd (S.2.2.2.1 ad9) i9.toNatClampNeg (x9 &&& 1)), S.2.2.2.2) 0 lay ++ tl) := by
  rw [show ab_in M n pc L (.int x9 :: .int i9 :: .ref ad9 :: st) (ms_h S 0 lay ++ tl) .bastore = ab_mv M n pc L (ms_h S 0 lay ++ tl) .bastore (.int x9 :: .int i9 :: .ref ad9 :: st) from rfl]
  unfold ab_mv
  dsimp only
  rw [ms_get hl]
  rw [← ms_a2 _ hl]
  rfl
theorem ms_len0 {M : ab_MD} {lay : List ms_D} {n pc ad9 N : Nat} {L : List (Option Value)} {st : List Value} {S : ms_S} {tl : ab_H}  (hl : lay[ad9]? = some (.inl (0, N))) : ab_in M n pc L (.ref ad9 :: st) (ms_h S 0 lay ++ tl) .arraylength = some (True, pc + n, L, .int (nI N) :: st, ms_h S 0 lay ++ tl) := by
  rw [show ab_in M n pc L (.ref ad9 :: st) (ms_h S 0 lay ++ tl) .arraylength = ab_mv M n pc L (ms_h S 0 lay ++ tl) .arraylength (.ref ad9 :: st) from rfl]
  unfold ab_mv
  dsimp only
  rw [ms_get hl]
  rfl
theorem ms_len1 {M : ab_MD} {lay : List ms_D} {n pc ad9 N : Nat} {L : List (Option Value)} {st : List Value} {S : ms_S} {tl : ab_H}  (hl : lay[ad9]? = some (.inl (1, N))) : ab_in M n pc L (.ref ad9 :: st) (ms_h S 0 lay ++ tl) .arraylength = some (True, pc + n, L, .int (nI N) :: st, ms_h S 0 lay ++ tl) := by
  rw [show ab_in M n pc L (.ref ad9 :: st) (ms_h S 0 lay ++ tl) .arraylength = ab_mv M n pc L (ms_h S 0 lay ++ tl) .arraylength (.ref ad9 :: st) from rfl]
  unfold ab_mv
  dsimp only
  rw [ms_get hl]
  rfl
theorem ms_len2 {M : ab_MD} {lay : List ms_D} {n pc ad9 N : Nat} {L : List (Option Value)} {st : List Value} {S : ms_S} {tl : ab_H}  (hl : lay[ad9]? = some (.inl (2, N))) : ab_in M n pc L (.ref ad9 :: st) (ms_h S 0 lay ++ tl) .arraylength = some (True, pc + n, L, .int (nI N) :: st, ms_h S 0 lay ++ tl) := by
  rw [show ab_in M n pc L (.ref ad9 :: st) (ms_h S 0 lay ++ tl) .arraylength = ab_mv M n pc L (ms_h S 0 lay ++ tl) .arraylength (.ref ad9 :: st) from rfl]
  unfold ab_mv
  dsimp only
  rw [ms_get hl]
  rfl
theorem ms_iinc {M : ab_MD} {n pc i9 k9 : Nat} {L : List (Option Value)} {st : List Value} {h : ab_H} {x9 : Int32} (hx : ab_lg L i9 = some (.int x9)) (hq : Nat.blt i9 M.2.2.2.1 = true) : ab_in M n pc L st h (.iinc i9 (.ofNat k9)) = some (True, pc + n, ab_s1 L i9 (.int (x9 + nI k9)), st, h) := by
  rw [show ab_in M n pc L st h (.iinc i9 (.ofNat k9)) = ab_mv M n pc L h (.iinc i9 (.ofNat k9)) st from rfl]
  unfold ab_mv
  dsimp only
  rw [hx]
  dsimp only
  rw [hq]
  rfl
set_option maxHeartbeats 4000000 in
theorem ms_in_ok {M : ab_MD} {lay : List ms_D} {n pc : Nat} {L : List (Option Value)} {st : List Value} {S : ms_S} {ins : Instr} {r : ms_R} (ho : ms_in M lay n pc L S ins st = some r) (tl : ab_H) : ab_in M n pc L st (ms_h S 0 lay ++ tl) ins = some (r.1, r.2.1, r.2.2.1, r.2.2.2.1, ms_h r.2.2.2.2 0 lay ++ tl) := by
  unfold ms_in at ho
  split at ho
  · split at ho
    · rename_i hv
      cases ho
      exact ms_gf_ok hv
    · cases ho
  · split at ho
    · rename_i r9 hv
      obtain ⟨g9, S9⟩ := r9
      cases ho
      exact ms_pf_ok hv
    · cases ho
  · split at ho
    · rename_i hl9
      cases ho
      exact ms_iald hl9
    · cases ho
  · split at ho
    · rename_i hl9
      cases ho
      exact ms_lald hl9
    · cases ho
  · split at ho
    · rename_i hl9
      cases ho
      exact ms_bald hl9
    · cases ho
  · split at ho
    · rename_i hl9
      cases ho
      exact ms_aald3 hl9
    · rename_i hl9
      cases ho
      exact ms_aald4 hl9
    · cases ho
  · split at ho
    · rename_i hl9
      cases ho
      exact ms_iast hl9
    · cases ho
  · split at ho
    · rename_i hl9
      cases ho
      exact ms_last hl9
    · cases ho
  · split at ho
    · rename_i hl9
      cases ho
      exact ms_bast hl9
    · cases ho
  · split at ho
    · rename_i hl9
      cases ho
      exact ms_len0 hl9
    · rename_i hl9
      cases ho
      exact ms_len1 hl9
    · rename_i hl9
      cases ho
      exact ms_len2 hl9
    · cases ho
  · cases ho
    rfl
  · cases ho
    rfl
  · cases ho
    rfl
  · cases ho
    rfl
  · split at ho
    · rename_i hx9
      cases hq9 : Nat.blt _ M.2.2.2.1 <;> rw [hq9] at ho <;> cases ho
      exact ms_iinc hx9 hq9
    · cases ho
  · split at ho
    · rename_i hr9
      cases ho
      unfold ab_in
      rw [hr9]
    · rename_i hr8
      split at ho
      · rename_i hr9
        cases ho
        unfold ab_in
        rw [hr8]
        exact ms_nil hr9 _
      · cases ho
theorem ms_ok {M : ab_MD} {lay : List ms_D} {pc pc' : Nat} {L L' : List (Option Value)} {st st' : List Value} {S S' : ms_S} {g : Prop} (ho : ms_st M lay pc L st S = some (g, pc', L', st', S')) (tl : ab_H) : ab_st M pc L st (ms_h S 0 lay ++ tl) = some (g, pc', L', st', ms_h S' 0 lay ++ tl) := by
  unfold ms_st at ho
  unfold ab_st
  cases hr9 : ab_lk M.2.2.2.2.2.2 pc with
  | none => rw [hr9] at ho; cases ho
  | some r9 =>
    rw [hr9] at ho
    obtain ⟨ins9, n9⟩ := r9
    exact ms_in_ok (r := (g, pc', L', st', S')) ho tl
section MST
variable {G : ab_G} {M : ab_MD} {fr : Bool} {n0 : Nat} {p : Program} {e : Env} {R : Room} {s : State} {m : MethodId} {args : Array Value} {below : List Frame} {meth : Method} {c : Code} {Q : State → Prop} {cells slots pc pc' : Nat} {L L' : List (Option Value)} {st st' : List Value} {S S' : ms_S} {lay : List ms_D} {tl : ab_H}
theorem ms_stepG {g : Prop} (C : ab_C G M p s m args meth c) (ho : ms_st M lay pc L st S = some (g, pc', L', st', S')) (hg : g) (k : ab_R G M fr n0 p e R s m args below meth c Q cells slots pc' L' st' (ms_h S' 0 lay ++ tl)) : ab_R G M fr n0 p e R s m args below meth c Q cells slots pc L st (ms_h S 0 lay ++ tl) := ab_stepG C (ms_ok ho tl) hg k
theorem ms_step (C : ab_C G M p s m args meth c) (ho : ms_st M lay pc L st S = some (True, pc', L', st', S')) (k : ab_R G M fr n0 p e R s m args below meth c Q cells slots pc' L' st' (ms_h S' 0 lay ++ tl)) : ab_R G M fr n0 p e R s m args below meth c Q cells slots pc L st (ms_h S 0 lay ++ tl) := ab_stepG C (ms_ok ho tl) trivial k
end MST
