/-! ===== the reference's cells as they are made ===== -/
def smI : Nat → Nat → Int32 := u2 (u2 (fun _ _ => 0) 0 5 (-1)) 0 76 (-1)
def sm0 (f : Nat → Int32) : ms_S := (smI, fun _ _ => 0, fun _ _ => 0, u1 (fun _ _ => 0) 2 f, fun _ _ => 0)
theorem ms_f_cg {S S' : ms_S} {a : Nat} (h1 : S.1 = S'.1) (h2 : S.2.1 = S'.2.1) (h3 : S.2.2.1 = S'.2.2.1) : ∀ (fs : List (Nat × Nat)) (k : Nat), ms_f S a k fs = ms_f S' a k fs
  | [], _ => rfl
  | q :: t, k => by
    show ms_fv S a k q :: ms_f S a (k + 1) t = ms_fv S' a k q :: ms_f S' a (k + 1) t
    rw [ms_f_cg h1 h2 h3 t (k + 1)]
    congr 1
    obtain ⟨x, y⟩ := q
    match x with
    | 0 => show Value.int (S.1 a k) = Value.int (S'.1 a k); rw [h1]
    | 1 => show Value.long (S.2.1 a k) = Value.long (S'.2.1 a k); rw [h2]
    | 2 => rfl
    | 3 => show Value.ref (S.2.2.1 a k) = Value.ref (S'.2.2.1 a k); rw [h3]
    | n + 4 => rfl
def lMf : List (Nat × Nat) := [(2, 1), (0, 0), (0, 0), (2, 2), (0, 0), (0, 0), (0, 0), (0, 0), (0, 0), (0, 0), (0, 0), (0, 0), (0, 0), (0, 0), (0, 0), (0, 0), (0, 0), (0, 0), (0, 0), (0, 0), (0, 0), (0, 0), (2, 3), (2, 4), (2, 5), (2, 6), (2, 7), (2, 8), (2, 9), (2, 10), (2, 11), (2, 12), (2, 13), (2, 14), (2, 15), (2, 16), (2, 17), (2, 18), (2, 19), (2, 20), (2, 21), (2, 22), (2, 23), (0, 0), (0, 0), (0, 0), (0, 0), (0, 0), (0, 0), (2, 24), (2, 25), (0, 0), (2, 26), (2, 27), (2, 28), (2, 29), (2, 30), (1, 0), (0, 0), (0, 0), (0, 0), (0, 0), (0, 0), (0, 0), (0, 0), (2, 31), (2, 32), (2, 33), (0, 0), (0, 0), (0, 0), (0, 0), (2, 34), (2, 35), (2, 36), (0, 0), (0, 0), (2, 37), (2, 38), (0, 0), (2, 39), (0, 0), (2, 40), (0, 0), (0, 0), (1, 0)]
def lMq : List (Nat × Nat) := [(2, 2), (0, 4), (0, 18), (0, 18), (0, 18), (0, 18), (0, 18), (0, 10), (0, 16), (0, 16), (0, 16), (0, 20), (0, 20), (2, 6), (0, 6), (0, 6), (0, 128), (0, 128), (0, 128), (0, 96), (0, 96), (1, 7), (1, 64), (0, 18), (0, 10), (0, 10), (0, 2), (0, 2), (0, 7), (0, 3584), (0, 7), (1, 3584), (0, 512), (0, 25088), (0, 120), (2, 24), (0, 380), (0, 19)]
def lMr : List ms_D := .inl (0, 700) :: .inl (0, 101) :: lMq.map .inl
set_option maxRecDepth 100000 in
theorem lM_cons : lM = .inr (.inl (12, lMf)) :: lMr := rfl
theorem km_f : kMf 176 = ms_f (glU ms_0 (sm0 (fun _ => 0))) 175 0 (lMf.map (rnQ plM)) := by decide +kernel
def zE : Nat × Nat → ab_E
  | (0, n) => aIn n
  | (1, n) => aLg n
  | (k, n) => .inl (k, n, .inl (fun _ => 0))
set_option maxRecDepth 100000 in
theorem km_i (f : Nat → Int32) {a : Nat} (h : ¬ a = 177) : (glU ms_0 (sm0 f)).2.2.2.1 a = fun _ => 0 := by
  show glF ms_0.2.2.2.1 (u1 (fun _ _ => 0) 2 f) a = _
  unfold glF
  cases q : Nat.ble 175 a with
  | false => rfl
  | true =>
    have q := Nat.le_of_ble_eq_true q
    show u1 (fun _ _ => 0) 2 f (a - 175) = _
    exact u1_ne (by omega)
set_option maxRecDepth 100000 in
theorem km_l (f : Nat → Int32) (a : Nat) : (glU ms_0 (sm0 f)).2.2.2.2 a = fun _ => 0 := by
  show glF ms_0.2.2.2.2 (fun _ _ => 0) a = _
  unfold glF
  cases Nat.ble 175 a <;> rfl
theorem km_c (f : Nat → Int32) {a : Nat} (h : ¬ a = 177) : ∀ q : Nat × Nat, ms_c (glU ms_0 (sm0 f)) a (.inl q) = zE q
  | (0, n) => by
    show Sum.inl (0, n, Sum.inl ((glU ms_0 (sm0 f)).2.2.2.1 a)) = Sum.inl (0, n, Sum.inl (fun _ => 0))
    rw [km_i f h]
  | (1, n) => by
    show Sum.inl (1, n, Sum.inr (Sum.inl ((glU ms_0 (sm0 f)).2.2.2.2 a))) = Sum.inl (1, n, Sum.inr (Sum.inl (fun _ => 0)))
    rw [km_l f]
  | (k + 2, n) => by
    show Sum.inl (k + 2, n, Sum.inl ((glU ms_0 (sm0 f)).2.2.2.1 a)) = Sum.inl (k + 2, n, Sum.inl (fun _ => 0))
    rw [km_i f h]
theorem km_h (f : Nat → Int32) : ∀ (l : List (Nat × Nat)) (a : Nat), 178 ≤ a → ms_h (glU ms_0 (sm0 f)) a ((l.map .inl).map (rnD plM)) = l.map zE
  | [], _, _ => rfl
  | q :: t, a, h => by
    show ms_c (glU ms_0 (sm0 f)) a (.inl q) :: ms_h (glU ms_0 (sm0 f)) (a + 1) ((t.map .inl).map (rnD plM)) = zE q :: t.map zE
    rw [km_c f (by omega), km_h f t (a + 1) (by omega)]
set_option maxRecDepth 100000 in
theorem km_t0 (f : Nat → Int32) : kMt f = [aIn 700, .inl (0, 101, .inl f), aBo 2, aIn 4, aIn 18, aIn 18, aIn 18, aIn 18, aIn 18, aIn 10, aIn 16, aIn 16, aIn 16, aIn 20, aIn 20, aBo 6, aIn 6, aIn 6, aIn 128, aIn 128, aIn 128, aIn 96, aIn 96, aLg 7, aLg 64, aIn 18, aIn 10, aIn 10, aIn 2, aIn 2, aIn 7, aIn 3584, aIn 7, aLg 3584, aIn 512, aIn 25088, aIn 120, aBo 24, aIn 380, aIn 19] := by
  unfold kMt
  simp only [List.append_assoc, List.cons_append, List.nil_append]
set_option maxRecDepth 100000 in
theorem km_t1 : ([aBo 2, aIn 4, aIn 18, aIn 18, aIn 18, aIn 18, aIn 18, aIn 10, aIn 16, aIn 16, aIn 16, aIn 20, aIn 20, aBo 6, aIn 6, aIn 6, aIn 128, aIn 128, aIn 128, aIn 96, aIn 96, aLg 7, aLg 64, aIn 18, aIn 10, aIn 10, aIn 2, aIn 2, aIn 7, aIn 3584, aIn 7, aLg 3584, aIn 512, aIn 25088, aIn 120, aBo 24, aIn 380, aIn 19] : ab_H) = lMq.map zE := by
  unfold lMq
  simp only [List.map_cons, List.map_nil, zE]
theorem km_t (f : Nat → Int32) : kMt f = aIn 700 :: .inl (0, 101, .inl f) :: lMq.map zE := by
  rw [km_t0, ← km_t1]
theorem km_r (f : Nat → Int32) : kMt f = ms_h (glU ms_0 (sm0 f)) 176 (lMr.map (rnD plM)) := by
  show _ = ms_c (glU ms_0 (sm0 f)) 176 (.inl (0, 700)) :: Sum.inl (0, 101, Sum.inl ((glU ms_0 (sm0 f)).2.2.2.1 177)) :: ms_h (glU ms_0 (sm0 f)) 178 ((lMq.map .inl).map (rnD plM))
  rw [km_c f (by decide), km_h f _ _ (Nat.le_refl _), km_t]
  rfl
theorem km_T (f : Nat → Int32) : (.inr (12, kMf 176) :: kMt f : ab_H) = mT (sm0 f) := by
  unfold mT lMs
  rw [lM_cons, km_f, km_r]
  show _ = Sum.inr (12, ms_f (glU ms_0 (sm0 f)) 175 0 (lMf.map (rnQ plM))) :: ms_h (glU ms_0 (sm0 f)) 176 (lMr.map (rnD plM))
  rw [ms_f_cg (S := glU ms_0 (sm0 f)) (S' := glU ms_0 (sm0 (fun _ => 0))) rfl rfl rfl]

