/-! ===== laws: knots worked out by a stack ===== -/
def evS (nm : Nat → Int64) (k x : Nat) (s : List Int64 × Int32) : List Int64 × Int32 :=
  if k ≤ 1 then ((mVal k (nI x) 0 0 (nm x) s.2).1 :: s.1, (mVal k (nI x) 0 0 (nm x) s.2).2)
  else if k = 2 then ((mVal k 0 (s.1.headD 0) 0 0 s.2).1 :: s.1.tail, (mVal k 0 (s.1.headD 0) 0 0 s.2).2)
  else ((mVal k 0 (s.1.tail.headD 0) (s.1.headD 0) 0 s.2).1 :: s.1.tail.tail, (mVal k 0 (s.1.tail.headD 0) (s.1.headD 0) 0 s.2).2)
def evR (nm : Nat → Int64) (kn : Nat → Nat × Nat) : Nat → List Int64 × Int32
  | 0 => ([], nI 0)
  | j + 1 => evS nm (kn j).1 (kn j).2 (evR nm kn j)
def evQ (q : tDQ) (nm : Nat → Int64) : Option Int64 := if (evR nm q.2 q.1).2 = 0 then some ((evR nm q.2 q.1).1.headD 0) else none
theorem mVal_01 {k : Nat} {pI pI' er : Int32} {x y x' y' nv nv' : Int64} (h : k ≤ 1) (h0 : k = 0 → pI = pI') (h1 : k = 1 → nv = nv') : mVal k pI x y nv er = mVal k pI' x' y' nv' er := by
  rcases (show k = 0 ∨ k = 1 by omega) with rfl | rfl
  · rw [h0 rfl]; simp only [mVal]
  · rw [h1 rfl]; simp only [mVal]
theorem mVal_2 {pI pI' er : Int32} {x y y' nv nv' : Int64} : mVal 2 pI x y nv er = mVal 2 pI' x y' nv' er := by simp only [mVal]
theorem mVal_3 {k : Nat} {pI pI' er : Int32} {x y nv nv' : Int64} (h : 3 ≤ k) (h2 : k ≤ 14) : mVal k pI x y nv er = mVal k pI' x y nv' er := by
  rcases (show k = 3 ∨ k = 4 ∨ k = 5 ∨ k = 6 ∨ k = 7 ∨ k = 8 ∨ k = 9 ∨ k = 10 ∨ k = 11 ∨ k = 12 ∨ k = 13 ∨ k = 14 by omega) with rfl | rfl | rfl | rfl | rfl | rfl | rfl | rfl | rfl | rfl | rfl | rfl <;> simp only [mVal]
theorem ixF_lt {kn : Nat → Nat × Nat} : ∀ {j a : Nat}, a ∈ ixF kn j → a < j
  | 0, a, h => by cases h
  | j + 1, a, h => by
    have h : a ∈ stI (ixF kn j) (kn j).1 j := h
    have ih : ∀ b, b ∈ ixF kn j → b < j := fun b hb => ixF_lt hb
    unfold stI at h
    split at h
    · rcases List.mem_cons.mp h with rfl | h
      · omega
      · have := ih a h
        omega
    · split at h
      · rcases List.mem_cons.mp h with rfl | h
        · omega
        · have := ih a (List.mem_of_mem_tail h)
          omega
      · rcases List.mem_cons.mp h with rfl | h
        · omega
        · have := ih a (List.mem_of_mem_tail (List.mem_of_mem_tail h))
          omega
theorem lw_ev {kn' pj oj : Nat → Nat} {pa : Nat → Int32} {nm nm' : Nat → Int64} {f m : Nat} {kn : Nat → Nat × Nat}
    (h : ∀ j, j < m → kn' (f + j) = (kn j).1 ∧ (kn j).1 ≤ 14 ∧ ((kn j).1 = 0 → pa (f + j) = nI (kn j).2) ∧ ((kn j).1 = 1 → pj (f + j) = (kn j).2 ∧ (kn j).2 < 7) ∧ ((kn j).1 = 2 → ∃ a r, ixF kn j = a :: r ∧ pj (f + j) = f + a) ∧ (3 ≤ (kn j).1 → ∃ c a r, ixF kn j = c :: a :: r ∧ pj (f + j) = f + a ∧ oj (f + j) = f + c)) (hn : ∀ i, i < 7 → nm i = nm' i) :
    ∀ c, c ≤ m → (evR nm' kn c).2 = (lwR kn' pj oj pa nm (fun _ => 0) f c).2 ∧ (evR nm' kn c).1 = (ixF kn c).map (fun a => (lwR kn' pj oj pa nm (fun _ => 0) f c).1 (f + a))
  | 0, _ => ⟨rfl, rfl⟩
  | c + 1, hc => by
    obtain ⟨i2, i3⟩ := lw_ev h hn c (by omega)
    obtain ⟨k1, k2, k3, k4, k5, k6⟩ := h c (by omega)
    have i1 : ∀ a, a ∈ ixF kn c → a < c := fun a ha => ixF_lt ha
    generalize hR : lwR kn' pj oj pa nm (fun _ => 0) f c = R at i2 i3
    have hL : lwR kn' pj oj pa nm (fun _ => 0) f (c + 1) = (vp_updL R.1 (f + c) (mVal (kn' (f + c)) (pa (f + c)) (R.1 (pj (f + c))) (R.1 (oj (f + c))) (nm (pj (f + c))) R.2).1, (mVal (kn' (f + c)) (pa (f + c)) (R.1 (pj (f + c))) (R.1 (oj (f + c))) (nm (pj (f + c))) R.2).2) := by
      rw [← hR]
      rfl
    have hE : evR nm' kn (c + 1) = evS nm' (kn c).1 (kn c).2 (evR nm' kn c) := rfl
    have hI : ixF kn (c + 1) = stI (ixF kn c) (kn c).1 c := rfl
    have step : ∀ (rest : List Nat) (V : Int64 × Int32), (∀ a, a ∈ rest → a < c) → stI (ixF kn c) (kn c).1 c = c :: rest → evS nm' (kn c).1 (kn c).2 (evR nm' kn c) = (V.1 :: rest.map (fun a => R.1 (f + a)), V.2) → mVal (kn' (f + c)) (pa (f + c)) (R.1 (pj (f + c))) (R.1 (oj (f + c))) (nm (pj (f + c))) R.2 = V → (evR nm' kn (c + 1)).2 = (lwR kn' pj oj pa nm (fun _ => 0) f (c + 1)).2 ∧ (evR nm' kn (c + 1)).1 = (ixF kn (c + 1)).map (fun a => (lwR kn' pj oj pa nm (fun _ => 0) f (c + 1)).1 (f + a)) := by
      intro rest V r1 r2 r3 r4
      rw [hL, hE, hI, r2, r3, r4]
      refine ⟨rfl, ?_⟩
      show V.1 :: _ = vp_updL R.1 (f + c) V.1 (f + c) :: rest.map (fun a => vp_updL R.1 (f + c) V.1 (f + a))
      rw [updL_at]
      congr 1
      refine List.map_congr_left (fun a ha => ?_)
      have := r1 a ha
      rw [updL_no (by omega)]
    rcases (show (kn c).1 ≤ 1 ∨ (kn c).1 = 2 ∨ 3 ≤ (kn c).1 by omega) with hk | hk | hk
    · refine step (ixF kn c) (mVal (kn c).1 (nI (kn c).2) 0 0 (nm' (kn c).2) R.2) i1 (by unfold stI; rw [if_pos hk]) (by unfold evS; rw [if_pos hk, i2, i3]) ?_
      rw [k1]
      refine mVal_01 hk k3 (fun z => ?_)
      obtain ⟨z1, z2⟩ := k4 z
      rw [z1]
      exact hn _ z2
    · obtain ⟨a, r, z1, z2⟩ := k5 hk
      refine step r (mVal 2 0 (R.1 (f + a)) 0 0 R.2) (fun b hb => i1 b (by rw [z1]; exact List.mem_cons_of_mem _ hb)) (by unfold stI; rw [if_neg (by omega), if_pos hk, z1]; rfl) (by unfold evS; rw [if_neg (by omega), if_pos hk, i2, i3, z1, hk]; rfl) ?_
      rw [k1, z2, hk]
      exact mVal_2
    · obtain ⟨c1, a, r, z1, z2, z3⟩ := k6 hk
      refine step r (mVal (kn c).1 0 (R.1 (f + a)) (R.1 (f + c1)) 0 R.2) (fun b hb => i1 b (by rw [z1]; exact List.mem_cons_of_mem _ (List.mem_cons_of_mem _ hb))) (by unfold stI; rw [if_neg (by omega), if_neg (by omega), z1]; rfl) (by unfold evS; rw [if_neg (by omega), if_neg (by omega), i2, i3, z1]; rfl) ?_
      rw [k1, z2, z3]
      exact mVal_3 hk k2
/-- knots of a law in place -/
def knL (S : ms_S) (f m : Nat) (kn : Nat → Nat × Nat) : Prop := ∀ j, j < m → a_knot S (f + j) = nI (kn j).1 ∧ (kn j).1 ≤ 14 ∧ ((kn j).1 ≤ 1 → a_part S (f + j) = nI (kn j).2) ∧ ((kn j).1 = 1 → (kn j).2 < 7) ∧ (kn j).2 ≤ 9999 ∧ ((kn j).1 = 2 → ∃ a r, ixF kn j = a :: r ∧ a_part S (f + j) = nI (f + a)) ∧ (3 ≤ (kn j).1 → ∃ c a r, ixF kn j = c :: a :: r ∧ a_part S (f + j) = nI (f + a) ∧ a_other S (f + j) = nI (f + c))
theorem lwE_of {S : ms_S} {w f : Nat} {q : tDQ} (h1 : a_first S w = nI f) (h2 : a_last S w = nI (f + q.1)) (h3 : 0 < q.1) (h4 : f + q.1 ≤ 64) (hk : knL S f q.1 q.2) (hi : ixF q.2 q.1 = [q.1 - 1]) : lwE S w (evQ q) := by
  have kd : ∀ j, ∃ p o, (j < q.1 → (((q.2 j).1 ≤ 1 → p = (q.2 j).2) ∧ ((q.2 j).1 = 2 → ∃ a r, ixF q.2 j = a :: r ∧ p = f + a) ∧ (3 ≤ (q.2 j).1 → ∃ c a r, ixF q.2 j = c :: a :: r ∧ p = f + a ∧ o = f + c))) := by
    intro j
    by_cases hj : j < q.1
    · obtain ⟨k1, k2, k3, k4, k5, k6, k7⟩ := hk j hj
      rcases (show (q.2 j).1 ≤ 1 ∨ (q.2 j).1 = 2 ∨ 3 ≤ (q.2 j).1 by omega) with z | z | z
      · exact ⟨(q.2 j).2, 0, fun _ => ⟨fun _ => rfl, fun y => absurd y (by omega), fun y => absurd y (by omega)⟩⟩
      · obtain ⟨a, r, y1, y2⟩ := k6 z
        exact ⟨f + a, 0, fun _ => ⟨fun y => absurd y (by omega), fun _ => ⟨a, r, y1, rfl⟩, fun y => absurd y (by omega)⟩⟩
      · obtain ⟨c, a, r, y1, y2, y3⟩ := k7 z
        exact ⟨f + a, f + c, fun _ => ⟨fun y => absurd y (by omega), fun y => absurd y (by omega), fun _ => ⟨c, a, r, y1, rfl, rfl⟩⟩⟩
    · exact ⟨0, 0, fun z => absurd z hj⟩
  have kp : ∀ j, ∃ p, ∃ o, (j < q.1 → (((q.2 j).1 ≤ 1 → p = (q.2 j).2) ∧ ((q.2 j).1 = 2 → ∃ a r, ixF q.2 j = a :: r ∧ p = f + a) ∧ (3 ≤ (q.2 j).1 → ∃ c a r, ixF q.2 j = c :: a :: r ∧ p = f + a ∧ o = f + c))) := kd
  have hpj : ∃ pj : Nat → Nat, ∃ oj : Nat → Nat, ∀ j, j < q.1 → (((q.2 j).1 ≤ 1 → pj j = (q.2 j).2) ∧ ((q.2 j).1 = 2 → ∃ a r, ixF q.2 j = a :: r ∧ pj j = f + a) ∧ (3 ≤ (q.2 j).1 → ∃ c a r, ixF q.2 j = c :: a :: r ∧ pj j = f + a ∧ oj j = f + c)) :=
    ⟨fun j => Classical.choose (kp j), fun j => Classical.choose (Classical.choose_spec (kp j)), fun j => Classical.choose_spec (Classical.choose_spec (kp j))⟩
  obtain ⟨pj, oj, hpo⟩ := hpj
  have fa : ∀ {kk j : Nat} {P : Nat → Prop}, P kk → P (f + kk - f) := fun h => by rw [Nat.add_sub_cancel_left]; exact h
  refine ⟨f, f + q.1, fun i => (q.2 (i - f)).1, fun i => pj (i - f), fun i => oj (i - f), h1, h2, by omega, h4, ⟨fun i hi1 hi2 => ?_, fun i hi1 hi2 => ?_⟩, fun nm nm' hnm => ?_⟩
  · obtain ⟨j, rfl⟩ : ∃ j, i = f + j := ⟨i - f, by omega⟩
    have hj : j < q.1 := by omega
    obtain ⟨k1, k2, k3, k4, k5, k6, k7⟩ := hk j hj
    obtain ⟨p1, p2, p3⟩ := hpo j hj
    dsimp only
    rw [Nat.add_sub_cancel_left]
    refine ⟨k1, k2, fun z => ?_, fun z => ?_, fun z => ?_⟩
    · rw [p1 (by omega)]
      exact ⟨k3 (by omega), k4 z⟩
    · rcases (show (q.2 j).1 = 2 ∨ 3 ≤ (q.2 j).1 by omega) with y | y
      · obtain ⟨a, r, y1, y2⟩ := k6 y
        obtain ⟨a', r', y3, y4⟩ := p2 y
        rw [y1] at y3
        cases y3
        have := ixF_lt (kn := q.2) (j := j) (a := a) (by rw [y1]; exact List.mem_cons_self)
        rw [y4]
        exact ⟨y2, by omega⟩
      · obtain ⟨c, a, r, y1, y2, y3⟩ := k7 y
        obtain ⟨c', a', r', y4, y5, y6⟩ := p3 y
        rw [y1] at y4
        cases y4
        have := ixF_lt (kn := q.2) (j := j) (a := a) (by rw [y1]; exact List.mem_cons_of_mem _ List.mem_cons_self)
        rw [y5]
        exact ⟨y2, by omega⟩
    · obtain ⟨c, a, r, y1, y2, y3⟩ := k7 z
      obtain ⟨c', a', r', y4, y5, y6⟩ := p3 z
      rw [y1] at y4
      cases y4
      have := ixF_lt (kn := q.2) (j := j) (a := c) (by rw [y1]; exact List.mem_cons_self)
      rw [y6]
      exact ⟨y3, by omega⟩
  · obtain ⟨j, rfl⟩ : ∃ j, i = f + j := ⟨i - f, by omega⟩
    have hj : j < q.1 := by omega
    obtain ⟨p1, p2, p3⟩ := hpo j hj
    dsimp only
    rw [Nat.add_sub_cancel_left]
    refine ⟨fun z => ?_, fun z => ?_⟩
    · rcases (show (q.2 j).1 = 2 ∨ 3 ≤ (q.2 j).1 by omega) with y | y
      · obtain ⟨a', r', y3, y4⟩ := p2 y
        have := ixF_lt (kn := q.2) (j := j) (a := a') (by rw [y3]; exact List.mem_cons_self)
        omega
      · obtain ⟨c', a', r', y4, y5, y6⟩ := p3 y
        have := ixF_lt (kn := q.2) (j := j) (a := a') (by rw [y4]; exact List.mem_cons_of_mem _ List.mem_cons_self)
        omega
    · obtain ⟨c', a', r', y4, y5, y6⟩ := p3 z
      have := ixF_lt (kn := q.2) (j := j) (a := c') (by rw [y4]; exact List.mem_cons_self)
      omega
  · have hl := lw_ev (kn' := fun i => (q.2 (i - f)).1) (pj := fun i => pj (i - f)) (oj := fun i => oj (i - f)) (pa := a_part S) (nm := nm) (nm' := nm') (f := f) (m := q.1) (kn := q.2) (fun j hj => ?_) hnm q.1 (Nat.le_refl _)
    · unfold lwV evQ
      rw [Nat.add_sub_cancel_left, ← hl.1, hl.2, hi]
      show _ = if _ then some _ else none
      rw [show f + q.1 - 1 = f + (q.1 - 1) by omega]
      rfl
    · obtain ⟨k1, k2, k3, k4, k5, k6, k7⟩ := hk j hj
      obtain ⟨p1, p2, p3⟩ := hpo j hj
      rw [Nat.add_sub_cancel_left]
      exact ⟨rfl, k2, fun z => k3 (by omega), fun z => ⟨p1 (by omega), k4 z⟩, p2, p3⟩

