/-! ===== the program: signs that wait ===== -/
/-- the program's token of a kind that waits -/
def wk (k : Nat) : Nat := if k = 0 then 32 else tkO k
theorem wk_lt {k : Nat} (h : k ≤ 14) : wk k < 64 := by
  unfold wk tkO
  (repeat' split) <;> omega
def hdr : List Nat → Nat
  | [] => 0
  | k :: _ => rkN k
def c4 : List Nat → Bool
  | [] => false
  | k :: r => if k = 0 then false else if rkN k = 4 then true else c4 r
def dz : List Nat → List Nat
  | [] => []
  | k :: r => if k = 0 then r else dz r
def srt : List Nat → Prop
  | [] => True
  | k :: r => (k = 0 ∨ hdr r ≤ rkN k) ∧ srt r
def cmR (cw : Nat) (W : List Nat) : Nat → Prop
  | 0 => cw.testBit 0 = c4 W
  | o + 1 => cw.testBit (o + 1) = c4 W ∧ cmR cw (dz W) o
theorem rk_00 : rkN 0 = 0 := rfl
theorem rk_nz {k : Nat} (h : 1 ≤ rkN k) : ¬ k = 0 := fun z => by rw [z, rk_00] at h; omega
theorem c4_no : ∀ {W : List Nat}, srt W → hdr W ≤ 3 → c4 W = false
  | [], _, _ => rfl
  | k :: r, h, q => by
    have q : rkN k ≤ 3 := q
    show (if k = 0 then false else if rkN k = 4 then true else c4 r) = false
    by_cases z : k = 0
    · rw [if_pos z]
    · rw [if_neg z, if_neg (by omega)]
      exact c4_no h.2 (by rcases h.1 with y | y; exact absurd y z; omega)
theorem c4_n {k : Nat} {r : List Nat} (h : ¬ k = 0) (h4 : ¬ rkN k = 4) : c4 (k :: r) = c4 r := by
  show (if k = 0 then false else if rkN k = 4 then true else c4 r) = _
  rw [if_neg h, if_neg h4]
theorem c4_y {k : Nat} {r : List Nat} (h4 : rkN k = 4) : c4 (k :: r) = true := by
  show (if k = 0 then false else if rkN k = 4 then true else c4 r) = _
  rw [if_neg (rk_nz (by omega)), if_pos h4]
theorem bdW_y {ls k : Nat} {r : List Nat} {q : tDQ} (h : ls ≤ rkN k) : bdW ls (k :: r) q = bdW ls r (q.1 + 1, up q.2 q.1 (k, 0)) := if_pos h
theorem bdW_n {ls k : Nat} {r : List Nat} {q : tDQ} (h : ¬ ls ≤ rkN k) : bdW ls (k :: r) q = (q, k :: r) := if_neg h
theorem bd_h4 : ∀ {W : List Nat} {q : tDQ}, srt W → hd4 (bdW 5 W q).2 = c4 W
  | [], _, _ => rfl
  | k :: r, q, h => by
    by_cases z : 5 ≤ rkN k
    · rw [bdW_y z, c4_n (rk_nz (by omega)) (by omega)]
      exact bd_h4 h.2
    · rw [bdW_n z]
      show decide (rkN k = 4) = c4 (k :: r)
      by_cases y : rkN k = 4
      · rw [c4_y y, decide_eq_true y]
      · rw [decide_eq_false y, c4_no h (by show rkN k ≤ 3; omega)]
theorem bd_45 : ∀ {W : List Nat} {q : tDQ}, c4 W = false → bdW 4 W q = bdW 5 W q
  | [], _, _ => rfl
  | k :: r, q, h => by
    by_cases z : 5 ≤ rkN k
    · rw [bdW_y z, bdW_y (by omega)]
      rw [c4_n (rk_nz (by omega)) (by omega)] at h
      exact bd_45 h
    · have : ¬ rkN k = 4 := fun y => by rw [c4_y y] at h; cases h
      rw [bdW_n z, bdW_n (by omega)]
theorem bd_srt {ls : Nat} : ∀ {W : List Nat} {q : tDQ}, srt W → srt (bdW ls W q).2
  | [], _, _ => trivial
  | k :: r, q, h => by
    by_cases z : ls ≤ rkN k
    · rw [bdW_y z]; exact bd_srt h.2
    · rw [bdW_n z]; exact h
theorem bd_hdr {ls : Nat} : ∀ {W : List Nat} {q : tDQ}, 1 ≤ ls → hdr (bdW ls W q).2 < ls
  | [], _, h => h
  | k :: r, q, h => by
    by_cases z : ls ≤ rkN k
    · rw [bdW_y z]; exact bd_hdr h
    · rw [bdW_n z]; exact Nat.lt_of_not_le z
theorem bd_c5 {ls : Nat} (h5 : 5 ≤ ls) : ∀ {W : List Nat} {q : tDQ}, c4 (bdW ls W q).2 = c4 W
  | [], _ => rfl
  | k :: r, q => by
    by_cases z : ls ≤ rkN k
    · rw [bdW_y z, c4_n (rk_nz (by omega)) (by omega)]; exact bd_c5 h5
    · rw [bdW_n z]
theorem bd_dz {ls : Nat} (h1 : 1 ≤ ls) : ∀ {W : List Nat} {q : tDQ}, dz (bdW ls W q).2 = dz W
  | [], _ => rfl
  | k :: r, q => by
    by_cases z : ls ≤ rkN k
    · rw [bdW_y z]
      show _ = (if k = 0 then r else dz r)
      rw [if_neg (rk_nz (by omega))]
      exact bd_dz h1
    · rw [bdW_n z]
theorem bd_tl : ∀ {W : List Nat} {q : tDQ}, wOk W → (bdW 1 W q).2.tail = dz W
  | [], _, _ => rfl
  | k :: r, q, h => by
    have hk := h k (List.mem_cons_self)
    by_cases z : 1 ≤ rkN k
    · rw [bdW_y z]
      show _ = (if k = 0 then r else dz r)
      rw [if_neg (rk_nz z)]
      exact bd_tl (fun j hj => h j (List.mem_cons_of_mem _ hj))
    · rw [bdW_n z]
      have : k = 0 := rk_0 (by omega) hk.1 hk.2
      show r = (if k = 0 then r else dz r)
      rw [if_pos this]
theorem dz_srt : ∀ {W : List Nat}, srt W → srt (dz W)
  | [], _ => trivial
  | k :: r, h => by
    show srt (if k = 0 then r else dz r)
    split
    · exact h.2
    · exact dz_srt h.2
theorem bd_ok {ls : Nat} : ∀ {W : List Nat} {q : tDQ}, wOk W → wOk (bdW ls W q).2
  | [], _, h => h
  | k :: r, q, h => by
    by_cases z : ls ≤ rkN k
    · rw [bdW_y z]; exact bd_ok (fun j hj => h j (List.mem_cons_of_mem _ hj))
    · rw [bdW_n z]; exact h
theorem cmR_c {cw cv : Nat} : ∀ {o : Nat} {W W2 : List Nat}, c4 W2 = cv.testBit o → dz W2 = dz W → (∀ i, i < o → cv.testBit i = cw.testBit i) → cmR cw W o → cmR cv W2 o
  | 0, W, W2, h1, _, _, _ => h1.symm
  | o + 1, W, W2, h1, h2, h3, h => by
    refine ⟨h1.symm, ?_⟩
    rw [h2]
    have g : ∀ (o : Nat) (V : List Nat), (∀ i, i ≤ o → cv.testBit i = cw.testBit i) → cmR cw V o → cmR cv V o := by
      intro o
      induction o with
      | zero => exact fun V q w => (q 0 (Nat.le_refl _)).trans w
      | succ o ih => exact fun V q w => ⟨(q (o + 1) (Nat.le_refl _)).trans w.1, ih _ (fun i hi => q i (by omega)) w.2⟩
    exact g o _ (fun i hi => h3 i (by omega)) h.2
theorem cmR_t {cw : Nat} {W : List Nat} : ∀ {o : Nat}, cmR cw W o → cw.testBit o = c4 W
  | 0, h => h
  | _ + 1, h => h.1
/-! knots counted -/
theorem bd_ix {ls : Nat} (h1 : 1 ≤ ls) : ∀ {W : List Nat} {q : tDQ}, wOk W → (ixF q.2 q.1).length = bnC W + 1 → (∀ j, j < q.1 → vK q.2 j) → (ixF (bdW ls W q).1.2 (bdW ls W q).1.1).length = bnC (bdW ls W q).2 + 1 ∧ (∀ j, j < (bdW ls W q).1.1 → vK (bdW ls W q).1.2 j) ∧ (bdW ls W q).1.1 + nzC (bdW ls W q).2 = q.1 + nzC W ∧ zrC (bdW ls W q).2 = zrC W
  | [], q, _, hl, hv => ⟨hl, hv, rfl, rfl⟩
  | k :: r, q, h, hl, hv => by
    have hk := h k (List.mem_cons_self)
    by_cases z : ls ≤ rkN k
    · have k0 : ¬ k = 0 := rk_nz (by omega)
      have k2 : 2 ≤ k := by omega
      rw [bdW_y z]
      have hl2 : (ixF q.2 q.1).length = (if 3 ≤ k then 1 else 0) + bnC r + 1 := hl
      have hr : wOk r := fun j hj => h j (List.mem_cons_of_mem _ hj)
      have e1 : ixF (up q.2 q.1 (k, 0)) (q.1 + 1) = stI (ixF q.2 q.1) k q.1 := ixF_s
      have hlen : (ixF (up q.2 q.1 (k, 0)) (q.1 + 1)).length = bnC r + 1 := by
        rw [e1]
        unfold stI
        rw [if_neg (by omega)]
        by_cases y : k = 2
        · rw [if_pos y]
          rw [if_neg (by omega)] at hl2
          rw [List.length_cons, List.length_tail]
          omega
        · rw [if_neg y]
          rw [if_pos (by omega)] at hl2
          rw [List.length_cons, List.length_tail, List.length_tail]
          omega
      have hvk : ∀ j, j < q.1 + 1 → vK (up q.2 q.1 (k, 0)) j := by
        intro j hj
        by_cases y : j = q.1
        · subst y
          unfold vK
          rw [up_at, ixF_up (Nat.le_refl _)]
          refine ⟨hk.1, fun w => absurd w hk.2, by show 0 ≤ 9999; decide, fun w => ?_, fun w => ?_⟩
          · cases hx : ixF q.2 q.1 with
            | nil => rw [hx] at hl2; simp at hl2
            | cons a t => exact ⟨a, t, rfl⟩
          · have w : 3 ≤ k := w
            rw [if_pos w] at hl2
            cases hx : ixF q.2 q.1 with
            | nil => rw [hx] at hl2; simp at hl2
            | cons a t =>
              cases hy : t with
              | nil => rw [hx, hy] at hl2; simp at hl2
              | cons c s => exact ⟨a, c, s, rfl⟩
        · have g := hv j (by omega)
          unfold vK at g ⊢
          rw [up_no y, ixF_up (by omega)]
          exact g
      have ih := bd_ix (ls := ls) h1 (W := r) (q := (q.1 + 1, up q.2 q.1 (k, 0))) hr hlen hvk
      refine ⟨ih.1, ih.2.1, ?_, ?_⟩
      · rw [ih.2.2.1]
        show q.1 + 1 + nzC r = q.1 + ((if k = 0 then 0 else 1) + nzC r)
        rw [if_neg k0]
        omega
      · rw [ih.2.2.2]
        show _ = (if k = 0 then 1 else 0) + zrC r
        rw [if_neg k0]
        omega
    · rw [bdW_n z]
      exact ⟨hl, hv, rfl, rfl⟩

