/-! ===== the program: from small memories to the whole one ===== -/
theorem pxF_at {pl : List Nat} (hn : ndL pl = true) {k : Nat} (hk : k < pl.length) : pxF pl (pl.getD k 0) 0 = some k := by
  have e : pl[k]? = some (pl.getD k 0) := by rw [List.getD_eq_getElem?_getD, List.getElem?_eq_getElem hk]; rfl
  cases h : pxF pl (pl.getD k 0) 0 with
  | none => exact absurd e (pxF_none h k)
  | some j =>
    have h2 := (pxF_some h).2
    rw [Nat.sub_zero] at h2
    rw [ndL_inj hn h2 e]
theorem rs_mg {α : Type} {pl : List Nat} (hn : ndL pl = true) {V T : Nat → α} {k : Nat} (hk : k < pl.length) : rsF pl (mgF pl V T) k = T k := mgF_at (pxF_at hn hk)
theorem mgF_same {α : Type} {pl : List Nat} {V T : Nat → α} {a : Nat} (h : ∀ k, k < pl.length → pl.getD k 0 = a → T k = rsF pl V k) : mgF pl V T a = V a := by
  cases q : pxF pl a 0 with
  | none => exact mgF_no q
  | some k =>
    rw [mgF_at q]
    have h2 := (pxF_some q).2
    rw [Nat.sub_zero] at h2
    have hk : k < pl.length := by
      rcases Nat.lt_or_ge k pl.length with z | z
      · exact z
      · rw [List.getElem?_eq_none z] at h2; cases h2
    have e : pl.getD k 0 = a := by rw [List.getD_eq_getElem?_getD, h2]; rfl
    rw [h k hk e]
    show V (pl.getD k 0) = V a
    rw [e]
theorem mg_cF {pl : List Nat} {S T : ms_S} {A B : Nat → Bool} (f : cF B (rsS pl S) T) (h : ∀ k, k < pl.length → B k = true → A (pl.getD k 0) = true) : cF A S (mgS pl S T) := by
  have g : ∀ a, A a = false → ∀ k, k < pl.length → pl.getD k 0 = a → B k = false := by
    intro a ha k hk e
    cases q : B k with
    | false => rfl
    | true =>
      have := h k hk q
      rw [e, ha] at this
      cases this
  exact ⟨fun a ha => mgF_same (fun k hk e => f.1 k (g a ha k hk e)), fun a ha => mgF_same (fun k hk e => f.2.1 k (g a ha k hk e)), fun a ha => mgF_same (fun k hk e => f.2.2.1 k (g a ha k hk e)), fun a ha => mgF_same (fun k hk e => f.2.2.2.1 k (g a ha k hk e)), rfl⟩
theorem rs_cF {pl : List Nat} (hn : ndL pl = true) {S T : ms_S} (h : T.2.2.1 = S.2.2.1) : cF (fun a => Nat.ble pl.length a) T (rsS pl (mgS pl S T)) := by
  have g : ∀ a, Nat.ble pl.length a = false → a < pl.length := by
    intro a q
    rcases Nat.lt_or_ge a pl.length with z | z
    · exact z
    · rw [Nat.ble_eq_true_of_le z] at q; cases q
  exact ⟨fun a q => rs_mg hn (g a q), fun a q => rs_mg hn (g a q), fun a q => rs_mg hn (g a q), fun a q => rs_mg hn (g a q), h.symm⟩
/-! the tape -/
def tpB (S S' : ms_S) : Prop := (∀ a, ¬ a = 1 → S'.1 a = S.1 a) ∧ (∀ k, k < 4 ∨ 7 < k → S'.1 1 k = S.1 1 k) ∧ S'.2 = S.2
theorem tpB.tr {S1 S2 S3 : ms_S} (h1 : tpB S1 S2) (h2 : tpB S2 S3) : tpB S1 S3 := ⟨fun a q => (h2.1 a q).trans (h1.1 a q), fun a q => (h2.2.1 a q).trans (h1.2.1 a q), h2.2.2.trans h1.2.2⟩
theorem tpB_mg {S T : ms_S} (f : tpF (rsS e_TpB S) T) : tpB S (mgS e_TpB S T) := by
  have e : T.2 = (rsS e_TpB S).2 := f.2.2
  refine ⟨fun a ha => mgF_same (fun k hk q => f.1 k (fun z => ?_)), fun k hk => f.2.1 k hk, ?_⟩
  · subst z
    exact ha q.symm
  · show (mgF e_TpB S.2.1 T.2.1, S.2.2.1, mgF e_TpB S.2.2.2.1 T.2.2.2.1, mgF e_TpB S.2.2.2.2 T.2.2.2.2) = S.2
    rw [e]
    show (mgF e_TpB S.2.1 (rsF e_TpB S.2.1), S.2.2.1, mgF e_TpB S.2.2.2.1 (rsF e_TpB S.2.2.2.1), mgF e_TpB S.2.2.2.2 (rsF e_TpB S.2.2.2.2)) = S.2
    rw [mgF_rs, mgF_rs, mgF_rs]
theorem bTx_B {S S' : ms_S} {b : Nat → Nat} {n : Nat} (h : bTx (rsS e_TpB S) b n) (h1 : S'.1 1 3 = S.1 1 3) (h2 : S'.2.2.2.1 2 = S.2.2.2.1 2) (h3 : S'.2.2.2.1 3 = S.2.2.2.1 3) : bTx (rsS e_TpB S') b n := by
  obtain ⟨g1, g2, g3, g4⟩ := h
  exact ⟨g1, h1.trans g2, fun j hj => ⟨(congrFun h2 j).trans (g3 j hj).1, (g3 j hj).2⟩, fun k hk => (congrFun h3 k).trans (g4 k hk)⟩
theorem bTx_T {S S' : ms_S} {b : Nat → Nat} {n : Nat} (h : bTx (rsS e_TpB S) b n) (f : tpB S S') : bTx (rsS e_TpB S') b n := bTx_B h (f.2.1 3 (by omega)) (by rw [f.2.2]) (by rw [f.2.2])
theorem u_advB (G : ab_G) {S : ms_S} {tl : ab_H} {b : Nat → Nat} {n i : Nat} (hT : bTx (rsS e_TpB S) b n) (hi : i ≤ n) (h4 : S.1 1 4 = nI i) (K : ms_S → Prop) (k : ∀ S', tpB S S' → bTx (rsS e_TpB S') b n → bTk (rsS e_TpB S') (tk b n i) → K S') : ctU G 3 M_X10_advance false [.ref 1] lB S tl K :=
  ctU.tr e_TpB e_TpB_i e_TpB_n rfl (fun G' => u_adv (G := G') (S := rsS e_TpB S) (tl := []) hT hi h4 _ (fun T f t => k (mgS e_TpB S T) (tpB_mg f) (bTx_T hT (tpB_mg f)) t))
/-! the law's reader -/
def lrD (p : Nat) : ms_D := .inr (.inl (5, [(2, 1), (2, 56), (0, 0), (0, 0), (0, 0), (0, 0), (2, p)]))
abbrev lBw (p : Nat) : List ms_D := lB.set 55 (lrD p)
theorem ms_h_set {S : ms_S} {d : ms_D} : ∀ {l : List ms_D} {k i : Nat}, ms_h S k (l.set i d) = (ms_h S k l).set i (ms_c S (k + i) d)
  | [], k, i => rfl
  | c :: l, k, 0 => rfl
  | c :: l, k, i + 1 => by
    show ms_c S k c :: ms_h S (k + 1) (l.set i d) = ms_c S k c :: (ms_h S (k + 1) l).set i (ms_c S (k + (i + 1)) d)
    rw [ms_h_set (l := l) (k := k + 1) (i := i), show k + 1 + i = k + (i + 1) by omega]
theorem ms_hgt {S : ms_S} : ∀ {l : List ms_D} {k i : Nat} {d : ms_D}, l[i]? = some d → (ms_h S k l)[i]? = some (ms_c S (k + i) d)
  | [], k, i, d, h => by cases h
  | c :: l, k, 0, d, h => by cases h; rfl
  | c :: l, k, i + 1, d, h => by
    show (ms_h S (k + 1) l)[i]? = _
    rw [ms_hgt (l := l) (k := k + 1) (i := i) h, show k + 1 + i = k + (i + 1) by omega]
theorem hLy_w {S : ms_S} {tl : ab_H} {p : Nat} (h : S.2.2.1 55 6 = p) : hLy (lBw p) S tl = hLy lB S tl := by
  show ms_h S 0 (lB.set 55 (lrD p)) ++ tl = ms_h S 0 lB ++ tl
  rw [ms_h_set]
  have e : (ms_h S 0 lB)[55]? = some (ms_c S (0 + 55) (lrD p)) := by
    rw [ms_hgt (l := lB) (k := 0) (i := 55) (d := .inr (.inl (5, [(2, 1), (2, 56), (0, 0), (0, 0), (0, 0), (0, 0), (3, 0)]))) rfl]
    subst h
    rfl
  congr 1
  apply List.ext_getElem?
  intro j
  rw [List.getElem?_set]
  split
  · rename_i z
    subst z
    rw [e]
    split
    · rfl
    · rename_i z
      rw [List.getElem?_eq_none (by omega)] at e
      cases e
  · rfl
abbrev eR (p : Nat) : List Nat := [1, 2, 3, 55, 56, p, p + 1, p + 2, p + 3]
theorem eR43 : lyIn (eR 43) (lBw 43) (eR 43) lLR ∧ ndL (eR 43) = true := ⟨⟨rfl, rfl, ⟨rfl, rfl, ⟨rfl, rfl, ⟨rfl, rfl, ⟨rfl, rfl, ⟨rfl, rfl, ⟨rfl, rfl, ⟨rfl, rfl, ⟨rfl, rfl, trivial⟩⟩⟩⟩⟩⟩⟩⟩⟩, by decide +kernel⟩
theorem eR47 : lyIn (eR 47) (lBw 47) (eR 47) lLR ∧ ndL (eR 47) = true := ⟨⟨rfl, rfl, ⟨rfl, rfl, ⟨rfl, rfl, ⟨rfl, rfl, ⟨rfl, rfl, ⟨rfl, rfl, ⟨rfl, rfl, ⟨rfl, rfl, ⟨rfl, rfl, trivial⟩⟩⟩⟩⟩⟩⟩⟩⟩, by decide +kernel⟩
theorem eR51 : lyIn (eR 51) (lBw 51) (eR 51) lLR ∧ ndL (eR 51) = true := ⟨⟨rfl, rfl, ⟨rfl, rfl, ⟨rfl, rfl, ⟨rfl, rfl, ⟨rfl, rfl, ⟨rfl, rfl, ⟨rfl, rfl, ⟨rfl, rfl, ⟨rfl, rfl, trivial⟩⟩⟩⟩⟩⟩⟩⟩⟩, by decide +kernel⟩
/-- places of the draft's laws -/
def pLw (p : Nat) : Prop := p = 43 ∨ p = 47 ∨ p = 51
theorem eR_i {p : Nat} (h : pLw p) : lyIn (eR p) (lBw p) (eR p) lLR ∧ ndL (eR p) = true := by
  rcases h with rfl | rfl | rfl
  · exact eR43
  · exact eR47
  · exact eR51
def aRd (p : Nat) : Nat → Bool := fun a => Nat.beq a 55 || Nat.beq a 56 || Nat.beq a p || Nat.beq a (p + 1)
theorem eR_a {p : Nat} : ∀ k, k < (eR p).length → aQL k = true → aRd p ((eR p).getD k 0) = true := by
  intro k hk h
  rcases (show k = 0 ∨ k = 1 ∨ k = 2 ∨ k = 3 ∨ k = 4 ∨ k = 5 ∨ k = 6 ∨ k = 7 ∨ k = 8 by have : k < 9 := hk; omega) with rfl | rfl | rfl | rfl | rfl | rfl | rfl | rfl | rfl
  · cases h
  · cases h
  · cases h
  · rfl
  · rfl
  · show (Nat.beq p 55 || Nat.beq p 56 || Nat.beq p p || Nat.beq p (p + 1)) = true
    rw [show Nat.beq p p = true from Nat.beq_refl p, Bool.or_true]; rfl
  · show (Nat.beq (p + 1) 55 || Nat.beq (p + 1) 56 || Nat.beq (p + 1) p || Nat.beq (p + 1) (p + 1)) = true
    rw [show Nat.beq (p + 1) (p + 1) = true from Nat.beq_refl _, Bool.or_true]
  · cases h
  · cases h
theorem lrT {G : ab_G} {d : Nat} {M : ab_MD} {as as' : List Value} {S : ms_S} {tl : ab_H} {K : Int32 → ms_S → Prop} {p : Nat} (hp : pLw p) (hS : S.2.2.1 55 6 = p) (has : as'.map (rnV (eR p)) = as)
    (ct : ∀ G' : ab_G, ctI G' d M false as' lLR (rsS (eR p) S) [] (fun v T => K v (mgS (eR p) S T))) : ctI G d M false as lB S tl K := by
  have c : ctI G d M false as (lBw p) S tl (fun v S' => S'.2.2.1 55 6 = p ∧ K v S') := ctI.tr (eR p) (eR_i hp).1 (eR_i hp).2 has (fun G' => Met_mono (ct G') (fun r h' ⟨v, T, e1, e2, e3⟩ => ⟨v, T, e1, e2, hS, e3⟩))
  unfold ctI at c ⊢
  rw [hLy_w hS] at c
  refine Met_mono c (fun r h' ⟨v, T, e1, e2, e3, e4⟩ => ⟨v, T, e1, ?_, e4⟩)
  rw [e2, hLy_w e3]

