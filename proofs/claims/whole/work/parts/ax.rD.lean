/-! ===== the program: a law read, its steps ===== -/
def aQL : Nat → Bool := fun a => Nat.ble 3 a && Nat.ble a 6
def wT (A : Nat → Int32) : List Nat → Prop
  | [] => True
  | k :: r => A r.length = nI (wk k) ∧ wT A r
theorem wT_u {A : Nat → Int32} {i : Nat} {x : Int32} : ∀ {st : List Nat}, st.length ≤ i → wT A st → wT (upd A i x) st
  | [], _, _ => trivial
  | a :: r, h, q => by
    have h : r.length + 1 ≤ i := h
    exact ⟨(pk_un (by omega)).trans q.1, wT_u (by omega) q.2⟩
def jLW (X : ms_S) (q : tDQ) (W : List Nat) : Prop := X.1 5 3 = nI q.1 ∧ X.1 5 4 = bI (dyQ q) ∧ (∀ j, j < q.1 → X.2.2.2.1 6 j = knE (q.2 j)) ∧ X.1 3 2 = nI W.length ∧ wT (X.2.2.2.1 4) W
theorem dy_up {q : tDQ} {x : Nat × Nat} : dyQ (q.1 + 1, up q.2 q.1 x) = (dyQ q || decide (x = (1, 6))) := by
  unfold dyQ
  have g : ∀ m, m ≤ q.1 → anB (fun j => decide (up q.2 q.1 x j = (1, 6))) m = anB (fun j => decide (q.2 j = (1, 6))) m := by
    intro m
    induction m with
    | zero => exact fun _ => rfl
    | succ m ih =>
      intro h
      show (anB _ m || decide (up q.2 q.1 x m = (1, 6))) = (anB _ m || decide (q.2 m = (1, 6)))
      rw [ih (by omega), up_no (by omega)]
  show (anB (fun j => decide (up q.2 q.1 x j = (1, 6))) q.1 || decide (up q.2 q.1 x q.1 = (1, 6))) = _
  rw [g q.1 (Nat.le_refl _), up_at]
theorem kn_7 {x : Nat × Nat} (h : x.1 ≤ 14) (h1 : x.1 = 1 → x.2 < 7) (h0 : x.1 = 0 → x.2 ≤ 9999) : knE x = -(nI 7) ↔ x = (1, 6) := by
  obtain ⟨k, v⟩ := x
  have h : k ≤ 14 := h
  have h1 : k = 1 → v < 7 := h1
  have h0 : k = 0 → v ≤ 9999 := h0
  unfold knE
  show (if k = 0 then nI v else if k = 1 then -(nI (v + 1)) else -(nI (tkO k))) = -(nI 7) ↔ _
  by_cases z0 : k = 0
  · rw [if_pos z0]
    have := h0 z0
    refine ⟨fun q => ?_, fun q => ?_⟩
    · exfalso
      have g : (0 : Int32) ≤ nI v := by
        rw [show (0 : Int32) = nI 0 from rfl, nI_leI (by decide) (by omega)]
        exact Nat.zero_le _
      rw [q] at g
      exact absurd g (by decide)
    · rw [Prod.mk.injEq] at q
      omega
  · rw [if_neg z0]
    by_cases z1 : k = 1
    · rw [if_pos z1]
      have := h1 z1
      have t : ∀ v, v < 7 → (-(nI (v + 1)) = -(nI 7) ↔ v = 6) := by decide
      rw [t v this, Prod.mk.injEq]
      exact ⟨fun q => ⟨z1, q⟩, fun q => q.2⟩
    · rw [if_neg z1]
      have t : ∀ k, k ≤ 14 → ¬ k = 0 → ¬ k = 1 → ¬ (-(nI (tkO k)) = -(nI 7)) := by decide
      refine ⟨fun q => absurd q (t k h z0 z1), fun q => ?_⟩
      rw [Prod.mk.injEq] at q
      exact absurd q.1 z1
section LAWR
variable {G : ab_G} {fr : Bool} {tl : ab_H}
theorem str_t {k : Nat} (h : k < 15) (h1 : ¬ k = 1) : (wk k = 32 → rkN k = 0) ∧ (¬ wk k = 32 → (10 < wk k → 16 < wk k → 18 < wk k → rkN k = 6) ∧ (10 < wk k → 16 < wk k → ¬ 18 < wk k → rkN k = 5) ∧ (10 < wk k → ¬ 16 < wk k → rkN k = 4) ∧ (¬ 10 < wk k → 8 ≤ wk k ∧ wk k - 8 + 1 = rkN k)) := by
  rcases (show k = 0 ∨ k = 2 ∨ k = 3 ∨ k = 4 ∨ k = 5 ∨ k = 6 ∨ k = 7 ∨ k = 8 ∨ k = 9 ∨ k = 10 ∨ k = 11 ∨ k = 12 ∨ k = 13 ∨ k = 14 by omega) with rfl | rfl | rfl | rfl | rfl | rfl | rfl | rfl | rfl | rfl | rfl | rfl | rfl | rfl <;> first | exact ⟨by decide, fun z => absurd (by decide) z⟩ | exact ⟨by decide, fun _ => ⟨by decide, by decide, by decide, by decide⟩⟩
theorem u_str {lay : List ms_D} {S : ms_S} {k : Nat} (hk : k ≤ 14) (h1 : ¬ k = 1) (K : Int32 → ms_S → Prop) (c : K (nI (rkN k)) S) : ctI G 1 M_X5_strengthOf fr [.int (nI (wk k))] lay S tl K := by
  refine ctI.pu (v9 := nI (rkN k)) (m_X5_strengthOf (fun n0 => ?_)) c
  have hw := wk_lt hk
  obtain ⟨t1, t2⟩ := str_t (k := k) (by omega) h1
  rw [nI_eq (a := wk k) (b := 32) (by omega) (by decide), nI_ltI (by decide) (by omega), nI_ltI (by decide) (by omega), nI_ltI (by decide) (by omega)]
  refine ⟨fun z => by rw [t1 z], fun z => ?_⟩
  obtain ⟨t2, t3, t4, t5⟩ := t2 z
  refine ⟨fun y => ⟨fun x => ⟨fun w => by rw [t2 y x w], fun w => by rw [t3 y x w]⟩, fun x => by rw [t4 y x]⟩, fun y => ?_⟩
  rw [pk_sub (t5 y).1, nI_add, (t5 y).2]
theorem u_addK {S : ms_S} {q : tDQ} (x : Nat × Nat) (h : x.1 ≤ 14) (h1 : x.1 = 1 → x.2 < 7) (h0 : x.1 = 0 → x.2 ≤ 9999) (hq : q.1 < 64) (e3 : S.1 5 3 = nI q.1) (e4 : S.1 5 4 = bI (dyQ q)) (eK : ∀ j, j < q.1 → S.2.2.2.1 6 j = knE (q.2 j)) (K : ms_S → Prop)
    (k : ∀ S', cF aQL S S' → S'.1 3 = S.1 3 → S'.2.2.2.1 4 = S.2.2.2.1 4 → S'.1 5 3 = nI (q.1 + 1) → S'.1 5 4 = bI (dyQ (q.1 + 1, up q.2 q.1 x)) → (∀ j, j < q.1 + 1 → S'.2.2.2.1 6 j = knE (up q.2 q.1 x j)) → K S') : ctU G 1 M_X4_add fr [.ref 5, .int (knE x)] lLR S tl K := by
  refine m_X4_addR (fun n0 => ?_)
  rw [e3, e4, nI_leI (by decide) (by omega), show (nI q.1).toNatClampNeg = q.1 from nI_clamp (by omega), nI_add, x_b0, kn_7 h h1 h0]
  have KF : ∀ v : Int32, v = bI (dyQ (q.1 + 1, up q.2 q.1 x)) → K (sVa (sVa (sA S 6 q.1 (knE x)) 5 3 (nI (q.1 + 1))) 5 4 v) := by
    intro v hv
    refine k _ (((cF.sA rfl).tr (cF.sVa rfl)).tr (cF.sVa rfl)) rfl rfl rfl hv (fun j hj => ?_)
    show upd (S.2.2.2.1 6) q.1 (knE x) j = _
    by_cases z : j = q.1
    · rw [z, pk_us, up_at]
    · rw [pk_un z, up_no z]
      exact eK j (by omega)
  rw [dy_up] at KF
  refine ⟨fun z => absurd z (by omega), fun _ => ⟨(x_vp (by omega)).mpr (by omega), fun z => ⟨fun y => KF _ ?_, fun y => KF _ ?_⟩, fun z => KF _ ?_⟩⟩
  · rw [z, decide_eq_true y]; rfl
  · rw [z, decide_eq_false y]; rfl
  · rw [nf_t z]; rfl
theorem u_pushW {S : ms_S} {q : tDQ} {W : List Nat} (k : Nat) (hW : W.length < 72) (h : jLW S q W) (K : ms_S → Prop)
    (c : ∀ S', cF aQL S S' → (∀ j, 3 ≤ j → S'.1 3 j = S.1 3 j) → jLW S' q (k :: W) → K S') : ctU G 1 M_X5_push fr [.ref 3, .int (nI (wk k))] lLR S tl K := by
  obtain ⟨h1, h2, h3, h4, h5⟩ := h
  refine m_X5_push (fun n0 => ?_)
  rw [h4, nI_leI (by decide) (by omega), show (nI W.length).toNatClampNeg = W.length from nI_clamp (by omega), nI_add]
  refine ⟨fun z => absurd z (by omega), fun _ => ⟨(x_vp (by omega)).mpr hW, c _ ((cF.sA rfl).tr (cF.sVa rfl)) (fun j hj => u2_ne (Or.inr (by omega))) ⟨h1, h2, h3, rfl, ?_, ?_⟩⟩⟩
  · show upd (S.2.2.2.1 4) W.length _ W.length = _
    rw [pk_us]
  · exact wT_u (Nat.le_refl _) h5
theorem u_relW {ls : Nat} (hls : 1 ≤ ls) (hl6 : ls ≤ 6) {S0 : ms_S} (K : ms_S → Prop) : ∀ (W : List Nat) (q : tDQ) (S : ms_S) (n0 : Nat), wOk W → q.1 + nzC W ≤ 64 → W.length ≤ 72 → jLW S q W → cF aQL S0 S → (∀ j, 3 ≤ j → S.1 3 j = S0.1 3 j)
    → (∀ S', cF aQL S0 S' → (∀ j, 3 ≤ j → S'.1 3 j = S0.1 3 j) → jLW S' (bdW ls W q).1 (bdW ls W q).2 → K S') → L_X5_release_0 G fr n0 tl K S (nI ls)
  | [], q, S, n0, hW, hq, hl, h, hf, hj, k => by
    refine b_X5_release_0 ?_
    rw [h.2.2.2.1]
    exact ⟨fun _ => b_X5_release_55 (k S hf hj h), fun z => absurd (Int32.le_refl _) z⟩
  | c :: r, q, S, n0, hW, hq, hl, h, hf, hj, k => by
    obtain ⟨h1, h2, h3, h4, h5, h6⟩ := h
    have hk := hW c (List.mem_cons_self)
    have hl : r.length + 1 ≤ 72 := hl
    have h4 : S.1 3 2 = nI (r.length + 1) := h4
    refine b_X5_release_0 ?_
    rw [h4, show (0 : Int32) = nI 0 from rfl, nI_leI (by omega) (by decide), pk_sub (by omega), show r.length + 1 - 1 = r.length by omega, show (nI r.length).toNatClampNeg = r.length from nI_clamp (by omega), h5]
    refine ⟨fun z => absurd z (by omega), fun _ => ⟨(x_vp (by omega)).mpr (by omega), u_str hk.1 hk.2 _ ?_⟩⟩
    have r6 := rk_le c
    rw [nI_ltI (by omega) (by omega), h4, pk_sub (by omega), show r.length + 1 - 1 = r.length by omega, show (nI r.length).toNatClampNeg = r.length from nI_clamp (by omega), h5]
    refine ⟨fun z => b_X5_release_55 (k S hf hj ?_), fun z => ⟨(x_vp (by omega)).mpr (by omega), ?_⟩⟩
    · rw [bdW_n (by omega)]
      exact ⟨h1, h2, h3, h4, h5, h6⟩
    · have c0 : ¬ c = 0 := rk_nz (by omega)
      rw [bdW_y (by omega)] at k
      have hnz : nzC (c :: r) = 1 + nzC r := by
        show (if c = 0 then 0 else 1) + nzC r = _
        rw [if_neg c0]
      have ek2 : -(nI (wk c)) = knE (c, 0) := by
        unfold knE wk
        rw [if_neg c0]
        show _ = if c = 0 then _ else if c = 1 then _ else _
        rw [if_neg c0, if_neg hk.2]
      rw [ek2]
      refine u_addK (S := sVa S 3 2 (nI r.length)) (q := q) (c, 0) hk.1 (fun w => absurd w hk.2) (fun w => absurd w c0) (by omega) h1 h2 h3 _ (fun S' s0 s1 s2 s3 s4 s5 => ?_)
      refine u_relW hls hl6 K r (q.1 + 1, up q.2 q.1 (c, 0)) S' n0 (fun j hj => hW j (List.mem_cons_of_mem _ hj)) (by show q.1 + 1 + nzC r ≤ 64; omega) (by omega) ⟨s3, s4, s5, by rw [s1]; rfl, by rw [s2]; exact h6⟩ (hf.tr ((cF.sVa rfl).tr s0)) (fun j hj3 => ?_) k
      rw [s1]
      exact (u2_ne (Or.inr (by omega))).trans (hj j hj3)
theorem u_rel {S : ms_S} {ls : Nat} {W : List Nat} {q : tDQ} (hls : 1 ≤ ls) (hl6 : ls ≤ 6) (hW : wOk W) (hq : q.1 + nzC W ≤ 64) (hl : W.length ≤ 72) (h : jLW S q W) (K : ms_S → Prop) (k : ∀ S', cF aQL S S' → (∀ j, 3 ≤ j → S'.1 3 j = S.1 3 j) → jLW S' (bdW ls W q).1 (bdW ls W q).2 → K S') : ctU G 2 M_X5_release fr [.ref 3, .int (nI ls)] lLR S tl K :=
  m_X5_release (fun n0 => u_relW hls hl6 K W q S n0 hW hq hl h cF.rf (fun _ _ => rfl) k)
end LAWR

