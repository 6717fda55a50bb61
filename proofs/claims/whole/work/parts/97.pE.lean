/-! ===== the program: frames, counts of bits, laws in place ===== -/
theorem bq_ne {a b : Nat} (h : ¬ a = b) : Nat.beq a b = false := by
  cases z : Nat.beq a b with
  | false => rfl
  | true => exact absurd (Nat.eq_of_beq_eq_true z) h
theorem mgF_rs {α : Type} {pl : List Nat} {V : Nat → α} : mgF pl V (rsF pl V) = V := by
  funext a
  cases h : pxF pl a 0 with
  | none => exact mgF_no h
  | some k =>
    rw [mgF_at h]
    have := (pxF_some h).2
    rw [Nat.sub_zero] at this
    show V (pl.getD k 0) = V a
    rw [List.getD_eq_getElem?_getD, this]
    rfl
theorem mgS_rs {pl : List Nat} {S : ms_S} : mgS pl S (rsS pl S) = S := by
  show (mgF pl S.1 (rsF pl S.1), mgF pl S.2.1 (rsF pl S.2.1), S.2.2.1, mgF pl S.2.2.2.1 (rsF pl S.2.2.2.1), mgF pl S.2.2.2.2 (rsF pl S.2.2.2.2)) = S
  rw [mgF_rs, mgF_rs, mgF_rs, mgF_rs]
/-- cells that may differ: those of A -/
def cF (A : Nat → Bool) (S S' : ms_S) : Prop := (∀ a, A a = false → S'.1 a = S.1 a) ∧ (∀ a, A a = false → S'.2.1 a = S.2.1 a) ∧ (∀ a, A a = false → S'.2.2.2.1 a = S.2.2.2.1 a) ∧ (∀ a, A a = false → S'.2.2.2.2 a = S.2.2.2.2 a) ∧ S'.2.2.1 = S.2.2.1
theorem cF.rf {A : Nat → Bool} {S : ms_S} : cF A S S := ⟨fun _ _ => rfl, fun _ _ => rfl, fun _ _ => rfl, fun _ _ => rfl, rfl⟩
theorem cF.tr {A : Nat → Bool} {S1 S2 S3 : ms_S} (h1 : cF A S1 S2) (h2 : cF A S2 S3) : cF A S1 S3 := ⟨fun a q => (h2.1 a q).trans (h1.1 a q), fun a q => (h2.2.1 a q).trans (h1.2.1 a q), fun a q => (h2.2.2.1 a q).trans (h1.2.2.1 a q), fun a q => (h2.2.2.2.1 a q).trans (h1.2.2.2.1 a q), h2.2.2.2.2.trans h1.2.2.2.2⟩
theorem cF.mono {A B : Nat → Bool} {S S' : ms_S} (h : cF A S S') (hA : ∀ a, B a = false → A a = false) : cF B S S' := ⟨fun a q => h.1 a (hA a q), fun a q => h.2.1 a (hA a q), fun a q => h.2.2.1 a (hA a q), fun a q => h.2.2.2.1 a (hA a q), h.2.2.2.2⟩
theorem cf_ne {A : Nat → Bool} {a b : Nat} (ha : A a = true) (hb : A b = false) : b ≠ a := fun z => by rw [z, ha] at hb; cases hb
theorem u2_o {α : Type} {V : Nat → Nat → α} {a k b : Nat} {x : α} (h : b ≠ a) : u2 V a k x b = V b := by
  funext j
  exact u2_ne (Or.inl h)
theorem cF.sVa {A : Nat → Bool} {S : ms_S} {a k : Nat} {x : Int32} (ha : A a = true) : cF A S (sVa S a k x) := ⟨fun _ q => u2_o (cf_ne ha q), fun _ _ => rfl, fun _ _ => rfl, fun _ _ => rfl, rfl⟩
theorem cF.sWa {A : Nat → Bool} {S : ms_S} {a k : Nat} {x : Int64} (ha : A a = true) : cF A S (sWa S a k x) := ⟨fun _ _ => rfl, fun _ q => u2_o (cf_ne ha q), fun _ _ => rfl, fun _ _ => rfl, rfl⟩
theorem cF.sA {A : Nat → Bool} {S : ms_S} {a i : Nat} {x : Int32} (ha : A a = true) : cF A S (sA S a i x) := ⟨fun _ _ => rfl, fun _ _ => rfl, fun _ q => u1_ne (cf_ne ha q), fun _ _ => rfl, rfl⟩
theorem cF.sL {A : Nat → Bool} {S : ms_S} {a i : Nat} {x : Int64} (ha : A a = true) : cF A S (sL S a i x) := ⟨fun _ _ => rfl, fun _ _ => rfl, fun _ _ => rfl, fun _ q => u1_ne (cf_ne ha q), rfl⟩
/-! counts of bits -/
def bcA (x : Int32) : Int32 := x - (((x.toUInt32 >>> ((nI 1).toUInt32 &&& Int32.toUInt32 31)).toInt32) &&& ((1431655765 : Int32)))
def bcB (x : Int32) : Int32 := (x &&& ((858993459 : Int32))) + (((x.toUInt32 >>> ((nI 2).toUInt32 &&& Int32.toUInt32 31)).toInt32) &&& ((858993459 : Int32)))
def bcC (x : Int32) : Int32 := (x + ((x.toUInt32 >>> ((nI 4).toUInt32 &&& Int32.toUInt32 31)).toInt32)) &&& ((252645135 : Int32))
def bcD (x : Int32) : Int32 := x + ((x.toUInt32 >>> ((nI 8).toUInt32 &&& Int32.toUInt32 31)).toInt32)
def bcE (x : Int32) : Int32 := x + ((x.toUInt32 >>> ((nI 16).toUInt32 &&& Int32.toUInt32 31)).toInt32)
theorem bc_tab : ∀ k, k < 512 → bcE (bcD (bcC (bcB (bcA (nI k))))) &&& nI 63 = nI (pop k 9) := by decide +kernel
theorem u_bitCount (G : ab_G) (fr : Bool) {lay : List ms_D} (S : ms_S) (tl : ab_H) (k : Nat) (hk : k < 512) (K : Int32 → ms_S → Prop) (c : K (nI (pop k 9)) S) : ctI G 1 M_J6_bitCount fr [.int (nI k)] lay S tl K := by
  refine ctI.pk (m_J6_bitCount (fun n0 => b_J6_bitCount_10 (b_J6_bitCount_24 (b_J6_bitCount_34 (b_J6_bitCount_41 (b_J6_bitCount_48 ?_))))))
  show K (bcE (bcD (bcC (bcB (bcA (nI k))))) &&& nI 63) S
  rw [bc_tab k hk]
  exact c
/-! laws in their places -/
def aW : Nat → Bool := fun a => Nat.beq a 15 || Nat.beq a 16 || Nat.beq a 19 || Nat.beq a 20 || Nat.beq a 23 || Nat.beq a 24
/-- the names of who holds, how rich, which day -/
def nmS (S : ms_S) (a e f g : Nat) : Prop := S.2.2.2.2 a 5 = (nI e).toInt64 ∧ S.2.2.2.2 a 6 = (nI f).toInt64 ∧ S.2.2.2.2 a 7 = (nI g).toInt64
theorem mLw_c {S S' : ms_S} {o : Option tDQ} (h1 : S'.1 0 = S.1 0) (h2 : S'.2.2.2.1 1 = S.2.2.2.1 1) (h : mLw S o) : mLw S' o := by
  obtain ⟨a1, a2⟩ := h
  refine ⟨(congrFun h1 3).trans a1, ?_⟩
  cases o with
  | none => exact (congrFun h1 4).trans a2
  | some q => exact ⟨a2.1, (congrFun h1 4).trans a2.2.1, fun j hj => (congrFun h2 j).trans (a2.2.2 j hj)⟩
theorem mg_big {pl : List Nat} {S T : ms_S} {A : Nat → Bool} (hA : ∀ a, A a = false → pxF pl a 0 = none ∨ ∃ k, pxF pl a 0 = some k ∧ T.1 k = S.1 a ∧ T.2.1 k = S.2.1 a ∧ T.2.2.2.1 k = S.2.2.2.1 a ∧ T.2.2.2.2 k = S.2.2.2.2 a) : cF A S (mgS pl S T) := by
  refine ⟨fun a q => ?_, fun a q => ?_, fun a q => ?_, fun a q => ?_, rfl⟩
  all_goals
    rcases hA a q with h | ⟨k, h, h1, h2, h3, h4⟩
    · exact mgF_no h
    · first | exact (mgF_at h).trans h1 | exact (mgF_at h).trans h2 | exact (mgF_at h).trans h3 | exact (mgF_at h).trans h4
theorem mg_big' {pl : List Nat} {S T : ms_S} {A : Nat → Bool} (h : wfr (rsS pl S) T) (hA : ∀ a, A a = false → pxF pl a 0 = none ∨ ∃ k, k < 2 ∧ pxF pl a 0 = some k) : cF A S (mgS pl S T) := by
  obtain ⟨h1, h2, h3, h4, h5, h6⟩ := h
  refine ⟨fun a q => ?_, fun a q => ?_, fun a q => ?_, fun a q => ?_, rfl⟩
  · show mgF pl S.1 T.1 a = _
    rw [h1]
    exact congrFun mgF_rs a
  · show mgF pl S.2.1 T.2.1 a = _
    rw [h2]
    exact congrFun mgF_rs a
  · show mgF pl S.2.2.2.1 T.2.2.2.1 a = _
    rw [h4]
    exact congrFun mgF_rs a
  · show mgF pl S.2.2.2.2 T.2.2.2.2 a = _
    rcases hA a q with z | ⟨k, z1, z2⟩
    · exact mgF_no z
    · rw [mgF_at z2, h6 k z1]
      have := (pxF_some z2).2
      rw [Nat.sub_zero] at this
      show S.2.2.2.2 (pl.getD k 0) = _
      rw [List.getD_eq_getElem?_getD, this]
      rfl
theorem px_LwC0 {a : Nat} (h : a < 13 ∨ 16 < a) : pxF e_LwC0 a 0 = none := by
  unfold e_LwC0 pxF pxF pxF pxF pxF
  rw [show Nat.beq 13 a = false from bq_ne (by omega), show Nat.beq 14 a = false from bq_ne (by omega), show Nat.beq 15 a = false from bq_ne (by omega), show Nat.beq 16 a = false from bq_ne (by omega)]
  rfl
theorem aW_13 {a : Nat} (h : aW a = false) : a < 13 ∨ a = 13 ∨ a = 14 ∨ 16 < a := by
  rcases (show a < 13 ∨ a = 13 ∨ a = 14 ∨ a = 15 ∨ a = 16 ∨ 16 < a by omega) with z | z | z | z | z | z
  · exact Or.inl z
  · exact Or.inr (Or.inl z)
  · exact Or.inr (Or.inr (Or.inl z))
  · subst z; cases h
  · subst z; cases h
  · exact Or.inr (Or.inr (Or.inr z))
theorem u_scene0 (G : ab_G) (S : ms_S) (tl : ab_H) (e f g : Nat) (K : ms_S → Prop) (k : ∀ S', cF aW S S' → nmS S' 16 e f g → K S') : ctU G 1 M_X4_scene false [.ref 13, .int (nI e), .int (nI f), .int (nI g)] lC S tl K := by
  refine ctU.tr e_LwC0 e_LwC0_i e_LwC0_n rfl (fun G' => m_X4_scene (fun n0 => ⟨(x_vp (by decide)).mpr (by decide), (x_vp (by decide)).mpr (by decide), (x_vp (by decide)).mpr (by decide), k _ (mg_big (fun a ha => ?_)) ⟨rfl, rfl, rfl⟩⟩))
  rcases aW_13 ha with z | z | z | z
  · exact Or.inl (px_LwC0 (Or.inl z))
  · subst z; exact Or.inr ⟨0, rfl, rfl, rfl, rfl, rfl⟩
  · subst z; exact Or.inr ⟨1, rfl, rfl, rfl, rfl, rfl⟩
  · exact Or.inl (px_LwC0 (Or.inr z))
theorem u_told0 (G : ab_G) (S : ms_S) (tl : ab_H) (q : Option tDQ) (h : mLw (rsS e_LwC0 S) q) (K : Int32 → ms_S → Prop) (k : K (bI q.isSome) S) : ctI G 1 M_X4_isTold false [.ref 13] lC S tl K := by
  have hs : (rsS e_LwC0 S).1 0 3 = nI (szQ q) := h.1
  refine ctI.tr e_LwC0 e_LwC0_i e_LwC0_n rfl (fun G' => m_X4_isTold (fun n0 => ?_))
  rw [hs, mgS_rs]
  cases q with
  | none => exact ⟨fun _ => k, fun z => absurd (Int32.le_refl _) z⟩
  | some q =>
    have hv : 0 < q.1 ∧ q.1 ≤ 64 := ⟨h.2.1.1, h.2.1.2.1⟩
    rw [show szQ (some q) = q.1 from rfl, x_le0 (by omega)]
    exact ⟨fun z => absurd z (by omega), fun _ => k⟩
theorem u_work0 (G : ab_G) (S : ms_S) (tl : ab_H) (q : Option tDQ) (h : mLw (rsS e_LwC0 S) q) (a b c d e f g : Nat) (ha : a < 2 ^ 31) (hb : b < 2 ^ 31) (hc : c < 2 ^ 31) (hd : d < 2 ^ 31) (he : e < 2 ^ 31) (hf : f < 2 ^ 31) (hg : g < 2 ^ 31) (hn : nmS S 16 e f g) (K : Int64 → ms_S → Prop)
    (k : ∀ S', cF aW S S' → nmS S' 16 e f g → (∀ v, evW q (env a b c d e f g) = some v → bd v) → K ((evW q (env a b c d e f g)).getD NTM) S') : ctL G 3 M_X4_work false [.ref 13, .int (nI a), .int (nI b), .int (nI c), .int (nI d)] lC S tl K := by
  refine ctL.tr e_LwC0 e_LwC0_i e_LwC0_n rfl (fun G' => c_work G' false (rsS e_LwC0 S) [] q h a b c d e f g ha hb hc hd he hf hg hn.1 hn.2.1 hn.2.2 _ (fun T hT hbd => k _ (mg_big' hT (fun a ha => ?_)) ⟨(hT.2.2.2.2.1 5 (by decide)).trans hn.1, (hT.2.2.2.2.1 6 (by decide)).trans hn.2.1, (hT.2.2.2.2.1 7 (by decide)).trans hn.2.2⟩ hbd))
  rcases aW_13 ha with z | z | z | z
  · exact Or.inl (px_LwC0 (Or.inl z))
  · subst z; exact Or.inr ⟨0, by decide, rfl⟩
  · subst z; exact Or.inr ⟨1, by decide, rfl⟩
  · exact Or.inl (px_LwC0 (Or.inr z))
theorem px_LwC1 {a : Nat} (h : a < 17 ∨ 20 < a) : pxF e_LwC1 a 0 = none := by
  unfold e_LwC1 pxF pxF pxF pxF pxF
  rw [show Nat.beq 17 a = false from bq_ne (by omega), show Nat.beq 18 a = false from bq_ne (by omega), show Nat.beq 19 a = false from bq_ne (by omega), show Nat.beq 20 a = false from bq_ne (by omega)]
  rfl
theorem aW_17 {a : Nat} (h : aW a = false) : a < 17 ∨ a = 17 ∨ a = 18 ∨ 20 < a := by
  rcases (show a < 17 ∨ a = 17 ∨ a = 18 ∨ a = 19 ∨ a = 20 ∨ 20 < a by omega) with z | z | z | z | z | z
  · exact Or.inl z
  · exact Or.inr (Or.inl z)
  · exact Or.inr (Or.inr (Or.inl z))
  · subst z; cases h
  · subst z; cases h
  · exact Or.inr (Or.inr (Or.inr z))
theorem u_scene1 (G : ab_G) (S : ms_S) (tl : ab_H) (e f g : Nat) (K : ms_S → Prop) (k : ∀ S', cF aW S S' → nmS S' 20 e f g → K S') : ctU G 1 M_X4_scene false [.ref 17, .int (nI e), .int (nI f), .int (nI g)] lC S tl K := by
  refine ctU.tr e_LwC1 e_LwC1_i e_LwC1_n rfl (fun G' => m_X4_scene (fun n0 => ⟨(x_vp (by decide)).mpr (by decide), (x_vp (by decide)).mpr (by decide), (x_vp (by decide)).mpr (by decide), k _ (mg_big (fun a ha => ?_)) ⟨rfl, rfl, rfl⟩⟩))
  rcases aW_17 ha with z | z | z | z
  · exact Or.inl (px_LwC1 (Or.inl z))
  · subst z; exact Or.inr ⟨0, rfl, rfl, rfl, rfl, rfl⟩
  · subst z; exact Or.inr ⟨1, rfl, rfl, rfl, rfl, rfl⟩
  · exact Or.inl (px_LwC1 (Or.inr z))
theorem u_told1 (G : ab_G) (S : ms_S) (tl : ab_H) (q : Option tDQ) (h : mLw (rsS e_LwC1 S) q) (K : Int32 → ms_S → Prop) (k : K (bI q.isSome) S) : ctI G 1 M_X4_isTold false [.ref 17] lC S tl K := by
  have hs : (rsS e_LwC1 S).1 0 3 = nI (szQ q) := h.1
  refine ctI.tr e_LwC1 e_LwC1_i e_LwC1_n rfl (fun G' => m_X4_isTold (fun n0 => ?_))
  rw [hs, mgS_rs]
  cases q with
  | none => exact ⟨fun _ => k, fun z => absurd (Int32.le_refl _) z⟩
  | some q =>
    have hv : 0 < q.1 ∧ q.1 ≤ 64 := ⟨h.2.1.1, h.2.1.2.1⟩
    rw [show szQ (some q) = q.1 from rfl, x_le0 (by omega)]
    exact ⟨fun z => absurd z (by omega), fun _ => k⟩
theorem u_work1 (G : ab_G) (S : ms_S) (tl : ab_H) (q : Option tDQ) (h : mLw (rsS e_LwC1 S) q) (a b c d e f g : Nat) (ha : a < 2 ^ 31) (hb : b < 2 ^ 31) (hc : c < 2 ^ 31) (hd : d < 2 ^ 31) (he : e < 2 ^ 31) (hf : f < 2 ^ 31) (hg : g < 2 ^ 31) (hn : nmS S 20 e f g) (K : Int64 → ms_S → Prop)
    (k : ∀ S', cF aW S S' → nmS S' 20 e f g → (∀ v, evW q (env a b c d e f g) = some v → bd v) → K ((evW q (env a b c d e f g)).getD NTM) S') : ctL G 3 M_X4_work false [.ref 17, .int (nI a), .int (nI b), .int (nI c), .int (nI d)] lC S tl K := by
  refine ctL.tr e_LwC1 e_LwC1_i e_LwC1_n rfl (fun G' => c_work G' false (rsS e_LwC1 S) [] q h a b c d e f g ha hb hc hd he hf hg hn.1 hn.2.1 hn.2.2 _ (fun T hT hbd => k _ (mg_big' hT (fun a ha => ?_)) ⟨(hT.2.2.2.2.1 5 (by decide)).trans hn.1, (hT.2.2.2.2.1 6 (by decide)).trans hn.2.1, (hT.2.2.2.2.1 7 (by decide)).trans hn.2.2⟩ hbd))
  rcases aW_17 ha with z | z | z | z
  · exact Or.inl (px_LwC1 (Or.inl z))
  · subst z; exact Or.inr ⟨0, by decide, rfl⟩
  · subst z; exact Or.inr ⟨1, by decide, rfl⟩
  · exact Or.inl (px_LwC1 (Or.inr z))
theorem px_LwC2 {a : Nat} (h : a < 21 ∨ 24 < a) : pxF e_LwC2 a 0 = none := by
  unfold e_LwC2 pxF pxF pxF pxF pxF
  rw [show Nat.beq 21 a = false from bq_ne (by omega), show Nat.beq 22 a = false from bq_ne (by omega), show Nat.beq 23 a = false from bq_ne (by omega), show Nat.beq 24 a = false from bq_ne (by omega)]
  rfl
theorem aW_21 {a : Nat} (h : aW a = false) : a < 21 ∨ a = 21 ∨ a = 22 ∨ 24 < a := by
  rcases (show a < 21 ∨ a = 21 ∨ a = 22 ∨ a = 23 ∨ a = 24 ∨ 24 < a by omega) with z | z | z | z | z | z
  · exact Or.inl z
  · exact Or.inr (Or.inl z)
  · exact Or.inr (Or.inr (Or.inl z))
  · subst z; cases h
  · subst z; cases h
  · exact Or.inr (Or.inr (Or.inr z))
theorem u_scene2 (G : ab_G) (S : ms_S) (tl : ab_H) (e f g : Nat) (K : ms_S → Prop) (k : ∀ S', cF aW S S' → nmS S' 24 e f g → K S') : ctU G 1 M_X4_scene false [.ref 21, .int (nI e), .int (nI f), .int (nI g)] lC S tl K := by
  refine ctU.tr e_LwC2 e_LwC2_i e_LwC2_n rfl (fun G' => m_X4_scene (fun n0 => ⟨(x_vp (by decide)).mpr (by decide), (x_vp (by decide)).mpr (by decide), (x_vp (by decide)).mpr (by decide), k _ (mg_big (fun a ha => ?_)) ⟨rfl, rfl, rfl⟩⟩))
  rcases aW_21 ha with z | z | z | z
  · exact Or.inl (px_LwC2 (Or.inl z))
  · subst z; exact Or.inr ⟨0, rfl, rfl, rfl, rfl, rfl⟩
  · subst z; exact Or.inr ⟨1, rfl, rfl, rfl, rfl, rfl⟩
  · exact Or.inl (px_LwC2 (Or.inr z))
theorem u_told2 (G : ab_G) (S : ms_S) (tl : ab_H) (q : Option tDQ) (h : mLw (rsS e_LwC2 S) q) (K : Int32 → ms_S → Prop) (k : K (bI q.isSome) S) : ctI G 1 M_X4_isTold false [.ref 21] lC S tl K := by
  have hs : (rsS e_LwC2 S).1 0 3 = nI (szQ q) := h.1
  refine ctI.tr e_LwC2 e_LwC2_i e_LwC2_n rfl (fun G' => m_X4_isTold (fun n0 => ?_))
  rw [hs, mgS_rs]
  cases q with
  | none => exact ⟨fun _ => k, fun z => absurd (Int32.le_refl _) z⟩
  | some q =>
    have hv : 0 < q.1 ∧ q.1 ≤ 64 := ⟨h.2.1.1, h.2.1.2.1⟩
    rw [show szQ (some q) = q.1 from rfl, x_le0 (by omega)]
    exact ⟨fun z => absurd z (by omega), fun _ => k⟩
theorem u_work2 (G : ab_G) (S : ms_S) (tl : ab_H) (q : Option tDQ) (h : mLw (rsS e_LwC2 S) q) (a b c d e f g : Nat) (ha : a < 2 ^ 31) (hb : b < 2 ^ 31) (hc : c < 2 ^ 31) (hd : d < 2 ^ 31) (he : e < 2 ^ 31) (hf : f < 2 ^ 31) (hg : g < 2 ^ 31) (hn : nmS S 24 e f g) (K : Int64 → ms_S → Prop)
    (k : ∀ S', cF aW S S' → nmS S' 24 e f g → (∀ v, evW q (env a b c d e f g) = some v → bd v) → K ((evW q (env a b c d e f g)).getD NTM) S') : ctL G 3 M_X4_work false [.ref 21, .int (nI a), .int (nI b), .int (nI c), .int (nI d)] lC S tl K := by
  refine ctL.tr e_LwC2 e_LwC2_i e_LwC2_n rfl (fun G' => c_work G' false (rsS e_LwC2 S) [] q h a b c d e f g ha hb hc hd he hf hg hn.1 hn.2.1 hn.2.2 _ (fun T hT hbd => k _ (mg_big' hT (fun a ha => ?_)) ⟨(hT.2.2.2.2.1 5 (by decide)).trans hn.1, (hT.2.2.2.2.1 6 (by decide)).trans hn.2.1, (hT.2.2.2.2.1 7 (by decide)).trans hn.2.2⟩ hbd))
  rcases aW_21 ha with z | z | z | z
  · exact Or.inl (px_LwC2 (Or.inl z))
  · subst z; exact Or.inr ⟨0, by decide, rfl⟩
  · subst z; exact Or.inr ⟨1, by decide, rfl⟩
  · exact Or.inl (px_LwC2 (Or.inr z))

