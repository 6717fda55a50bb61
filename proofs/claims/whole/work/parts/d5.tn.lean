/-! ===== the twenty estates of the past ===== -/
def eOb (n : Nat) : ab_E := .inr (1, [.ref n, .ref (n + 1), .ref (n + 2), .int 0, .int 0, .int 0, .int 0, .int 0])
def eBl (b : Nat) : Nat → ab_H
  | 0 => []
  | k + 1 => eBl b k ++ [eOb (b + 4 * k + 1), aIn 5, aIn 5, aIn 5]
theorem eBl_len (b : Nat) : ∀ k, (eBl b k).length = 4 * k
  | 0 => rfl
  | k + 1 => by
    show (eBl b k ++ [eOb (b + 4 * k + 1), aIn 5, aIn 5, aIn 5]).length = _
    rw [List.length_append, eBl_len b k]
    rfl
def eRf (b k : Nat) : Nat → Option Nat := fun j => if j < k then some (b + 4 * j) else none
abbrev eAr (b k : Nat) : ab_E := .inl (4, 20, .inr (.inr (.inr (.inr (eRf b k)))))
theorem eRf_up (b k : Nat) (hk : k < 2 ^ 30) : va_up (eRf b k) (nI k).toNatClampNeg (some (b + 4 * k)) = eRf b (k + 1) := by
  rw [show (nI k).toNatClampNeg = k from nI_clamp (by omega)]
  funext j
  unfold va_up eRf
  by_cases h1 : j = k
  · subst h1
    simp
  · by_cases h2 : j < k
    · simp [h1, h2, show j < k + 1 by omega]
    · simp [h1, h2, show ¬ j < k + 1 by omega]
section NW6
variable {G : ab_G} {n0 : Nat} {p : Program} {e : Env} {R : Room} {s : State} {m : MethodId} {args : Array Value} {below : List Frame} {meth : Method} {c : Code} {Q : State → Prop} {cells slots : Nat} {h t : ab_H}
theorem nw_past {a i0 b : Nat} {x : ab_E} {fs : List Value} (C : ab_C G M_X11_init p s m args meth c) (he : h[a]? = some x) (hb : b = h.length + t.length) (hi0 : i0 < t.length)
    (hg : ∀ (L : List (Option Value)) (st : List Value) (t : ab_H), ab_gf (ab_lk M_X11_init.1.2.2.1 88) (some (.inr (11, fs))) (175 + 3) L st (h.set a (.inr (11, fs)) ++ t) = some (True, 175 + 3, L, .ref (h.length + i0) :: st, h.set a (.inr (11, fs)) ++ t))
    (hR : 2 ≤ R.frames ∧ 128 ≤ R.locals ∧ cells + 80 ≤ R.cells ∧ slots + 460 ≤ R.slots)
    (k : ab_R G M_X11_init true n0 p e R s m args below meth c Q (cells + 80) (slots + 460) 193 [some (.ref a), some (.int (nI 20))] [] (h.set a (.inr (11, fs)) ++ (t.set i0 (eAr b 20) ++ eBl b 20))) :
    ab_R G M_X11_init true n0 p e R s m args below meth c Q cells slots 168 [some (.ref a), some (.int (nI 0))] [] (h.set a (.inr (11, fs)) ++ (t.set i0 (eAr b 0) ++ eBl b 0)) := by
  suffices KK : ∀ q i, i + q = 20 → ab_R G M_X11_init true n0 p e R s m args below meth c Q (cells + 4 * i) (slots + 23 * i) 168 [some (.ref a), some (.int (nI i))] [] (h.set a (.inr (11, fs)) ++ (t.set i0 (eAr b i) ++ eBl b i)) from KK 20 0 rfl
  intro q
  induction q with
  | zero =>
    intro i hi
    obtain rfl : i = 20 := by omega
    iterate 3 refine ab_step C rfl ?_
    exact ab_ite (cnd := (20 : Int32) ≤ nI 20) (a := 193) (b := 174) (fun _ => k) (fun z => absurd (by decide) z)
  | succ q ih =>
    intro i hi
    have hi20 : i < 20 := by omega
    have hlT : (t.set i0 (eAr b i) ++ eBl b i).length = t.length + 4 * i := by rw [List.length_append, List.length_set, eBl_len]
    iterate 3 refine ab_step C rfl ?_
    refine ab_ite (fun z => absurd z (nI_ge (b := 20) hi20 (by decide))) (fun _ => ?_)
    refine ab_step C rfl ?_
    refine nw_gf C rfl he (hg _ _ _) ?_
    refine ab_step C rfl ?_
    refine nw_new (ci := 1) (q := (RX1, TX1, 8)) C rfl rfl CL_X11_75 IS_X1 IN_X1 ⟨by omega, by show slots + 23 * i + 8 ≤ _; omega⟩ ?_
    rw [hlT]
    refine ab_step C rfl ?_
    refine nw_cN (M' := M_X1_init) (n := 0) (d := 1) (mc := 3) (ms := 15) (i := t.length + 4 * i) (host := "BoneEstate") (as := []) (rest := [.ref (h.length + (t.length + 4 * i)), .int (nI i), .ref (h.length + i0)]) eOb (fun _ => [aIn 5, aIn 5, aIn 5]) C rfl (by simp [ab_nq]; decide) o_X1_init i_X1_init rfl rfl (k_X1 ?_) rfl rfl (Nat.le_of_ble_eq_true rfl) ⟨hR.1, hR.2.1, by omega, by show slots + 23 * i + 8 + 15 ≤ _; omega⟩ ?_
    · rw [nw_getT, List.getElem?_append_right (by rw [hlT]; omega), hlT, Nat.sub_self]
      rfl
    have hl2 : (t.set i0 (eAr b i) ++ eBl b i ++ [(Sum.inr (1, ab_df 1 8) : ab_E)]).length = t.length + 4 * i + 1 := by rw [List.length_append, hlT]; rfl
    rw [hl2, show h.length + (t.length + 4 * i + 1) = b + 4 * i + 1 by omega, List.set_append_right _ _ (by rw [hlT]; omega), hlT, Nat.sub_self]
    rw [show (t.set i0 (eAr b i) ++ eBl b i ++ [(Sum.inr (1, ab_df 1 8) : ab_E)].set 0 (eOb (b + 4 * i + 1)) ++ [aIn 5, aIn 5, aIn 5]) = t.set i0 (eAr b i) ++ eBl b (i + 1) by rw [List.append_assoc, List.append_assoc]; rfl]
    refine nw_ast (i := i0) (j := t.length + 4 * i) (kd := 4) (ci := 1) (N := 20) (r := (RX1, TX1, 8)) (f := eRf b i) C rfl ?_ (vs := [.ref (b + 4 * i + 1), .ref (b + 4 * i + 1 + 1), .ref (b + 4 * i + 1 + 2), .int 0, .int 0, .int 0, .int 0, .int 0]) ?_ rfl rfl (vp_in_nI hi20 (by decide)) ?_
    · rw [List.getElem?_append_left (by rw [List.length_set]; exact hi0), List.getElem?_set_self hi0]
    · rw [List.getElem?_append_right (by rw [List.length_set]; omega), List.length_set, show t.length + 4 * i - t.length = 4 * i by omega]
      show (eBl b i ++ [eOb (b + 4 * i + 1), aIn 5, aIn 5, aIn 5])[4 * i]? = _
      rw [List.getElem?_append_right (by rw [eBl_len]; omega), eBl_len, Nat.sub_self]
      rfl
    rw [show h.length + (t.length + 4 * i) = b + 4 * i by omega, eRf_up b i (by omega), List.set_append_left _ _ (by rw [List.length_set]; exact hi0), List.set_set]
    iterate 2 refine ab_step C rfl ?_
    have key := ih (i + 1) (by omega)
    rw [show cells + 4 * (i + 1) = cells + 4 * i + 1 + 3 by omega, show slots + 23 * (i + 1) = slots + 23 * i + 8 + 15 by omega, nI_succ] at key
    exact key
end NW6

