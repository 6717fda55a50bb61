/-! ===== the tape's constructor ===== -/
def sxT : Nat → Nat × List Int32
  | 0 => (1, List.replicate 32 0)
  | i + 1 => if sx_L.getD i 0 = 32 then ((sxT i).1 + 1, (sxT i).2) else if sx_L.getD i 0 = 45 then sxT i else ((sxT i).1, (sxT i).2.set (sxT i).1 ((sxT i).2.getD (sxT i).1 0 * 32 + sx_L.getD i 0 - 97 + 1))
theorem sxT_k : ∀ i, i < 121 → (sxT i).1 < 32 ∧ (sxT i).2.length = 32 := by decide +kernel
abbrev sxA (i : Nat) : ab_E := .inl (0, 32, .inl (fun j => (sxT i).2.getD j 0))
theorem sxA_0 : sxA 0 = aIn 32 := by
  have : (fun j : Nat => (sxT 0).2.getD j 0) = fun _ => (0 : Int32) := by
    funext j
    show (List.replicate 32 (0 : Int32)).getD j 0 = 0
    rw [List.getD_eq_getElem?_getD, List.getElem?_replicate]
    split <;> rfl
  unfold sxA
  rw [this]
abbrev sxP (i : Nat) : ab_E := .inl (0, 32, .inl (fun j => if j < i then padF 6 ((sxT 120).2.getD j 0) else (sxT 120).2.getD j 0))
abbrev kTf (n : Nat) : List Value := [.ref n, .ref (n + 1), .int 0, .int 0, .int 0, .int 0, .int 0, .int 0]
abbrev kTt : ab_H := [aIn 700, sxP 32]
theorem st_ial {M : ab_MD} {pc q N : Nat} {L : List (Option Value)} {st : List Value} {h : ab_H} {f : Nat → Int32} {i : Int32} (row : ab_lk M.2.2.2.2.2.2 pc = some (.iaload, 1)) (he : h[q]? = some (.inl (0, N, .inl f))) : ab_st M pc L (.int i :: .ref q :: st) h = some (vp_in i N, pc + 1, L, .int (f i.toNatClampNeg) :: st, h) := by
  unfold ab_st
  rw [row]
  show ab_mv M 1 pc L h .iaload (.int i :: .ref q :: st) = _
  simp only [ab_mv, he]
theorem sx_up {l : List Int32} {k : Nat} {x : Int32} (hk : k < l.length) : upd (fun j => l.getD j 0) k x = fun j => (l.set k x).getD j 0 := by
  funext j
  unfold upd
  by_cases h : j = k
  · subst h
    rw [if_pos rfl, List.getD_eq_getElem?_getD, List.getElem?_set_self hk]
    rfl
  · rw [if_neg h]
    show l.getD j 0 = _
    rw [List.getD_eq_getElem?_getD, List.getD_eq_getElem?_getD, List.getElem?_set_ne (fun e => h e.symm)]
section TPC
variable {G : ab_G} {fr : Bool} {n0 : Nat} {p : Program} {e : Env} {R : Room} {s : State} {m : MethodId} {args : Array Value} {below : List Frame} {meth : Method} {c : Code} {Q : State → Prop} {cells slots : Nat} {L : List (Option Value)} {st : List Value} {h t : ab_H}
theorem sx_ofC (C : ab_C G M_X10_init p s m args meth c) : sx_C G yX10_init cX10_init 4 p s m args c := ⟨C.1, C.2.1, C.2.2.1, C.2.2.2.1, C.2.2.2.2.1, C.2.2.2.2.2.2.1⟩
theorem sx_lenR (C : ab_C G M_X10_init p s m args meth c) (hZ : sx_Z G s) (hR : 3 ≤ R.frames ∧ 192 ≤ R.locals ∧ cells ≤ R.cells ∧ slots ≤ R.slots) (hsum : (st.map fun v => v.category).sum ≤ 8)
    (k : ab_R G M_X10_init fr n0 p e R s m args below meth c Q cells slots 31 L (.int 120 :: st) h) : ab_R G M_X10_init fr n0 p e R s m args below meth c Q cells slots 26 L st h := by
  obtain ⟨q, v, z1, z2⟩ := hZ
  intro H locs ls J hlv
  refine va_ldcS C.1 C.2.1 C.2.2.2.1 z1 (C.2.2.2.2.2.2.2.2.2.2 _ (ab_lk_mem (show ab_lk M_X10_init.2.2.2.2.2.2 26 = some (.ldc 18, 2) from rfl))).1 ?_
  exact sx_runV (k' := 0) (as := []) (sx_ofC C) z2 hlv.1 sw_len_c sw_in_RJ0 (OC_X10.2.1 _ (ab_lk_mem (show ab_lk K_X10.2.2.2.1 20 = some yJ0_length_8abf5 from rfl))) sw_len_i sw_len_s (by decide) sx_length rfl (by decide) (by rw [ab_cat_sum]; exact hsum) ⟨hR.1, hR.2.1, hR.2.2.1, hR.2.2.2⟩ (C.2.2.2.2.2.2.2.2.2.2 _ (ab_lk_mem (show ab_lk M_X10_init.2.2.2.2.2.2 28 = some (.invokevirtual 20, 3) from rfl))).1 J (fun H' locs' J' => k H' locs' ls J' hlv)
theorem sx_chrR {i : Nat} (hi : i < sx_N) (C : ab_C G M_X10_init p s m args meth c) (hZ : sx_Z G s) (hR : 5 ≤ R.frames ∧ 320 ≤ R.locals ∧ cells ≤ R.cells ∧ slots ≤ R.slots) (hsum : (st.map fun v => v.category).sum ≤ 8) (hL : ab_lg L 2 = some (.int (nI i)))
    (k : ab_R G M_X10_init fr n0 p e R s m args below meth c Q cells slots 40 L (.int (sx_L.getD i 0) :: st) h) : ab_R G M_X10_init fr n0 p e R s m args below meth c Q cells slots 34 L st h := by
  obtain ⟨q, v, z1, z2⟩ := hZ
  intro H locs ls J hlv
  refine va_ldcS C.1 C.2.1 C.2.2.2.1 z1 (C.2.2.2.2.2.2.2.2.2.2 _ (ab_lk_mem (show ab_lk M_X10_init.2.2.2.2.2.2 34 = some (.ldc 18, 2) from rfl))).1 ?_
  refine lv_iload_n C.1 C.2.1 (i := 2) (x := nI i) (C.2.2.2.2.2.2.2.2.2.2 _ (ab_lk_mem (show ab_lk M_X10_init.2.2.2.2.2.2 36 = some (.iload_n 2, 1) from rfl))).1 rfl (hlv.2.2 2 _ hL) ?_
  exact sx_runV (k' := 1) (as := [.int (nI i)]) (sx_ofC C) z2 hlv.1 sw_chr_c sw_in_RJ0 (OC_X10.2.1 _ (ab_lk_mem (show ab_lk K_X10.2.2.2.1 26 = some yJ0_charAt_5068e from rfl))) sw_chr_i sw_chr_s (by decide) (sx_charAt hi) rfl (by decide) (by rw [ab_cat_sum]; exact hsum) ⟨hR.1, hR.2.1, hR.2.2.1, hR.2.2.2⟩ (C.2.2.2.2.2.2.2.2.2.2 _ (ab_lk_mem (show ab_lk M_X10_init.2.2.2.2.2.2 37 = some (.invokevirtual 26, 3) from rfl))).1 J (fun H' locs' J' => k H' locs' ls J' hlv)
theorem tp_loop {a : Nat} {x : ab_E} {A7 : ab_E} (he : h[a]? = some x) (C : ab_C G M_X10_init p s m args meth c) (hZ : sx_Z G s) (hR : 5 ≤ R.frames ∧ 320 ≤ R.locals ∧ cells ≤ R.cells ∧ slots ≤ R.slots)
    (k : ∀ x3 : Option Value, ab_R G M_X10_init fr n0 p e R s m args below meth c Q cells slots 93 [some (.ref a), some (.int (nI (sxT 120).1)), some (.int 120), x3] [] (h.set a (.inr (10, kTf h.length)) ++ [A7, sxA 120])) :
    ∀ (r i : Nat) (x3 : Option Value), i + r = 120 → ab_R G M_X10_init fr n0 p e R s m args below meth c Q cells slots 25 [some (.ref a), some (.int (nI (sxT i).1)), some (.int (nI i)), x3] [] (h.set a (.inr (10, kTf h.length)) ++ [A7, sxA i]) := by
  have hR2 : 3 ≤ R.frames ∧ 192 ≤ R.locals ∧ cells ≤ R.cells ∧ slots ≤ R.slots := ⟨by omega, by omega, hR.2.2.1, hR.2.2.2⟩
  intro r
  induction r with
  | zero =>
    intro i x3 hi
    have hi : i = 120 := by omega
    refine ab_step C rfl ?_
    refine sx_lenR C hZ hR2 (Nat.le_of_ble_eq_true rfl) ?_
    refine ab_step C rfl ?_
    refine ab_ite (fun _ => ?_) (fun z => absurd (nI_le (a := 120) (b := i) (by omega) (by omega)) z)
    subst hi
    exact k x3
  | succ r ih =>
    intro i x3 hi
    have hl : i < 120 := by omega
    obtain ⟨hk, hlen⟩ := sxT_k i (by omega)
    refine ab_step C rfl ?_
    refine sx_lenR C hZ hR2 (Nat.le_of_ble_eq_true rfl) ?_
    refine ab_step C rfl ?_
    refine ab_ite (fun z => absurd z (nI_ge (a := i) (b := 120) hl (by omega))) (fun _ => ?_)
    refine sx_chrR (i := i) hl C hZ hR (Nat.le_of_ble_eq_true rfl) rfl ?_
    have nxt : ∀ (kn : Int32) (E : ab_E), kn = nI (sxT (i + 1)).1 → E = sxA (i + 1) → ab_R G M_X10_init fr n0 p e R s m args below meth c Q cells slots 87 [some (.ref a), some (.int kn), some (.int (nI i)), some (.int (sx_L.getD i 0))] [] (h.set a (.inr (10, kTf h.length)) ++ [A7, E]) := by
      intro kn E e1 e2
      rw [e1, e2]
      iterate 2 refine ab_step C rfl ?_
      have := ih (i + 1) (some (.int (sx_L.getD i 0))) (by omega)
      rw [show nI (i + 1) = nI i + 1 from nI_succ i] at this
      exact this
    iterate 4 refine ab_step C rfl ?_
    by_cases h32 : sx_L.getD i 0 = 32
    · refine ab_ite (fun _ => ?_) (fun z => absurd h32 z)
      iterate 2 refine ab_step C rfl ?_
      refine nxt _ _ ?_ ?_
      · rw [sxT, if_pos h32]
        exact (nI_succ _).symm
      · show sxA i = sxA (i + 1)
        unfold sxA
        rw [show (sxT (i + 1)).2 = (sxT i).2 by rw [sxT, if_pos h32]]
    refine ab_ite (fun z => absurd z h32) (fun _ => ?_)
    iterate 3 refine ab_step C rfl ?_
    by_cases h45 : sx_L.getD i 0 = 45
    · refine ab_ite (fun _ => ?_) (fun z => absurd h45 z)
      refine nxt _ _ ?_ ?_
      · rw [sxT, if_neg h32, if_pos h45]
      · show sxA i = sxA (i + 1)
        unfold sxA
        rw [show (sxT (i + 1)).2 = (sxT i).2 by rw [sxT, if_neg h32, if_pos h45]]
    refine ab_ite (fun z => absurd z h45) (fun _ => ?_)
    iterate 3 refine ab_step C rfl ?_
    refine ab_ite (fun z => absurd z (nI_ge (a := (sxT i).1) (b := 32) hk (by omega))) (fun _ => ?_)
    refine ab_step C rfl ?_
    refine nw_gf (v := .ref (h.length + 1)) C rfl he rfl ?_
    iterate 2 refine ab_step C rfl ?_
    refine nw_gf (v := .ref (h.length + 1)) C rfl he rfl ?_
    refine ab_step C rfl ?_
    refine ab_stepG C (st_ial rfl (nw_getT (i := 1))) (vp_in_nI hk (by omega)) ?_
    iterate 8 refine ab_step C rfl ?_
    refine ab_stepG C (st_ias rfl (nw_getT (i := 1))) (vp_in_nI hk (by omega)) ?_
    rw [nw_setT]
    refine nxt _ _ ?_ ?_
    · rw [sxT, if_neg h32, if_neg h45]
    · show (Sum.inl (0, 32, Sum.inl (upd _ _ _)) : ab_E) = sxA (i + 1)
      rw [show (nI (sxT i).1).toNatClampNeg = (sxT i).1 from nI_clamp (by omega), sx_up (by omega)]
      unfold sxA
      rw [show (sxT (i + 1)).2 = (sxT i).2.set (sxT i).1 ((sxT i).2.getD (sxT i).1 0 * 32 + sx_L.getD i 0 - 97 + 1) by rw [sxT, if_neg h32, if_neg h45]]
      rfl
theorem tp_loop2 {a k1 : Nat} {x : ab_E} {A7 : ab_E} (he : h[a]? = some x) (C : ab_C G M_X10_init p s m args meth c) (hR : 5 ≤ R.frames ∧ 320 ≤ R.locals ∧ cells ≤ R.cells ∧ slots ≤ R.slots)
    (k : ∀ (L' : List (Option Value)), ab_R G M_X10_init fr n0 p e R s m args below meth c Q cells slots 122 L' [] (h.set a (.inr (10, kTf h.length)) ++ [A7, sxP 32])) :
    ∀ (r i : Nat) (x3 : Option Value), i + r = 32 → ab_R G M_X10_init fr n0 p e R s m args below meth c Q cells slots 95 [some (.ref a), some (.int (nI k1)), some (.int (nI i)), x3] [] (h.set a (.inr (10, kTf h.length)) ++ [A7, sxP i]) := by
  intro r
  induction r with
  | zero =>
    intro i x3 hi
    have hi : i = 32 := by omega
    iterate 3 refine ab_step C rfl ?_
    refine ab_ite (fun _ => ?_) (fun z => absurd (nI_le (a := 32) (b := i) (by omega) (by omega)) z)
    subst hi
    exact k _
  | succ r ih =>
    intro i x3 hi
    have hl : i < 32 := by omega
    iterate 3 refine ab_step C rfl ?_
    refine ab_ite (fun z => absurd z (nI_ge (a := i) (b := 32) hl (by omega))) (fun _ => ?_)
    refine ab_step C rfl ?_
    refine nw_gf (v := .ref (h.length + 1)) C rfl he rfl ?_
    iterate 2 refine ab_step C rfl ?_
    refine nw_gf (v := .ref (h.length + 1)) C rfl he rfl ?_
    refine ab_step C rfl ?_
    refine ab_stepG C (st_ial rfl (nw_getT (i := 1))) (vp_in_nI hl (by omega)) ?_
    refine ab_callS (M' := M_X10_padded) (d := 1) (as := [_]) (rest := [.int (nI i), .ref (h.length + 1)]) C rfl rfl o_X10_padded s_X10_padded k_padded rfl rfl (Nat.le_of_ble_eq_true rfl) ⟨by omega, by omega, by omega, by omega⟩ ?_
    rintro w h' ⟨rfl, rfl⟩
    refine ab_stepG C (st_ias rfl (nw_getT (i := 1))) (vp_in_nI hl (by omega)) ?_
    rw [nw_setT]
    iterate 2 refine ab_step C rfl ?_
    have := ih (i + 1) x3 (by omega)
    rw [show nI (i + 1) = nI i + 1 from nI_succ i] at this
    have e9 : sxP (i + 1) = .inl (0, 32, .inl (upd (fun j => if j < i then padF 6 ((sxT 120).2.getD j 0) else (sxT 120).2.getD j 0) (nI i).toNatClampNeg (padF 6 ((fun j => if j < i then padF 6 ((sxT 120).2.getD j 0) else (sxT 120).2.getD j 0) (nI i).toNatClampNeg)))) := by
      rw [show (nI i).toNatClampNeg = i from nI_clamp (by omega)]
      unfold sxP
      congr 3
      congr 1
      funext j
      unfold upd
      by_cases h1 : j = i
      · subst h1
        rw [if_pos (by omega), if_pos rfl]
        show _ = padF 6 (if j < j then padF 6 ((sxT 120).2.getD j 0) else (sxT 120).2.getD j 0)
        rw [if_neg (by omega)]
      · rw [if_neg h1]
        show _ = if j < i then padF 6 ((sxT 120).2.getD j 0) else (sxT 120).2.getD j 0
        by_cases h2 : j < i
        · rw [if_pos (by omega), if_pos h2]
        · rw [if_neg (by omega), if_neg h2]
    rw [e9] at this
    exact this
end TPC
theorem k_X10 {G : ab_G} {a : Nat} {h : ab_H} (he : h[a]? = some (.inr (10, ab_df 10 8))) : xCT G 5 M_X10_init true [.ref a] h 2 732 (fun r h' => r = none ∧ h' = h.set a (.inr (10, kTf h.length)) ++ kTt) := by
  refine x_ct o_X10_init (Nat.le_of_ble_eq_true rfl) (fun p e s m args below meth c C hr hl hZ => ?_)
  have e0 : h = h.set a (.inr (10, ab_df 10 8)) ++ [] := by rw [List.append_nil]; exact (pc_set he).symm
  refine ab_step C rfl ?_
  refine ab_obj C rfl OI_X10 OI_1 OI_2 (Nat.le_of_ble_eq_true rfl) ⟨by decide, by decide⟩ ?_
  suffices key : ab_R G M_X10_init true h.length p e (ab_rm 5 2 732) s m args below meth c (MQ below (ab_Q G true (h.length + 2) (fun r h' => r = none ∧ h' = h.set a (.inr (10, kTf h.length)) ++ kTt)) args s 2 732 (ab_A G)) 0 0 4 (ab_pad 4 (ab_exp [.ref a])) [] (h.set a (.inr (10, ab_df 10 8)) ++ []) by
    rw [← e0] at key
    exact key
  iterate 2 refine ab_step C rfl ?_
  refine nw_i (N := 700) C rfl (by decide) (by decide) (by decide) ⟨by decide, by decide⟩ ?_
  refine nw_put C rfl he rfl trivial ?_
  iterate 2 refine ab_step C rfl ?_
  refine nw_i (N := 32) C rfl (by decide) (by decide) (by decide) ⟨by decide, by decide⟩ ?_
  refine nw_put C rfl he rfl trivial ?_
  iterate 4 refine ab_step C rfl ?_
  suffices key2 : ∀ x3 : Option Value, ab_R G M_X10_init true h.length p e (ab_rm 5 2 732) s m args below meth c (MQ below (ab_Q G true (h.length + 2) (fun r h' => r = none ∧ h' = h.set a (.inr (10, kTf h.length)) ++ kTt)) args s 2 732 (ab_A G)) 2 732 93 [some (.ref a), some (.int (nI (sxT 120).1)), some (.int 120), x3] [] (h.set a (.inr (10, kTf h.length)) ++ [aIn 700, sxA 120]) by
    have q9 := tp_loop (R := ab_rm 5 2 732) (cells := 2) (slots := 732) (A7 := aIn 700) he C hZ ⟨by decide, by decide, by decide, by decide⟩ key2 120 0 none rfl
    rw [sxA_0] at q9
    exact q9
  intro x3
  iterate 2 refine ab_step C rfl ?_
  refine tp_loop2 (R := ab_rm 5 2 732) (cells := 2) (slots := 732) (k1 := (sxT 120).1) he C ⟨by decide, by decide, by decide, by decide⟩ (fun L' => ?_) 32 0 x3 rfl
  exact ab_retV C hr hl rfl rfl ⟨rfl, rfl⟩
theorem sx_lg : ∀ k, k < 32 → padF 6 ((sxT 120).2.getD k 0) = nI (lgN k) := by decide +kernel

