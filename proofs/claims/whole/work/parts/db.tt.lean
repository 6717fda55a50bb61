/-! ===== the reference's constructor, up to its calls (printed by wip/tools/mkdb.py) ===== -/
section MKB
variable {G : ab_G} {n0 : Nat} {p : Program} {e : Env} {R : Room} {s : State} {m : MethodId} {args : Array Value} {below : List Frame} {meth : Method} {c : Code} {Q : State → Prop} {cells slots pc : Nat} {L : List (Option Value)} {st : List Value} {h t : ab_H}
theorem nw_putE {M : ab_MD} {a i ci k NF ty : Nat} {fin : Bool} {x : ab_E} {v : Value} {fs : List Value} (hlf : fs.length = NF) (C : ab_C G M p s m args meth c) (row : ab_lk M.2.2.2.2.2.2 pc = some (.putfield i, 3)) (he : h[a]? = some x) (hr : ab_lk M.1.2.2.1 i = some (ci, k, ty, fin)) (hk : Nat.blt k NF = true) (hfin : (!fin || (M.2.2.2.2.2.1 && Nat.beq ci M.1.2.1)) = true) (hg : ab_fg ty v)
    (kk : ab_R G M true n0 p e R s m args below meth c Q cells slots (pc + 3) L st (h.set a (.inr (ci, fs.set k v)) ++ t)) : ab_R G M true n0 p e R s m args below meth c Q cells slots pc L (v :: .ref a :: st) (h.set a (.inr (ci, fs)) ++ t) := by
  refine nw_put (g := ab_fg ty v) C row he ?_ hg kk
  rw [hr]
  show cond (Nat.beq ci ci && Nat.blt k fs.length && (!fin || (M.2.2.2.2.2.1 && Nat.beq ci M.1.2.1))) _ none = _
  rw [hlf, hk, hfin, show Nat.beq ci ci = true from Nat.beq_refl ci]
  rfl
theorem nw_eqF {M : ab_MD} {a ci : Nat} {fs fs1 : List Value} (q : fs1 = fs) (k : ab_R G M true n0 p e R s m args below meth c Q cells slots pc L st (h.set a (.inr (ci, fs1)) ++ t)) : ab_R G M true n0 p e R s m args below meth c Q cells slots pc L st (h.set a (.inr (ci, fs)) ++ t) := q ▸ k
theorem nw_iE {M : ab_MD} {a N N0 : Nat} {y : ab_E} {x : Int32} (hN0 : t.length = N0) (C : ab_C G M p s m args meth c) (row : ab_lk M.2.2.2.2.2.2 pc = some (.newarray .int, 2)) (hn : ¬ x < 0) (hN : x.toNatClampNeg = N) (hb : N * 4 ≤ 536870912) (hR : cells + 1 ≤ R.cells ∧ slots + N ≤ R.slots)
    (k : ab_R G M true n0 p e R s m args below meth c Q (cells + 1) (slots + N) (pc + 2) L (.ref (h.length + N0) :: st) (h.set a y ++ (t ++ [aIn N]))) : ab_R G M true n0 p e R s m args below meth c Q cells slots pc L (.int x :: st) (h.set a y ++ t) := by
  subst hN0
  exact nw_i C row hn hN hb hR k
theorem nw_lE2 {M : ab_MD} {a N N0 : Nat} {y : ab_E} {x : Int32} (hN0 : t.length = N0) (C : ab_C G M p s m args meth c) (row : ab_lk M.2.2.2.2.2.2 pc = some (.newarray .long, 2)) (hn : ¬ x < 0) (hN : x.toNatClampNeg = N) (hb : N * 8 ≤ 536870912) (hR : cells + 1 ≤ R.cells ∧ slots + N ≤ R.slots)
    (k : ab_R G M true n0 p e R s m args below meth c Q (cells + 1) (slots + N) (pc + 2) L (.ref (h.length + N0) :: st) (h.set a y ++ (t ++ [aLg N]))) : ab_R G M true n0 p e R s m args below meth c Q cells slots pc L (.int x :: st) (h.set a y ++ t) := by
  subst hN0
  exact nw_l C row hn hN hb hR k
theorem nw_zE {M : ab_MD} {a N N0 : Nat} {y : ab_E} {x : Int32} (hN0 : t.length = N0) (C : ab_C G M p s m args meth c) (row : ab_lk M.2.2.2.2.2.2 pc = some (.newarray .boolean, 2)) (hn : ¬ x < 0) (hN : x.toNatClampNeg = N) (hb : N * 1 ≤ 536870912) (hR : cells + 1 ≤ R.cells ∧ slots + N ≤ R.slots)
    (k : ab_R G M true n0 p e R s m args below meth c Q (cells + 1) (slots + N) (pc + 2) L (.ref (h.length + N0) :: st) (h.set a y ++ (t ++ [aBo N]))) : ab_R G M true n0 p e R s m args below meth c Q cells slots pc L (.int x :: st) (h.set a y ++ t) := by
  subst hN0
  exact nw_z C row hn hN hb hR k
theorem w_st {a m9 : Nat} {y A7 : ab_E} {i x : Int32} {f : Nat → Int32} (C : ab_C G M_X12_init p s m args meth c) (row : ab_lk M_X12_init.2.2.2.2.2.2 pc = some (.iastore, 1)) (hm : i.toNatClampNeg = m9) (hin : vp_in i 101) (hx : x = nI (wdN m9)) (hf : ∀ j, j < m9 → f j = nI (wdN j))
    (k : ∀ f' : Nat → Int32, (∀ j, j < m9 + 1 → f' j = nI (wdN j)) → ab_R G M_X12_init true n0 p e R s m args below meth c Q cells slots (pc + 1) L st (h.set a y ++ [A7, .inl (0, 101, .inl f')])) : ab_R G M_X12_init true n0 p e R s m args below meth c Q cells slots pc L (.int x :: .int i :: .ref (h.length + 1) :: st) (h.set a y ++ [A7, .inl (0, 101, .inl f)]) := by
  refine ab_stepG C (st_ias row (nw_getT (i := 1))) hin ?_
  rw [nw_setT]
  refine k (upd f i.toNatClampNeg x) (fun j hj => ?_)
  unfold upd
  rw [hm]
  by_cases q : j = m9
  · rw [if_pos q, q, hx]
  · rw [if_neg q]
    exact hf j (by omega)
set_option maxRecDepth 100000 in
theorem w_ch0 {a : Nat} {y A7 : ab_E} {f : Nat → Int32} (C : ab_C G M_X12_init p s m args meth c) (hf : ∀ j, j < 0 → f j = nI (wdN j))
    (k : ∀ f' : Nat → Int32, (∀ j, j < 17 → f' j = nI (wdN j)) → ab_R G M_X12_init true n0 p e R s m args below meth c Q cells slots 114 L (.ref (h.length + 1) :: st) (h.set a y ++ [A7, .inl (0, 101, .inl f')])) : ab_R G M_X12_init true n0 p e R s m args below meth c Q cells slots 18 L (.ref (h.length + 1) :: st) (h.set a y ++ [A7, .inl (0, 101, .inl f)]) := by
  iterate 3 refine ab_step C rfl ?_
  refine w_st (m9 := 0) C rfl (by decide) (show vp_in (nI 0) 101 from vp_in_nI (by decide) (by decide)) (by decide) hf ?_
  clear hf; intro f hf
  iterate 3 refine ab_step C rfl ?_
  refine w_st (m9 := 1) C rfl (by decide) (show vp_in (nI 1) 101 from vp_in_nI (by decide) (by decide)) (by decide) hf ?_
  clear hf; intro f hf
  iterate 3 refine ab_step C rfl ?_
  refine w_st (m9 := 2) C rfl (by decide) (show vp_in (nI 2) 101 from vp_in_nI (by decide) (by decide)) (by decide) hf ?_
  clear hf; intro f hf
  iterate 3 refine ab_step C rfl ?_
  refine w_st (m9 := 3) C rfl (by decide) (show vp_in (nI 3) 101 from vp_in_nI (by decide) (by decide)) (by decide) hf ?_
  clear hf; intro f hf
  iterate 3 refine ab_step C rfl ?_
  refine w_st (m9 := 4) C rfl (by decide) (show vp_in (nI 4) 101 from vp_in_nI (by decide) (by decide)) (by decide) hf ?_
  clear hf; intro f hf
  iterate 3 refine ab_step C rfl ?_
  refine w_st (m9 := 5) C rfl (by decide) (show vp_in (nI 5) 101 from vp_in_nI (by decide) (by decide)) (by decide) hf ?_
  clear hf; intro f hf
  iterate 3 refine ab_step C rfl ?_
  refine w_st (m9 := 6) C rfl (by decide) (show vp_in (nI 6) 101 from vp_in_nI (by decide) (by decide)) (by decide) hf ?_
  clear hf; intro f hf
  iterate 3 refine ab_step C rfl ?_
  refine w_st (m9 := 7) C rfl (by decide) (show vp_in (nI 7) 101 from vp_in_nI (by decide) (by decide)) (by decide) hf ?_
  clear hf; intro f hf
  iterate 3 refine ab_step C rfl ?_
  refine w_st (m9 := 8) C rfl (by decide) (show vp_in (nI 8) 101 from vp_in_nI (by decide) (by decide)) (by decide) hf ?_
  clear hf; intro f hf
  iterate 3 refine ab_step C rfl ?_
  refine w_st (m9 := 9) C rfl (by decide) (show vp_in (nI 9) 101 from vp_in_nI (by decide) (by decide)) (by decide) hf ?_
  clear hf; intro f hf
  iterate 3 refine ab_step C rfl ?_
  refine w_st (m9 := 10) C rfl (by decide) (show vp_in (nI 10) 101 from vp_in_nI (by decide) (by decide)) (by decide) hf ?_
  clear hf; intro f hf
  iterate 3 refine ab_step C rfl ?_
  refine w_st (m9 := 11) C rfl (by decide) (show vp_in (nI 11) 101 from vp_in_nI (by decide) (by decide)) (by decide) hf ?_
  clear hf; intro f hf
  iterate 3 refine ab_step C rfl ?_
  refine w_st (m9 := 12) C rfl (by decide) (show vp_in (nI 12) 101 from vp_in_nI (by decide) (by decide)) (by decide) hf ?_
  clear hf; intro f hf
  iterate 3 refine ab_step C rfl ?_
  refine w_st (m9 := 13) C rfl (by decide) (show vp_in (nI 13) 101 from vp_in_nI (by decide) (by decide)) (by decide) hf ?_
  clear hf; intro f hf
  iterate 3 refine ab_step C rfl ?_
  refine w_st (m9 := 14) C rfl (by decide) (show vp_in (nI 14) 101 from vp_in_nI (by decide) (by decide)) (by decide) hf ?_
  clear hf; intro f hf
  iterate 3 refine ab_step C rfl ?_
  refine w_st (m9 := 15) C rfl (by decide) (show vp_in (nI 15) 101 from vp_in_nI (by decide) (by decide)) (by decide) hf ?_
  clear hf; intro f hf
  iterate 3 refine ab_step C rfl ?_
  refine w_st (m9 := 16) C rfl (by decide) (show vp_in (nI 16) 101 from vp_in_nI (by decide) (by decide)) (by decide) hf ?_
  clear hf; intro f hf
  exact k f hf
set_option maxRecDepth 100000 in
theorem w_ch1 {a : Nat} {y A7 : ab_E} {f : Nat → Int32} (C : ab_C G M_X12_init p s m args meth c) (hf : ∀ j, j < 17 → f j = nI (wdN j))
    (k : ∀ f' : Nat → Int32, (∀ j, j < 34 → f' j = nI (wdN j)) → ab_R G M_X12_init true n0 p e R s m args below meth c Q cells slots 216 L (.ref (h.length + 1) :: st) (h.set a y ++ [A7, .inl (0, 101, .inl f')])) : ab_R G M_X12_init true n0 p e R s m args below meth c Q cells slots 114 L (.ref (h.length + 1) :: st) (h.set a y ++ [A7, .inl (0, 101, .inl f)]) := by
  iterate 3 refine ab_step C rfl ?_
  refine w_st (m9 := 17) C rfl (by decide) (show vp_in (nI 17) 101 from vp_in_nI (by decide) (by decide)) (by decide) hf ?_
  clear hf; intro f hf
  iterate 3 refine ab_step C rfl ?_
  refine w_st (m9 := 18) C rfl (by decide) (show vp_in (nI 18) 101 from vp_in_nI (by decide) (by decide)) (by decide) hf ?_
  clear hf; intro f hf
  iterate 3 refine ab_step C rfl ?_
  refine w_st (m9 := 19) C rfl (by decide) (show vp_in (nI 19) 101 from vp_in_nI (by decide) (by decide)) (by decide) hf ?_
  clear hf; intro f hf
  iterate 3 refine ab_step C rfl ?_
  refine w_st (m9 := 20) C rfl (by decide) (show vp_in (nI 20) 101 from vp_in_nI (by decide) (by decide)) (by decide) hf ?_
  clear hf; intro f hf
  iterate 3 refine ab_step C rfl ?_
  refine w_st (m9 := 21) C rfl (by decide) (show vp_in (nI 21) 101 from vp_in_nI (by decide) (by decide)) (by decide) hf ?_
  clear hf; intro f hf
  iterate 3 refine ab_step C rfl ?_
  refine w_st (m9 := 22) C rfl (by decide) (show vp_in (nI 22) 101 from vp_in_nI (by decide) (by decide)) (by decide) hf ?_
  clear hf; intro f hf
  iterate 3 refine ab_step C rfl ?_
  refine w_st (m9 := 23) C rfl (by decide) (show vp_in (nI 23) 101 from vp_in_nI (by decide) (by decide)) (by decide) hf ?_
  clear hf; intro f hf
  iterate 3 refine ab_step C rfl ?_
  refine w_st (m9 := 24) C rfl (by decide) (show vp_in (nI 24) 101 from vp_in_nI (by decide) (by decide)) (by decide) hf ?_
  clear hf; intro f hf
  iterate 3 refine ab_step C rfl ?_
  refine w_st (m9 := 25) C rfl (by decide) (show vp_in (nI 25) 101 from vp_in_nI (by decide) (by decide)) (by decide) hf ?_
  clear hf; intro f hf
  iterate 3 refine ab_step C rfl ?_
  refine w_st (m9 := 26) C rfl (by decide) (show vp_in (nI 26) 101 from vp_in_nI (by decide) (by decide)) (by decide) hf ?_
  clear hf; intro f hf
  iterate 3 refine ab_step C rfl ?_
  refine w_st (m9 := 27) C rfl (by decide) (show vp_in (nI 27) 101 from vp_in_nI (by decide) (by decide)) (by decide) hf ?_
  clear hf; intro f hf
  iterate 3 refine ab_step C rfl ?_
  refine w_st (m9 := 28) C rfl (by decide) (show vp_in (nI 28) 101 from vp_in_nI (by decide) (by decide)) (by decide) hf ?_
  clear hf; intro f hf
  iterate 3 refine ab_step C rfl ?_
  refine w_st (m9 := 29) C rfl (by decide) (show vp_in (nI 29) 101 from vp_in_nI (by decide) (by decide)) (by decide) hf ?_
  clear hf; intro f hf
  iterate 3 refine ab_step C rfl ?_
  refine w_st (m9 := 30) C rfl (by decide) (show vp_in (nI 30) 101 from vp_in_nI (by decide) (by decide)) (by decide) hf ?_
  clear hf; intro f hf
  iterate 3 refine ab_step C rfl ?_
  refine w_st (m9 := 31) C rfl (by decide) (show vp_in (nI 31) 101 from vp_in_nI (by decide) (by decide)) (by decide) hf ?_
  clear hf; intro f hf
  iterate 3 refine ab_step C rfl ?_
  refine w_st (m9 := 32) C rfl (by decide) (show vp_in (nI 32) 101 from vp_in_nI (by decide) (by decide)) (by decide) hf ?_
  clear hf; intro f hf
  iterate 3 refine ab_step C rfl ?_
  refine w_st (m9 := 33) C rfl (by decide) (show vp_in (nI 33) 101 from vp_in_nI (by decide) (by decide)) (by decide) hf ?_
  clear hf; intro f hf
  exact k f hf
set_option maxRecDepth 100000 in
theorem w_ch2 {a : Nat} {y A7 : ab_E} {f : Nat → Int32} (C : ab_C G M_X12_init p s m args meth c) (hf : ∀ j, j < 34 → f j = nI (wdN j))
    (k : ∀ f' : Nat → Int32, (∀ j, j < 51 → f' j = nI (wdN j)) → ab_R G M_X12_init true n0 p e R s m args below meth c Q cells slots 318 L (.ref (h.length + 1) :: st) (h.set a y ++ [A7, .inl (0, 101, .inl f')])) : ab_R G M_X12_init true n0 p e R s m args below meth c Q cells slots 216 L (.ref (h.length + 1) :: st) (h.set a y ++ [A7, .inl (0, 101, .inl f)]) := by
  iterate 3 refine ab_step C rfl ?_
  refine w_st (m9 := 34) C rfl (by decide) (show vp_in (nI 34) 101 from vp_in_nI (by decide) (by decide)) (by decide) hf ?_
  clear hf; intro f hf
  iterate 3 refine ab_step C rfl ?_
  refine w_st (m9 := 35) C rfl (by decide) (show vp_in (nI 35) 101 from vp_in_nI (by decide) (by decide)) (by decide) hf ?_
  clear hf; intro f hf
  iterate 3 refine ab_step C rfl ?_
  refine w_st (m9 := 36) C rfl (by decide) (show vp_in (nI 36) 101 from vp_in_nI (by decide) (by decide)) (by decide) hf ?_
  clear hf; intro f hf
  iterate 3 refine ab_step C rfl ?_
  refine w_st (m9 := 37) C rfl (by decide) (show vp_in (nI 37) 101 from vp_in_nI (by decide) (by decide)) (by decide) hf ?_
  clear hf; intro f hf
  iterate 3 refine ab_step C rfl ?_
  refine w_st (m9 := 38) C rfl (by decide) (show vp_in (nI 38) 101 from vp_in_nI (by decide) (by decide)) (by decide) hf ?_
  clear hf; intro f hf
  iterate 3 refine ab_step C rfl ?_
  refine w_st (m9 := 39) C rfl (by decide) (show vp_in (nI 39) 101 from vp_in_nI (by decide) (by decide)) (by decide) hf ?_
  clear hf; intro f hf
  iterate 3 refine ab_step C rfl ?_
  refine w_st (m9 := 40) C rfl (by decide) (show vp_in (nI 40) 101 from vp_in_nI (by decide) (by decide)) (by decide) hf ?_
  clear hf; intro f hf
  iterate 3 refine ab_step C rfl ?_
  refine w_st (m9 := 41) C rfl (by decide) (show vp_in (nI 41) 101 from vp_in_nI (by decide) (by decide)) (by decide) hf ?_
  clear hf; intro f hf
  iterate 3 refine ab_step C rfl ?_
  refine w_st (m9 := 42) C rfl (by decide) (show vp_in (nI 42) 101 from vp_in_nI (by decide) (by decide)) (by decide) hf ?_
  clear hf; intro f hf
  iterate 3 refine ab_step C rfl ?_
  refine w_st (m9 := 43) C rfl (by decide) (show vp_in (nI 43) 101 from vp_in_nI (by decide) (by decide)) (by decide) hf ?_
  clear hf; intro f hf
  iterate 3 refine ab_step C rfl ?_
  refine w_st (m9 := 44) C rfl (by decide) (show vp_in (nI 44) 101 from vp_in_nI (by decide) (by decide)) (by decide) hf ?_
  clear hf; intro f hf
  iterate 3 refine ab_step C rfl ?_
  refine w_st (m9 := 45) C rfl (by decide) (show vp_in (nI 45) 101 from vp_in_nI (by decide) (by decide)) (by decide) hf ?_
  clear hf; intro f hf
  iterate 3 refine ab_step C rfl ?_
  refine w_st (m9 := 46) C rfl (by decide) (show vp_in (nI 46) 101 from vp_in_nI (by decide) (by decide)) (by decide) hf ?_
  clear hf; intro f hf
  iterate 3 refine ab_step C rfl ?_
  refine w_st (m9 := 47) C rfl (by decide) (show vp_in (nI 47) 101 from vp_in_nI (by decide) (by decide)) (by decide) hf ?_
  clear hf; intro f hf
  iterate 3 refine ab_step C rfl ?_
  refine w_st (m9 := 48) C rfl (by decide) (show vp_in (nI 48) 101 from vp_in_nI (by decide) (by decide)) (by decide) hf ?_
  clear hf; intro f hf
  iterate 3 refine ab_step C rfl ?_
  refine w_st (m9 := 49) C rfl (by decide) (show vp_in (nI 49) 101 from vp_in_nI (by decide) (by decide)) (by decide) hf ?_
  clear hf; intro f hf
  iterate 3 refine ab_step C rfl ?_
  refine w_st (m9 := 50) C rfl (by decide) (show vp_in (nI 50) 101 from vp_in_nI (by decide) (by decide)) (by decide) hf ?_
  clear hf; intro f hf
  exact k f hf
set_option maxRecDepth 100000 in
theorem w_ch3 {a : Nat} {y A7 : ab_E} {f : Nat → Int32} (C : ab_C G M_X12_init p s m args meth c) (hf : ∀ j, j < 51 → f j = nI (wdN j))
    (k : ∀ f' : Nat → Int32, (∀ j, j < 68 → f' j = nI (wdN j)) → ab_R G M_X12_init true n0 p e R s m args below meth c Q cells slots 420 L (.ref (h.length + 1) :: st) (h.set a y ++ [A7, .inl (0, 101, .inl f')])) : ab_R G M_X12_init true n0 p e R s m args below meth c Q cells slots 318 L (.ref (h.length + 1) :: st) (h.set a y ++ [A7, .inl (0, 101, .inl f)]) := by
  iterate 3 refine ab_step C rfl ?_
  refine w_st (m9 := 51) C rfl (by decide) (show vp_in (nI 51) 101 from vp_in_nI (by decide) (by decide)) (by decide) hf ?_
  clear hf; intro f hf
  iterate 3 refine ab_step C rfl ?_
  refine w_st (m9 := 52) C rfl (by decide) (show vp_in (nI 52) 101 from vp_in_nI (by decide) (by decide)) (by decide) hf ?_
  clear hf; intro f hf
  iterate 3 refine ab_step C rfl ?_
  refine w_st (m9 := 53) C rfl (by decide) (show vp_in (nI 53) 101 from vp_in_nI (by decide) (by decide)) (by decide) hf ?_
  clear hf; intro f hf
  iterate 3 refine ab_step C rfl ?_
  refine w_st (m9 := 54) C rfl (by decide) (show vp_in (nI 54) 101 from vp_in_nI (by decide) (by decide)) (by decide) hf ?_
  clear hf; intro f hf
  iterate 3 refine ab_step C rfl ?_
  refine w_st (m9 := 55) C rfl (by decide) (show vp_in (nI 55) 101 from vp_in_nI (by decide) (by decide)) (by decide) hf ?_
  clear hf; intro f hf
  iterate 3 refine ab_step C rfl ?_
  refine w_st (m9 := 56) C rfl (by decide) (show vp_in (nI 56) 101 from vp_in_nI (by decide) (by decide)) (by decide) hf ?_
  clear hf; intro f hf
  iterate 3 refine ab_step C rfl ?_
  refine w_st (m9 := 57) C rfl (by decide) (show vp_in (nI 57) 101 from vp_in_nI (by decide) (by decide)) (by decide) hf ?_
  clear hf; intro f hf
  iterate 3 refine ab_step C rfl ?_
  refine w_st (m9 := 58) C rfl (by decide) (show vp_in (nI 58) 101 from vp_in_nI (by decide) (by decide)) (by decide) hf ?_
  clear hf; intro f hf
  iterate 3 refine ab_step C rfl ?_
  refine w_st (m9 := 59) C rfl (by decide) (show vp_in (nI 59) 101 from vp_in_nI (by decide) (by decide)) (by decide) hf ?_
  clear hf; intro f hf
  iterate 3 refine ab_step C rfl ?_
  refine w_st (m9 := 60) C rfl (by decide) (show vp_in (nI 60) 101 from vp_in_nI (by decide) (by decide)) (by decide) hf ?_
  clear hf; intro f hf
  iterate 3 refine ab_step C rfl ?_
  refine w_st (m9 := 61) C rfl (by decide) (show vp_in (nI 61) 101 from vp_in_nI (by decide) (by decide)) (by decide) hf ?_
  clear hf; intro f hf
  iterate 3 refine ab_step C rfl ?_
  refine w_st (m9 := 62) C rfl (by decide) (show vp_in (nI 62) 101 from vp_in_nI (by decide) (by decide)) (by decide) hf ?_
  clear hf; intro f hf
  iterate 3 refine ab_step C rfl ?_
  refine w_st (m9 := 63) C rfl (by decide) (show vp_in (nI 63) 101 from vp_in_nI (by decide) (by decide)) (by decide) hf ?_
  clear hf; intro f hf
  iterate 3 refine ab_step C rfl ?_
  refine w_st (m9 := 64) C rfl (by decide) (show vp_in (nI 64) 101 from vp_in_nI (by decide) (by decide)) (by decide) hf ?_
  clear hf; intro f hf
  iterate 3 refine ab_step C rfl ?_
  refine w_st (m9 := 65) C rfl (by decide) (show vp_in (nI 65) 101 from vp_in_nI (by decide) (by decide)) (by decide) hf ?_
  clear hf; intro f hf
  iterate 3 refine ab_step C rfl ?_
  refine w_st (m9 := 66) C rfl (by decide) (show vp_in (nI 66) 101 from vp_in_nI (by decide) (by decide)) (by decide) hf ?_
  clear hf; intro f hf
  iterate 3 refine ab_step C rfl ?_
  refine w_st (m9 := 67) C rfl (by decide) (show vp_in (nI 67) 101 from vp_in_nI (by decide) (by decide)) (by decide) hf ?_
  clear hf; intro f hf
  exact k f hf
set_option maxRecDepth 100000 in
theorem w_ch4 {a : Nat} {y A7 : ab_E} {f : Nat → Int32} (C : ab_C G M_X12_init p s m args meth c) (hf : ∀ j, j < 68 → f j = nI (wdN j))
    (k : ∀ f' : Nat → Int32, (∀ j, j < 85 → f' j = nI (wdN j)) → ab_R G M_X12_init true n0 p e R s m args below meth c Q cells slots 522 L (.ref (h.length + 1) :: st) (h.set a y ++ [A7, .inl (0, 101, .inl f')])) : ab_R G M_X12_init true n0 p e R s m args below meth c Q cells slots 420 L (.ref (h.length + 1) :: st) (h.set a y ++ [A7, .inl (0, 101, .inl f)]) := by
  iterate 3 refine ab_step C rfl ?_
  refine w_st (m9 := 68) C rfl (by decide) (show vp_in (nI 68) 101 from vp_in_nI (by decide) (by decide)) (by decide) hf ?_
  clear hf; intro f hf
  iterate 3 refine ab_step C rfl ?_
  refine w_st (m9 := 69) C rfl (by decide) (show vp_in (nI 69) 101 from vp_in_nI (by decide) (by decide)) (by decide) hf ?_
  clear hf; intro f hf
  iterate 3 refine ab_step C rfl ?_
  refine w_st (m9 := 70) C rfl (by decide) (show vp_in (nI 70) 101 from vp_in_nI (by decide) (by decide)) (by decide) hf ?_
  clear hf; intro f hf
  iterate 3 refine ab_step C rfl ?_
  refine w_st (m9 := 71) C rfl (by decide) (show vp_in (nI 71) 101 from vp_in_nI (by decide) (by decide)) (by decide) hf ?_
  clear hf; intro f hf
  iterate 3 refine ab_step C rfl ?_
  refine w_st (m9 := 72) C rfl (by decide) (show vp_in (nI 72) 101 from vp_in_nI (by decide) (by decide)) (by decide) hf ?_
  clear hf; intro f hf
  iterate 3 refine ab_step C rfl ?_
  refine w_st (m9 := 73) C rfl (by decide) (show vp_in (nI 73) 101 from vp_in_nI (by decide) (by decide)) (by decide) hf ?_
  clear hf; intro f hf
  iterate 3 refine ab_step C rfl ?_
  refine w_st (m9 := 74) C rfl (by decide) (show vp_in (nI 74) 101 from vp_in_nI (by decide) (by decide)) (by decide) hf ?_
  clear hf; intro f hf
  iterate 3 refine ab_step C rfl ?_
  refine w_st (m9 := 75) C rfl (by decide) (show vp_in (nI 75) 101 from vp_in_nI (by decide) (by decide)) (by decide) hf ?_
  clear hf; intro f hf
  iterate 3 refine ab_step C rfl ?_
  refine w_st (m9 := 76) C rfl (by decide) (show vp_in (nI 76) 101 from vp_in_nI (by decide) (by decide)) (by decide) hf ?_
  clear hf; intro f hf
  iterate 3 refine ab_step C rfl ?_
  refine w_st (m9 := 77) C rfl (by decide) (show vp_in (nI 77) 101 from vp_in_nI (by decide) (by decide)) (by decide) hf ?_
  clear hf; intro f hf
  iterate 3 refine ab_step C rfl ?_
  refine w_st (m9 := 78) C rfl (by decide) (show vp_in (nI 78) 101 from vp_in_nI (by decide) (by decide)) (by decide) hf ?_
  clear hf; intro f hf
  iterate 3 refine ab_step C rfl ?_
  refine w_st (m9 := 79) C rfl (by decide) (show vp_in (nI 79) 101 from vp_in_nI (by decide) (by decide)) (by decide) hf ?_
  clear hf; intro f hf
  iterate 3 refine ab_step C rfl ?_
  refine w_st (m9 := 80) C rfl (by decide) (show vp_in (nI 80) 101 from vp_in_nI (by decide) (by decide)) (by decide) hf ?_
  clear hf; intro f hf
  iterate 3 refine ab_step C rfl ?_
  refine w_st (m9 := 81) C rfl (by decide) (show vp_in (nI 81) 101 from vp_in_nI (by decide) (by decide)) (by decide) hf ?_
  clear hf; intro f hf
  iterate 3 refine ab_step C rfl ?_
  refine w_st (m9 := 82) C rfl (by decide) (show vp_in (nI 82) 101 from vp_in_nI (by decide) (by decide)) (by decide) hf ?_
  clear hf; intro f hf
  iterate 3 refine ab_step C rfl ?_
  refine w_st (m9 := 83) C rfl (by decide) (show vp_in (nI 83) 101 from vp_in_nI (by decide) (by decide)) (by decide) hf ?_
  clear hf; intro f hf
  iterate 3 refine ab_step C rfl ?_
  refine w_st (m9 := 84) C rfl (by decide) (show vp_in (nI 84) 101 from vp_in_nI (by decide) (by decide)) (by decide) hf ?_
  clear hf; intro f hf
  exact k f hf
set_option maxRecDepth 100000 in
theorem w_ch5 {a : Nat} {y A7 : ab_E} {f : Nat → Int32} (C : ab_C G M_X12_init p s m args meth c) (hf : ∀ j, j < 85 → f j = nI (wdN j))
    (k : ∀ f' : Nat → Int32, (∀ j, j < 101 → f' j = nI (wdN j)) → ab_R G M_X12_init true n0 p e R s m args below meth c Q cells slots 618 L (.ref (h.length + 1) :: st) (h.set a y ++ [A7, .inl (0, 101, .inl f')])) : ab_R G M_X12_init true n0 p e R s m args below meth c Q cells slots 522 L (.ref (h.length + 1) :: st) (h.set a y ++ [A7, .inl (0, 101, .inl f)]) := by
  iterate 3 refine ab_step C rfl ?_
  refine w_st (m9 := 85) C rfl (by decide) (show vp_in (nI 85) 101 from vp_in_nI (by decide) (by decide)) (by decide) hf ?_
  clear hf; intro f hf
  iterate 3 refine ab_step C rfl ?_
  refine w_st (m9 := 86) C rfl (by decide) (show vp_in (nI 86) 101 from vp_in_nI (by decide) (by decide)) (by decide) hf ?_
  clear hf; intro f hf
  iterate 3 refine ab_step C rfl ?_
  refine w_st (m9 := 87) C rfl (by decide) (show vp_in (nI 87) 101 from vp_in_nI (by decide) (by decide)) (by decide) hf ?_
  clear hf; intro f hf
  iterate 3 refine ab_step C rfl ?_
  refine w_st (m9 := 88) C rfl (by decide) (show vp_in (nI 88) 101 from vp_in_nI (by decide) (by decide)) (by decide) hf ?_
  clear hf; intro f hf
  iterate 3 refine ab_step C rfl ?_
  refine w_st (m9 := 89) C rfl (by decide) (show vp_in (nI 89) 101 from vp_in_nI (by decide) (by decide)) (by decide) hf ?_
  clear hf; intro f hf
  iterate 3 refine ab_step C rfl ?_
  refine w_st (m9 := 90) C rfl (by decide) (show vp_in (nI 90) 101 from vp_in_nI (by decide) (by decide)) (by decide) hf ?_
  clear hf; intro f hf
  iterate 3 refine ab_step C rfl ?_
  refine w_st (m9 := 91) C rfl (by decide) (show vp_in (nI 91) 101 from vp_in_nI (by decide) (by decide)) (by decide) hf ?_
  clear hf; intro f hf
  iterate 3 refine ab_step C rfl ?_
  refine w_st (m9 := 92) C rfl (by decide) (show vp_in (nI 92) 101 from vp_in_nI (by decide) (by decide)) (by decide) hf ?_
  clear hf; intro f hf
  iterate 3 refine ab_step C rfl ?_
  refine w_st (m9 := 93) C rfl (by decide) (show vp_in (nI 93) 101 from vp_in_nI (by decide) (by decide)) (by decide) hf ?_
  clear hf; intro f hf
  iterate 3 refine ab_step C rfl ?_
  refine w_st (m9 := 94) C rfl (by decide) (show vp_in (nI 94) 101 from vp_in_nI (by decide) (by decide)) (by decide) hf ?_
  clear hf; intro f hf
  iterate 3 refine ab_step C rfl ?_
  refine w_st (m9 := 95) C rfl (by decide) (show vp_in (nI 95) 101 from vp_in_nI (by decide) (by decide)) (by decide) hf ?_
  clear hf; intro f hf
  iterate 3 refine ab_step C rfl ?_
  refine w_st (m9 := 96) C rfl (by decide) (show vp_in (nI 96) 101 from vp_in_nI (by decide) (by decide)) (by decide) hf ?_
  clear hf; intro f hf
  iterate 3 refine ab_step C rfl ?_
  refine w_st (m9 := 97) C rfl (by decide) (show vp_in (nI 97) 101 from vp_in_nI (by decide) (by decide)) (by decide) hf ?_
  clear hf; intro f hf
  iterate 3 refine ab_step C rfl ?_
  refine w_st (m9 := 98) C rfl (by decide) (show vp_in (nI 98) 101 from vp_in_nI (by decide) (by decide)) (by decide) hf ?_
  clear hf; intro f hf
  iterate 3 refine ab_step C rfl ?_
  refine w_st (m9 := 99) C rfl (by decide) (show vp_in (nI 99) 101 from vp_in_nI (by decide) (by decide)) (by decide) hf ?_
  clear hf; intro f hf
  iterate 3 refine ab_step C rfl ?_
  refine w_st (m9 := 100) C rfl (by decide) (show vp_in (nI 100) 101 from vp_in_nI (by decide) (by decide)) (by decide) hf ?_
  clear hf; intro f hf
  exact k f hf
end MKB
-- cells 40 slots 35027
def kMf (nn : Nat) : List Value := ((((((((((((((((((((((((((((((((((((((((((ab_df 12 86).set 0 (.ref (nn + 0))).set 3 (.ref (nn + 1))).set 5 (.int (-1))).set 22 (.ref (nn + 2))).set 23 (.ref (nn + 3))).set 24 (.ref (nn + 4))).set 25 (.ref (nn + 5))).set 26 (.ref (nn + 6))).set 27 (.ref (nn + 7))).set 28 (.ref (nn + 8))).set 29 (.ref (nn + 9))).set 30 (.ref (nn + 10))).set 31 (.ref (nn + 11))).set 32 (.ref (nn + 12))).set 33 (.ref (nn + 13))).set 34 (.ref (nn + 14))).set 35 (.ref (nn + 15))).set 36 (.ref (nn + 16))).set 37 (.ref (nn + 17))).set 38 (.ref (nn + 18))).set 39 (.ref (nn + 19))).set 40 (.ref (nn + 20))).set 41 (.ref (nn + 21))).set 42 (.ref (nn + 22))).set 49 (.ref (nn + 23))).set 50 (.ref (nn + 24))).set 52 (.ref (nn + 25))).set 53 (.ref (nn + 26))).set 54 (.ref (nn + 27))).set 55 (.ref (nn + 28))).set 56 (.ref (nn + 29))).set 65 (.ref (nn + 30))).set 66 (.ref (nn + 31))).set 67 (.ref (nn + 32))).set 72 (.ref (nn + 33))).set 73 (.ref (nn + 34))).set 74 (.ref (nn + 35))).set 76 (.int (-1))).set 77 (.ref (nn + 36))).set 78 (.ref (nn + 37))).set 80 (.ref (nn + 38))).set 82 (.ref (nn + 39))
def kMt (f : Nat → Int32) : ab_H := (((((((((((((((((((((((((((((((((((((([aIn 700, .inl (0, 101, .inl f)] ++ [aBo 2]) ++ [aIn 4]) ++ [aIn 18]) ++ [aIn 18]) ++ [aIn 18]) ++ [aIn 18]) ++ [aIn 18]) ++ [aIn 10]) ++ [aIn 16]) ++ [aIn 16]) ++ [aIn 16]) ++ [aIn 20]) ++ [aIn 20]) ++ [aBo 6]) ++ [aIn 6]) ++ [aIn 6]) ++ [aIn 128]) ++ [aIn 128]) ++ [aIn 128]) ++ [aIn 96]) ++ [aIn 96]) ++ [aLg 7]) ++ [aLg 64]) ++ [aIn 18]) ++ [aIn 10]) ++ [aIn 10]) ++ [aIn 2]) ++ [aIn 2]) ++ [aIn 7]) ++ [aIn 3584]) ++ [aIn 7]) ++ [aLg 3584]) ++ [aIn 512]) ++ [aIn 25088]) ++ [aIn 120]) ++ [aBo 24]) ++ [aIn 380]) ++ [aIn 19])
set_option maxRecDepth 100000 in
set_option maxHeartbeats 4000000 in
theorem k_X12a {G : ab_G} {n0 : Nat} {p : Program} {e : Env} {R : Room} {s : State} {m : MethodId} {args : Array Value} {below : List Frame} {meth : Method} {c : Code} {Q : State → Prop} {a dd : Nat} {h : ab_H} (hR : R = ab_rm dd 40 35027) (C : ab_C G M_X12_init p s m args meth c) (he : h[a]? = some (.inr (12, ab_df 12 86)))
    (k : ∀ f : Nat → Int32, (∀ j, j < 101 → f j = nI (wdN j)) → ab_R G M_X12_init true n0 p e R s m args below meth c Q 40 35027 939 (ab_pad 1 (ab_exp [.ref a])) [] (h.set a (.inr (12, kMf h.length)) ++ kMt f)) :
    ab_R G M_X12_init true n0 p e R s m args below meth c Q 0 0 4 (ab_pad 1 (ab_exp [.ref a])) [] (h.set a (.inr (12, ab_df 12 86)) ++ []) := by
  subst hR
  refine ab_step C rfl ?_
  refine ab_step C rfl ?_
  refine nw_iE (N0 := 0) rfl (N := 700) C rfl (by decide) (by decide) (by decide) ⟨Nat.le_of_ble_eq_true rfl, Nat.le_of_ble_eq_true rfl⟩ ?_
  refine nw_putE (NF := 86) (fs := (ab_df 12 86)) (v := .ref (h.length + 0)) rfl C rfl he rfl rfl rfl trivial ?_
  obtain ⟨fs1, hfs1⟩ : ∃ fs1 : List Value, fs1 = (ab_df 12 86).set 0 (.ref (h.length + 0)) := ⟨_, rfl⟩
  have hlf1 : fs1.length = 86 := by rw [hfs1, List.length_set]; rfl
  refine nw_eqF hfs1 ?_
  refine ab_step C rfl ?_
  refine ab_step C rfl ?_
  refine nw_iE (N0 := 1) rfl (N := 101) C rfl (by decide) (by decide) (by decide) ⟨Nat.le_of_ble_eq_true rfl, Nat.le_of_ble_eq_true rfl⟩ ?_
  refine w_ch0 (f := fun _ => 0) C (fun j hj => absurd hj (by omega)) (fun f hf => ?_)
  refine w_ch1 C hf ?_
  clear hf; clear f; intro f hf
  refine w_ch2 C hf ?_
  clear hf; clear f; intro f hf
  refine w_ch3 C hf ?_
  clear hf; clear f; intro f hf
  refine w_ch4 C hf ?_
  clear hf; clear f; intro f hf
  refine w_ch5 C hf ?_
  clear hf; clear f; intro f hf
  obtain ⟨t1, ht1⟩ : ∃ t1 : ab_H, t1 = [aIn 700, .inl (0, 101, .inl f)] := ⟨_, rfl⟩
  have hl1 : t1.length = 2 := by rw [ht1]; rfl
  refine nw_eqT ht1 ?_
  refine nw_putE (NF := 86) (fs := fs1) (v := .ref (h.length + 1)) hlf1 C rfl he rfl rfl rfl trivial ?_
  obtain ⟨fs2, hfs2⟩ : ∃ fs2 : List Value, fs2 = fs1.set 3 (.ref (h.length + 1)) := ⟨_, rfl⟩
  have hlf2 : fs2.length = 86 := by rw [hfs2, List.length_set]; exact hlf1
  refine nw_eqF hfs2 ?_
  refine ab_step C rfl ?_
  refine ab_step C rfl ?_
  refine nw_putE (NF := 86) (fs := fs2) (v := .int (-1)) hlf2 C rfl he rfl rfl rfl trivial ?_
  obtain ⟨fs3, hfs3⟩ : ∃ fs3 : List Value, fs3 = fs2.set 5 (.int (-1)) := ⟨_, rfl⟩
  have hlf3 : fs3.length = 86 := by rw [hfs3, List.length_set]; exact hlf2
  refine nw_eqF hfs3 ?_
  refine ab_step C rfl ?_
  refine ab_step C rfl ?_
  refine nw_zE (N0 := 2) hl1 (N := 2) C rfl (by decide) (by decide) (by decide) ⟨Nat.le_of_ble_eq_true rfl, Nat.le_of_ble_eq_true rfl⟩ ?_
  obtain ⟨t2, ht2⟩ : ∃ t2 : ab_H, t2 = t1 ++ [aBo 2] := ⟨_, rfl⟩
  have hl2 : t2.length = 3 := by rw [ht2, List.length_append, hl1]; rfl
  refine nw_eqT ht2 ?_
  refine nw_putE (NF := 86) (fs := fs3) (v := .ref (h.length + 2)) hlf3 C rfl he rfl rfl rfl trivial ?_
  obtain ⟨fs4, hfs4⟩ : ∃ fs4 : List Value, fs4 = fs3.set 22 (.ref (h.length + 2)) := ⟨_, rfl⟩
  have hlf4 : fs4.length = 86 := by rw [hfs4, List.length_set]; exact hlf3
  refine nw_eqF hfs4 ?_
  refine ab_step C rfl ?_
  refine ab_step C rfl ?_
  refine nw_iE (N0 := 3) hl2 (N := 4) C rfl (by decide) (by decide) (by decide) ⟨Nat.le_of_ble_eq_true rfl, Nat.le_of_ble_eq_true rfl⟩ ?_
  obtain ⟨t3, ht3⟩ : ∃ t3 : ab_H, t3 = t2 ++ [aIn 4] := ⟨_, rfl⟩
  have hl3 : t3.length = 4 := by rw [ht3, List.length_append, hl2]; rfl
  refine nw_eqT ht3 ?_
  refine nw_putE (NF := 86) (fs := fs4) (v := .ref (h.length + 3)) hlf4 C rfl he rfl rfl rfl trivial ?_
  obtain ⟨fs5, hfs5⟩ : ∃ fs5 : List Value, fs5 = fs4.set 23 (.ref (h.length + 3)) := ⟨_, rfl⟩
  have hlf5 : fs5.length = 86 := by rw [hfs5, List.length_set]; exact hlf4
  refine nw_eqF hfs5 ?_
  refine ab_step C rfl ?_
  refine ab_step C rfl ?_
  refine nw_iE (N0 := 4) hl3 (N := 18) C rfl (by decide) (by decide) (by decide) ⟨Nat.le_of_ble_eq_true rfl, Nat.le_of_ble_eq_true rfl⟩ ?_
  obtain ⟨t4, ht4⟩ : ∃ t4 : ab_H, t4 = t3 ++ [aIn 18] := ⟨_, rfl⟩
  have hl4 : t4.length = 5 := by rw [ht4, List.length_append, hl3]; rfl
  refine nw_eqT ht4 ?_
  refine nw_putE (NF := 86) (fs := fs5) (v := .ref (h.length + 4)) hlf5 C rfl he rfl rfl rfl trivial ?_
  obtain ⟨fs6, hfs6⟩ : ∃ fs6 : List Value, fs6 = fs5.set 24 (.ref (h.length + 4)) := ⟨_, rfl⟩
  have hlf6 : fs6.length = 86 := by rw [hfs6, List.length_set]; exact hlf5
  refine nw_eqF hfs6 ?_
  refine ab_step C rfl ?_
  refine ab_step C rfl ?_
  refine nw_iE (N0 := 5) hl4 (N := 18) C rfl (by decide) (by decide) (by decide) ⟨Nat.le_of_ble_eq_true rfl, Nat.le_of_ble_eq_true rfl⟩ ?_
  obtain ⟨t5, ht5⟩ : ∃ t5 : ab_H, t5 = t4 ++ [aIn 18] := ⟨_, rfl⟩
  have hl5 : t5.length = 6 := by rw [ht5, List.length_append, hl4]; rfl
  refine nw_eqT ht5 ?_
  refine nw_putE (NF := 86) (fs := fs6) (v := .ref (h.length + 5)) hlf6 C rfl he rfl rfl rfl trivial ?_
  obtain ⟨fs7, hfs7⟩ : ∃ fs7 : List Value, fs7 = fs6.set 25 (.ref (h.length + 5)) := ⟨_, rfl⟩
  have hlf7 : fs7.length = 86 := by rw [hfs7, List.length_set]; exact hlf6
  refine nw_eqF hfs7 ?_
  refine ab_step C rfl ?_
  refine ab_step C rfl ?_
  refine nw_iE (N0 := 6) hl5 (N := 18) C rfl (by decide) (by decide) (by decide) ⟨Nat.le_of_ble_eq_true rfl, Nat.le_of_ble_eq_true rfl⟩ ?_
  obtain ⟨t6, ht6⟩ : ∃ t6 : ab_H, t6 = t5 ++ [aIn 18] := ⟨_, rfl⟩
  have hl6 : t6.length = 7 := by rw [ht6, List.length_append, hl5]; rfl
  refine nw_eqT ht6 ?_
  refine nw_putE (NF := 86) (fs := fs7) (v := .ref (h.length + 6)) hlf7 C rfl he rfl rfl rfl trivial ?_
  obtain ⟨fs8, hfs8⟩ : ∃ fs8 : List Value, fs8 = fs7.set 26 (.ref (h.length + 6)) := ⟨_, rfl⟩
  have hlf8 : fs8.length = 86 := by rw [hfs8, List.length_set]; exact hlf7
  refine nw_eqF hfs8 ?_
  refine ab_step C rfl ?_
  refine ab_step C rfl ?_
  refine nw_iE (N0 := 7) hl6 (N := 18) C rfl (by decide) (by decide) (by decide) ⟨Nat.le_of_ble_eq_true rfl, Nat.le_of_ble_eq_true rfl⟩ ?_
  obtain ⟨t7, ht7⟩ : ∃ t7 : ab_H, t7 = t6 ++ [aIn 18] := ⟨_, rfl⟩
  have hl7 : t7.length = 8 := by rw [ht7, List.length_append, hl6]; rfl
  refine nw_eqT ht7 ?_
  refine nw_putE (NF := 86) (fs := fs8) (v := .ref (h.length + 7)) hlf8 C rfl he rfl rfl rfl trivial ?_
  obtain ⟨fs9, hfs9⟩ : ∃ fs9 : List Value, fs9 = fs8.set 27 (.ref (h.length + 7)) := ⟨_, rfl⟩
  have hlf9 : fs9.length = 86 := by rw [hfs9, List.length_set]; exact hlf8
  refine nw_eqF hfs9 ?_
  refine ab_step C rfl ?_
  refine ab_step C rfl ?_
  refine nw_iE (N0 := 8) hl7 (N := 18) C rfl (by decide) (by decide) (by decide) ⟨Nat.le_of_ble_eq_true rfl, Nat.le_of_ble_eq_true rfl⟩ ?_
  obtain ⟨t8, ht8⟩ : ∃ t8 : ab_H, t8 = t7 ++ [aIn 18] := ⟨_, rfl⟩
  have hl8 : t8.length = 9 := by rw [ht8, List.length_append, hl7]; rfl
  refine nw_eqT ht8 ?_
  refine nw_putE (NF := 86) (fs := fs9) (v := .ref (h.length + 8)) hlf9 C rfl he rfl rfl rfl trivial ?_
  obtain ⟨fs10, hfs10⟩ : ∃ fs10 : List Value, fs10 = fs9.set 28 (.ref (h.length + 8)) := ⟨_, rfl⟩
  have hlf10 : fs10.length = 86 := by rw [hfs10, List.length_set]; exact hlf9
  refine nw_eqF hfs10 ?_
  refine ab_step C rfl ?_
  refine ab_step C rfl ?_
  refine nw_iE (N0 := 9) hl8 (N := 10) C rfl (by decide) (by decide) (by decide) ⟨Nat.le_of_ble_eq_true rfl, Nat.le_of_ble_eq_true rfl⟩ ?_
  obtain ⟨t9, ht9⟩ : ∃ t9 : ab_H, t9 = t8 ++ [aIn 10] := ⟨_, rfl⟩
  have hl9 : t9.length = 10 := by rw [ht9, List.length_append, hl8]; rfl
  refine nw_eqT ht9 ?_
  refine nw_putE (NF := 86) (fs := fs10) (v := .ref (h.length + 9)) hlf10 C rfl he rfl rfl rfl trivial ?_
  obtain ⟨fs11, hfs11⟩ : ∃ fs11 : List Value, fs11 = fs10.set 29 (.ref (h.length + 9)) := ⟨_, rfl⟩
  have hlf11 : fs11.length = 86 := by rw [hfs11, List.length_set]; exact hlf10
  refine nw_eqF hfs11 ?_
  refine ab_step C rfl ?_
  refine ab_step C rfl ?_
  refine nw_iE (N0 := 10) hl9 (N := 16) C rfl (by decide) (by decide) (by decide) ⟨Nat.le_of_ble_eq_true rfl, Nat.le_of_ble_eq_true rfl⟩ ?_
  obtain ⟨t10, ht10⟩ : ∃ t10 : ab_H, t10 = t9 ++ [aIn 16] := ⟨_, rfl⟩
  have hl10 : t10.length = 11 := by rw [ht10, List.length_append, hl9]; rfl
  refine nw_eqT ht10 ?_
  refine nw_putE (NF := 86) (fs := fs11) (v := .ref (h.length + 10)) hlf11 C rfl he rfl rfl rfl trivial ?_
  obtain ⟨fs12, hfs12⟩ : ∃ fs12 : List Value, fs12 = fs11.set 30 (.ref (h.length + 10)) := ⟨_, rfl⟩
  have hlf12 : fs12.length = 86 := by rw [hfs12, List.length_set]; exact hlf11
  refine nw_eqF hfs12 ?_
  refine ab_step C rfl ?_
  refine ab_step C rfl ?_
  refine nw_iE (N0 := 11) hl10 (N := 16) C rfl (by decide) (by decide) (by decide) ⟨Nat.le_of_ble_eq_true rfl, Nat.le_of_ble_eq_true rfl⟩ ?_
  obtain ⟨t11, ht11⟩ : ∃ t11 : ab_H, t11 = t10 ++ [aIn 16] := ⟨_, rfl⟩
  have hl11 : t11.length = 12 := by rw [ht11, List.length_append, hl10]; rfl
  refine nw_eqT ht11 ?_
  refine nw_putE (NF := 86) (fs := fs12) (v := .ref (h.length + 11)) hlf12 C rfl he rfl rfl rfl trivial ?_
  obtain ⟨fs13, hfs13⟩ : ∃ fs13 : List Value, fs13 = fs12.set 31 (.ref (h.length + 11)) := ⟨_, rfl⟩
  have hlf13 : fs13.length = 86 := by rw [hfs13, List.length_set]; exact hlf12
  refine nw_eqF hfs13 ?_
  refine ab_step C rfl ?_
  refine ab_step C rfl ?_
  refine nw_iE (N0 := 12) hl11 (N := 16) C rfl (by decide) (by decide) (by decide) ⟨Nat.le_of_ble_eq_true rfl, Nat.le_of_ble_eq_true rfl⟩ ?_
  obtain ⟨t12, ht12⟩ : ∃ t12 : ab_H, t12 = t11 ++ [aIn 16] := ⟨_, rfl⟩
  have hl12 : t12.length = 13 := by rw [ht12, List.length_append, hl11]; rfl
  refine nw_eqT ht12 ?_
  refine nw_putE (NF := 86) (fs := fs13) (v := .ref (h.length + 12)) hlf13 C rfl he rfl rfl rfl trivial ?_
  obtain ⟨fs14, hfs14⟩ : ∃ fs14 : List Value, fs14 = fs13.set 32 (.ref (h.length + 12)) := ⟨_, rfl⟩
  have hlf14 : fs14.length = 86 := by rw [hfs14, List.length_set]; exact hlf13
  refine nw_eqF hfs14 ?_
  refine ab_step C rfl ?_
  refine ab_step C rfl ?_
  refine nw_iE (N0 := 13) hl12 (N := 20) C rfl (by decide) (by decide) (by decide) ⟨Nat.le_of_ble_eq_true rfl, Nat.le_of_ble_eq_true rfl⟩ ?_
  obtain ⟨t13, ht13⟩ : ∃ t13 : ab_H, t13 = t12 ++ [aIn 20] := ⟨_, rfl⟩
  have hl13 : t13.length = 14 := by rw [ht13, List.length_append, hl12]; rfl
  refine nw_eqT ht13 ?_
  refine nw_putE (NF := 86) (fs := fs14) (v := .ref (h.length + 13)) hlf14 C rfl he rfl rfl rfl trivial ?_
  obtain ⟨fs15, hfs15⟩ : ∃ fs15 : List Value, fs15 = fs14.set 33 (.ref (h.length + 13)) := ⟨_, rfl⟩
  have hlf15 : fs15.length = 86 := by rw [hfs15, List.length_set]; exact hlf14
  refine nw_eqF hfs15 ?_
  refine ab_step C rfl ?_
  refine ab_step C rfl ?_
  refine nw_iE (N0 := 14) hl13 (N := 20) C rfl (by decide) (by decide) (by decide) ⟨Nat.le_of_ble_eq_true rfl, Nat.le_of_ble_eq_true rfl⟩ ?_
  obtain ⟨t14, ht14⟩ : ∃ t14 : ab_H, t14 = t13 ++ [aIn 20] := ⟨_, rfl⟩
  have hl14 : t14.length = 15 := by rw [ht14, List.length_append, hl13]; rfl
  refine nw_eqT ht14 ?_
  refine nw_putE (NF := 86) (fs := fs15) (v := .ref (h.length + 14)) hlf15 C rfl he rfl rfl rfl trivial ?_
  obtain ⟨fs16, hfs16⟩ : ∃ fs16 : List Value, fs16 = fs15.set 34 (.ref (h.length + 14)) := ⟨_, rfl⟩
  have hlf16 : fs16.length = 86 := by rw [hfs16, List.length_set]; exact hlf15
  refine nw_eqF hfs16 ?_
  refine ab_step C rfl ?_
  refine ab_step C rfl ?_
  refine nw_zE (N0 := 15) hl14 (N := 6) C rfl (by decide) (by decide) (by decide) ⟨Nat.le_of_ble_eq_true rfl, Nat.le_of_ble_eq_true rfl⟩ ?_
  obtain ⟨t15, ht15⟩ : ∃ t15 : ab_H, t15 = t14 ++ [aBo 6] := ⟨_, rfl⟩
  have hl15 : t15.length = 16 := by rw [ht15, List.length_append, hl14]; rfl
  refine nw_eqT ht15 ?_
  refine nw_putE (NF := 86) (fs := fs16) (v := .ref (h.length + 15)) hlf16 C rfl he rfl rfl rfl trivial ?_
  obtain ⟨fs17, hfs17⟩ : ∃ fs17 : List Value, fs17 = fs16.set 35 (.ref (h.length + 15)) := ⟨_, rfl⟩
  have hlf17 : fs17.length = 86 := by rw [hfs17, List.length_set]; exact hlf16
  refine nw_eqF hfs17 ?_
  refine ab_step C rfl ?_
  refine ab_step C rfl ?_
  refine nw_iE (N0 := 16) hl15 (N := 6) C rfl (by decide) (by decide) (by decide) ⟨Nat.le_of_ble_eq_true rfl, Nat.le_of_ble_eq_true rfl⟩ ?_
  obtain ⟨t16, ht16⟩ : ∃ t16 : ab_H, t16 = t15 ++ [aIn 6] := ⟨_, rfl⟩
  have hl16 : t16.length = 17 := by rw [ht16, List.length_append, hl15]; rfl
  refine nw_eqT ht16 ?_
  refine nw_putE (NF := 86) (fs := fs17) (v := .ref (h.length + 16)) hlf17 C rfl he rfl rfl rfl trivial ?_
  obtain ⟨fs18, hfs18⟩ : ∃ fs18 : List Value, fs18 = fs17.set 36 (.ref (h.length + 16)) := ⟨_, rfl⟩
  have hlf18 : fs18.length = 86 := by rw [hfs18, List.length_set]; exact hlf17
  refine nw_eqF hfs18 ?_
  refine ab_step C rfl ?_
  refine ab_step C rfl ?_
  refine nw_iE (N0 := 17) hl16 (N := 6) C rfl (by decide) (by decide) (by decide) ⟨Nat.le_of_ble_eq_true rfl, Nat.le_of_ble_eq_true rfl⟩ ?_
  obtain ⟨t17, ht17⟩ : ∃ t17 : ab_H, t17 = t16 ++ [aIn 6] := ⟨_, rfl⟩
  have hl17 : t17.length = 18 := by rw [ht17, List.length_append, hl16]; rfl
  refine nw_eqT ht17 ?_
  refine nw_putE (NF := 86) (fs := fs18) (v := .ref (h.length + 17)) hlf18 C rfl he rfl rfl rfl trivial ?_
  obtain ⟨fs19, hfs19⟩ : ∃ fs19 : List Value, fs19 = fs18.set 37 (.ref (h.length + 17)) := ⟨_, rfl⟩
  have hlf19 : fs19.length = 86 := by rw [hfs19, List.length_set]; exact hlf18
  refine nw_eqF hfs19 ?_
  refine ab_step C rfl ?_
  refine ab_step C rfl ?_
  refine nw_iE (N0 := 18) hl17 (N := 128) C rfl (by decide) (by decide) (by decide) ⟨Nat.le_of_ble_eq_true rfl, Nat.le_of_ble_eq_true rfl⟩ ?_
  obtain ⟨t18, ht18⟩ : ∃ t18 : ab_H, t18 = t17 ++ [aIn 128] := ⟨_, rfl⟩
  have hl18 : t18.length = 19 := by rw [ht18, List.length_append, hl17]; rfl
  refine nw_eqT ht18 ?_
  refine nw_putE (NF := 86) (fs := fs19) (v := .ref (h.length + 18)) hlf19 C rfl he rfl rfl rfl trivial ?_
  obtain ⟨fs20, hfs20⟩ : ∃ fs20 : List Value, fs20 = fs19.set 38 (.ref (h.length + 18)) := ⟨_, rfl⟩
  have hlf20 : fs20.length = 86 := by rw [hfs20, List.length_set]; exact hlf19
  refine nw_eqF hfs20 ?_
  refine ab_step C rfl ?_
  refine ab_step C rfl ?_
  refine nw_iE (N0 := 19) hl18 (N := 128) C rfl (by decide) (by decide) (by decide) ⟨Nat.le_of_ble_eq_true rfl, Nat.le_of_ble_eq_true rfl⟩ ?_
  obtain ⟨t19, ht19⟩ : ∃ t19 : ab_H, t19 = t18 ++ [aIn 128] := ⟨_, rfl⟩
  have hl19 : t19.length = 20 := by rw [ht19, List.length_append, hl18]; rfl
  refine nw_eqT ht19 ?_
  refine nw_putE (NF := 86) (fs := fs20) (v := .ref (h.length + 19)) hlf20 C rfl he rfl rfl rfl trivial ?_
  obtain ⟨fs21, hfs21⟩ : ∃ fs21 : List Value, fs21 = fs20.set 39 (.ref (h.length + 19)) := ⟨_, rfl⟩
  have hlf21 : fs21.length = 86 := by rw [hfs21, List.length_set]; exact hlf20
  refine nw_eqF hfs21 ?_
  refine ab_step C rfl ?_
  refine ab_step C rfl ?_
  refine nw_iE (N0 := 20) hl19 (N := 128) C rfl (by decide) (by decide) (by decide) ⟨Nat.le_of_ble_eq_true rfl, Nat.le_of_ble_eq_true rfl⟩ ?_
  obtain ⟨t20, ht20⟩ : ∃ t20 : ab_H, t20 = t19 ++ [aIn 128] := ⟨_, rfl⟩
  have hl20 : t20.length = 21 := by rw [ht20, List.length_append, hl19]; rfl
  refine nw_eqT ht20 ?_
  refine nw_putE (NF := 86) (fs := fs21) (v := .ref (h.length + 20)) hlf21 C rfl he rfl rfl rfl trivial ?_
  obtain ⟨fs22, hfs22⟩ : ∃ fs22 : List Value, fs22 = fs21.set 40 (.ref (h.length + 20)) := ⟨_, rfl⟩
  have hlf22 : fs22.length = 86 := by rw [hfs22, List.length_set]; exact hlf21
  refine nw_eqF hfs22 ?_
  refine ab_step C rfl ?_
  refine ab_step C rfl ?_
  refine nw_iE (N0 := 21) hl20 (N := 96) C rfl (by decide) (by decide) (by decide) ⟨Nat.le_of_ble_eq_true rfl, Nat.le_of_ble_eq_true rfl⟩ ?_
  obtain ⟨t21, ht21⟩ : ∃ t21 : ab_H, t21 = t20 ++ [aIn 96] := ⟨_, rfl⟩
  have hl21 : t21.length = 22 := by rw [ht21, List.length_append, hl20]; rfl
  refine nw_eqT ht21 ?_
  refine nw_putE (NF := 86) (fs := fs22) (v := .ref (h.length + 21)) hlf22 C rfl he rfl rfl rfl trivial ?_
  obtain ⟨fs23, hfs23⟩ : ∃ fs23 : List Value, fs23 = fs22.set 41 (.ref (h.length + 21)) := ⟨_, rfl⟩
  have hlf23 : fs23.length = 86 := by rw [hfs23, List.length_set]; exact hlf22
  refine nw_eqF hfs23 ?_
  refine ab_step C rfl ?_
  refine ab_step C rfl ?_
  refine nw_iE (N0 := 22) hl21 (N := 96) C rfl (by decide) (by decide) (by decide) ⟨Nat.le_of_ble_eq_true rfl, Nat.le_of_ble_eq_true rfl⟩ ?_
  obtain ⟨t22, ht22⟩ : ∃ t22 : ab_H, t22 = t21 ++ [aIn 96] := ⟨_, rfl⟩
  have hl22 : t22.length = 23 := by rw [ht22, List.length_append, hl21]; rfl
  refine nw_eqT ht22 ?_
  refine nw_putE (NF := 86) (fs := fs23) (v := .ref (h.length + 22)) hlf23 C rfl he rfl rfl rfl trivial ?_
  obtain ⟨fs24, hfs24⟩ : ∃ fs24 : List Value, fs24 = fs23.set 42 (.ref (h.length + 22)) := ⟨_, rfl⟩
  have hlf24 : fs24.length = 86 := by rw [hfs24, List.length_set]; exact hlf23
  refine nw_eqF hfs24 ?_
  refine ab_step C rfl ?_
  refine ab_step C rfl ?_
  refine nw_lE2 (N0 := 23) hl22 (N := 7) C rfl (by decide) (by decide) (by decide) ⟨Nat.le_of_ble_eq_true rfl, Nat.le_of_ble_eq_true rfl⟩ ?_
  obtain ⟨t23, ht23⟩ : ∃ t23 : ab_H, t23 = t22 ++ [aLg 7] := ⟨_, rfl⟩
  have hl23 : t23.length = 24 := by rw [ht23, List.length_append, hl22]; rfl
  refine nw_eqT ht23 ?_
  refine nw_putE (NF := 86) (fs := fs24) (v := .ref (h.length + 23)) hlf24 C rfl he rfl rfl rfl trivial ?_
  obtain ⟨fs25, hfs25⟩ : ∃ fs25 : List Value, fs25 = fs24.set 49 (.ref (h.length + 23)) := ⟨_, rfl⟩
  have hlf25 : fs25.length = 86 := by rw [hfs25, List.length_set]; exact hlf24
  refine nw_eqF hfs25 ?_
  refine ab_step C rfl ?_
  refine ab_step C rfl ?_
  refine nw_lE2 (N0 := 24) hl23 (N := 64) C rfl (by decide) (by decide) (by decide) ⟨Nat.le_of_ble_eq_true rfl, Nat.le_of_ble_eq_true rfl⟩ ?_
  obtain ⟨t24, ht24⟩ : ∃ t24 : ab_H, t24 = t23 ++ [aLg 64] := ⟨_, rfl⟩
  have hl24 : t24.length = 25 := by rw [ht24, List.length_append, hl23]; rfl
  refine nw_eqT ht24 ?_
  refine nw_putE (NF := 86) (fs := fs25) (v := .ref (h.length + 24)) hlf25 C rfl he rfl rfl rfl trivial ?_
  obtain ⟨fs26, hfs26⟩ : ∃ fs26 : List Value, fs26 = fs25.set 50 (.ref (h.length + 24)) := ⟨_, rfl⟩
  have hlf26 : fs26.length = 86 := by rw [hfs26, List.length_set]; exact hlf25
  refine nw_eqF hfs26 ?_
  refine ab_step C rfl ?_
  refine ab_step C rfl ?_
  refine nw_iE (N0 := 25) hl24 (N := 18) C rfl (by decide) (by decide) (by decide) ⟨Nat.le_of_ble_eq_true rfl, Nat.le_of_ble_eq_true rfl⟩ ?_
  obtain ⟨t25, ht25⟩ : ∃ t25 : ab_H, t25 = t24 ++ [aIn 18] := ⟨_, rfl⟩
  have hl25 : t25.length = 26 := by rw [ht25, List.length_append, hl24]; rfl
  refine nw_eqT ht25 ?_
  refine nw_putE (NF := 86) (fs := fs26) (v := .ref (h.length + 25)) hlf26 C rfl he rfl rfl rfl trivial ?_
  obtain ⟨fs27, hfs27⟩ : ∃ fs27 : List Value, fs27 = fs26.set 52 (.ref (h.length + 25)) := ⟨_, rfl⟩
  have hlf27 : fs27.length = 86 := by rw [hfs27, List.length_set]; exact hlf26
  refine nw_eqF hfs27 ?_
  refine ab_step C rfl ?_
  refine ab_step C rfl ?_
  refine nw_iE (N0 := 26) hl25 (N := 10) C rfl (by decide) (by decide) (by decide) ⟨Nat.le_of_ble_eq_true rfl, Nat.le_of_ble_eq_true rfl⟩ ?_
  obtain ⟨t26, ht26⟩ : ∃ t26 : ab_H, t26 = t25 ++ [aIn 10] := ⟨_, rfl⟩
  have hl26 : t26.length = 27 := by rw [ht26, List.length_append, hl25]; rfl
  refine nw_eqT ht26 ?_
  refine nw_putE (NF := 86) (fs := fs27) (v := .ref (h.length + 26)) hlf27 C rfl he rfl rfl rfl trivial ?_
  obtain ⟨fs28, hfs28⟩ : ∃ fs28 : List Value, fs28 = fs27.set 53 (.ref (h.length + 26)) := ⟨_, rfl⟩
  have hlf28 : fs28.length = 86 := by rw [hfs28, List.length_set]; exact hlf27
  refine nw_eqF hfs28 ?_
  refine ab_step C rfl ?_
  refine ab_step C rfl ?_
  refine nw_iE (N0 := 27) hl26 (N := 10) C rfl (by decide) (by decide) (by decide) ⟨Nat.le_of_ble_eq_true rfl, Nat.le_of_ble_eq_true rfl⟩ ?_
  obtain ⟨t27, ht27⟩ : ∃ t27 : ab_H, t27 = t26 ++ [aIn 10] := ⟨_, rfl⟩
  have hl27 : t27.length = 28 := by rw [ht27, List.length_append, hl26]; rfl
  refine nw_eqT ht27 ?_
  refine nw_putE (NF := 86) (fs := fs28) (v := .ref (h.length + 27)) hlf28 C rfl he rfl rfl rfl trivial ?_
  obtain ⟨fs29, hfs29⟩ : ∃ fs29 : List Value, fs29 = fs28.set 54 (.ref (h.length + 27)) := ⟨_, rfl⟩
  have hlf29 : fs29.length = 86 := by rw [hfs29, List.length_set]; exact hlf28
  refine nw_eqF hfs29 ?_
  refine ab_step C rfl ?_
  refine ab_step C rfl ?_
  refine nw_iE (N0 := 28) hl27 (N := 2) C rfl (by decide) (by decide) (by decide) ⟨Nat.le_of_ble_eq_true rfl, Nat.le_of_ble_eq_true rfl⟩ ?_
  obtain ⟨t28, ht28⟩ : ∃ t28 : ab_H, t28 = t27 ++ [aIn 2] := ⟨_, rfl⟩
  have hl28 : t28.length = 29 := by rw [ht28, List.length_append, hl27]; rfl
  refine nw_eqT ht28 ?_
  refine nw_putE (NF := 86) (fs := fs29) (v := .ref (h.length + 28)) hlf29 C rfl he rfl rfl rfl trivial ?_
  obtain ⟨fs30, hfs30⟩ : ∃ fs30 : List Value, fs30 = fs29.set 55 (.ref (h.length + 28)) := ⟨_, rfl⟩
  have hlf30 : fs30.length = 86 := by rw [hfs30, List.length_set]; exact hlf29
  refine nw_eqF hfs30 ?_
  refine ab_step C rfl ?_
  refine ab_step C rfl ?_
  refine nw_iE (N0 := 29) hl28 (N := 2) C rfl (by decide) (by decide) (by decide) ⟨Nat.le_of_ble_eq_true rfl, Nat.le_of_ble_eq_true rfl⟩ ?_
  obtain ⟨t29, ht29⟩ : ∃ t29 : ab_H, t29 = t28 ++ [aIn 2] := ⟨_, rfl⟩
  have hl29 : t29.length = 30 := by rw [ht29, List.length_append, hl28]; rfl
  refine nw_eqT ht29 ?_
  refine nw_putE (NF := 86) (fs := fs30) (v := .ref (h.length + 29)) hlf30 C rfl he rfl rfl rfl trivial ?_
  obtain ⟨fs31, hfs31⟩ : ∃ fs31 : List Value, fs31 = fs30.set 56 (.ref (h.length + 29)) := ⟨_, rfl⟩
  have hlf31 : fs31.length = 86 := by rw [hfs31, List.length_set]; exact hlf30
  refine nw_eqF hfs31 ?_
  refine ab_step C rfl ?_
  refine ab_step C rfl ?_
  refine nw_iE (N0 := 30) hl29 (N := 7) C rfl (by decide) (by decide) (by decide) ⟨Nat.le_of_ble_eq_true rfl, Nat.le_of_ble_eq_true rfl⟩ ?_
  obtain ⟨t30, ht30⟩ : ∃ t30 : ab_H, t30 = t29 ++ [aIn 7] := ⟨_, rfl⟩
  have hl30 : t30.length = 31 := by rw [ht30, List.length_append, hl29]; rfl
  refine nw_eqT ht30 ?_
  refine nw_putE (NF := 86) (fs := fs31) (v := .ref (h.length + 30)) hlf31 C rfl he rfl rfl rfl trivial ?_
  obtain ⟨fs32, hfs32⟩ : ∃ fs32 : List Value, fs32 = fs31.set 65 (.ref (h.length + 30)) := ⟨_, rfl⟩
  have hlf32 : fs32.length = 86 := by rw [hfs32, List.length_set]; exact hlf31
  refine nw_eqF hfs32 ?_
  refine ab_step C rfl ?_
  refine ab_step C rfl ?_
  refine nw_iE (N0 := 31) hl30 (N := 3584) C rfl (by decide) (by decide) (by decide) ⟨Nat.le_of_ble_eq_true rfl, Nat.le_of_ble_eq_true rfl⟩ ?_
  obtain ⟨t31, ht31⟩ : ∃ t31 : ab_H, t31 = t30 ++ [aIn 3584] := ⟨_, rfl⟩
  have hl31 : t31.length = 32 := by rw [ht31, List.length_append, hl30]; rfl
  refine nw_eqT ht31 ?_
  refine nw_putE (NF := 86) (fs := fs32) (v := .ref (h.length + 31)) hlf32 C rfl he rfl rfl rfl trivial ?_
  obtain ⟨fs33, hfs33⟩ : ∃ fs33 : List Value, fs33 = fs32.set 66 (.ref (h.length + 31)) := ⟨_, rfl⟩
  have hlf33 : fs33.length = 86 := by rw [hfs33, List.length_set]; exact hlf32
  refine nw_eqF hfs33 ?_
  refine ab_step C rfl ?_
  refine ab_step C rfl ?_
  refine nw_iE (N0 := 32) hl31 (N := 7) C rfl (by decide) (by decide) (by decide) ⟨Nat.le_of_ble_eq_true rfl, Nat.le_of_ble_eq_true rfl⟩ ?_
  obtain ⟨t32, ht32⟩ : ∃ t32 : ab_H, t32 = t31 ++ [aIn 7] := ⟨_, rfl⟩
  have hl32 : t32.length = 33 := by rw [ht32, List.length_append, hl31]; rfl
  refine nw_eqT ht32 ?_
  refine nw_putE (NF := 86) (fs := fs33) (v := .ref (h.length + 32)) hlf33 C rfl he rfl rfl rfl trivial ?_
  obtain ⟨fs34, hfs34⟩ : ∃ fs34 : List Value, fs34 = fs33.set 67 (.ref (h.length + 32)) := ⟨_, rfl⟩
  have hlf34 : fs34.length = 86 := by rw [hfs34, List.length_set]; exact hlf33
  refine nw_eqF hfs34 ?_
  refine ab_step C rfl ?_
  refine ab_step C rfl ?_
  refine nw_lE2 (N0 := 33) hl32 (N := 3584) C rfl (by decide) (by decide) (by decide) ⟨Nat.le_of_ble_eq_true rfl, Nat.le_of_ble_eq_true rfl⟩ ?_
  obtain ⟨t33, ht33⟩ : ∃ t33 : ab_H, t33 = t32 ++ [aLg 3584] := ⟨_, rfl⟩
  have hl33 : t33.length = 34 := by rw [ht33, List.length_append, hl32]; rfl
  refine nw_eqT ht33 ?_
  refine nw_putE (NF := 86) (fs := fs34) (v := .ref (h.length + 33)) hlf34 C rfl he rfl rfl rfl trivial ?_
  obtain ⟨fs35, hfs35⟩ : ∃ fs35 : List Value, fs35 = fs34.set 72 (.ref (h.length + 33)) := ⟨_, rfl⟩
  have hlf35 : fs35.length = 86 := by rw [hfs35, List.length_set]; exact hlf34
  refine nw_eqF hfs35 ?_
  refine ab_step C rfl ?_
  refine ab_step C rfl ?_
  refine nw_iE (N0 := 34) hl33 (N := 512) C rfl (by decide) (by decide) (by decide) ⟨Nat.le_of_ble_eq_true rfl, Nat.le_of_ble_eq_true rfl⟩ ?_
  obtain ⟨t34, ht34⟩ : ∃ t34 : ab_H, t34 = t33 ++ [aIn 512] := ⟨_, rfl⟩
  have hl34 : t34.length = 35 := by rw [ht34, List.length_append, hl33]; rfl
  refine nw_eqT ht34 ?_
  refine nw_putE (NF := 86) (fs := fs35) (v := .ref (h.length + 34)) hlf35 C rfl he rfl rfl rfl trivial ?_
  obtain ⟨fs36, hfs36⟩ : ∃ fs36 : List Value, fs36 = fs35.set 73 (.ref (h.length + 34)) := ⟨_, rfl⟩
  have hlf36 : fs36.length = 86 := by rw [hfs36, List.length_set]; exact hlf35
  refine nw_eqF hfs36 ?_
  refine ab_step C rfl ?_
  refine ab_step C rfl ?_
  refine nw_iE (N0 := 35) hl34 (N := 25088) C rfl (by decide) (by decide) (by decide) ⟨Nat.le_of_ble_eq_true rfl, Nat.le_of_ble_eq_true rfl⟩ ?_
  obtain ⟨t35, ht35⟩ : ∃ t35 : ab_H, t35 = t34 ++ [aIn 25088] := ⟨_, rfl⟩
  have hl35 : t35.length = 36 := by rw [ht35, List.length_append, hl34]; rfl
  refine nw_eqT ht35 ?_
  refine nw_putE (NF := 86) (fs := fs36) (v := .ref (h.length + 35)) hlf36 C rfl he rfl rfl rfl trivial ?_
  obtain ⟨fs37, hfs37⟩ : ∃ fs37 : List Value, fs37 = fs36.set 74 (.ref (h.length + 35)) := ⟨_, rfl⟩
  have hlf37 : fs37.length = 86 := by rw [hfs37, List.length_set]; exact hlf36
  refine nw_eqF hfs37 ?_
  refine ab_step C rfl ?_
  refine ab_step C rfl ?_
  refine nw_putE (NF := 86) (fs := fs37) (v := .int (-1)) hlf37 C rfl he rfl rfl rfl trivial ?_
  obtain ⟨fs38, hfs38⟩ : ∃ fs38 : List Value, fs38 = fs37.set 76 (.int (-1)) := ⟨_, rfl⟩
  have hlf38 : fs38.length = 86 := by rw [hfs38, List.length_set]; exact hlf37
  refine nw_eqF hfs38 ?_
  refine ab_step C rfl ?_
  refine ab_step C rfl ?_
  refine nw_iE (N0 := 36) hl35 (N := 120) C rfl (by decide) (by decide) (by decide) ⟨Nat.le_of_ble_eq_true rfl, Nat.le_of_ble_eq_true rfl⟩ ?_
  obtain ⟨t36, ht36⟩ : ∃ t36 : ab_H, t36 = t35 ++ [aIn 120] := ⟨_, rfl⟩
  have hl36 : t36.length = 37 := by rw [ht36, List.length_append, hl35]; rfl
  refine nw_eqT ht36 ?_
  refine nw_putE (NF := 86) (fs := fs38) (v := .ref (h.length + 36)) hlf38 C rfl he rfl rfl rfl trivial ?_
  obtain ⟨fs39, hfs39⟩ : ∃ fs39 : List Value, fs39 = fs38.set 77 (.ref (h.length + 36)) := ⟨_, rfl⟩
  have hlf39 : fs39.length = 86 := by rw [hfs39, List.length_set]; exact hlf38
  refine nw_eqF hfs39 ?_
  refine ab_step C rfl ?_
  refine ab_step C rfl ?_
  refine nw_zE (N0 := 37) hl36 (N := 24) C rfl (by decide) (by decide) (by decide) ⟨Nat.le_of_ble_eq_true rfl, Nat.le_of_ble_eq_true rfl⟩ ?_
  obtain ⟨t37, ht37⟩ : ∃ t37 : ab_H, t37 = t36 ++ [aBo 24] := ⟨_, rfl⟩
  have hl37 : t37.length = 38 := by rw [ht37, List.length_append, hl36]; rfl
  refine nw_eqT ht37 ?_
  refine nw_putE (NF := 86) (fs := fs39) (v := .ref (h.length + 37)) hlf39 C rfl he rfl rfl rfl trivial ?_
  obtain ⟨fs40, hfs40⟩ : ∃ fs40 : List Value, fs40 = fs39.set 78 (.ref (h.length + 37)) := ⟨_, rfl⟩
  have hlf40 : fs40.length = 86 := by rw [hfs40, List.length_set]; exact hlf39
  refine nw_eqF hfs40 ?_
  refine ab_step C rfl ?_
  refine ab_step C rfl ?_
  refine nw_iE (N0 := 38) hl37 (N := 380) C rfl (by decide) (by decide) (by decide) ⟨Nat.le_of_ble_eq_true rfl, Nat.le_of_ble_eq_true rfl⟩ ?_
  obtain ⟨t38, ht38⟩ : ∃ t38 : ab_H, t38 = t37 ++ [aIn 380] := ⟨_, rfl⟩
  have hl38 : t38.length = 39 := by rw [ht38, List.length_append, hl37]; rfl
  refine nw_eqT ht38 ?_
  refine nw_putE (NF := 86) (fs := fs40) (v := .ref (h.length + 38)) hlf40 C rfl he rfl rfl rfl trivial ?_
  obtain ⟨fs41, hfs41⟩ : ∃ fs41 : List Value, fs41 = fs40.set 80 (.ref (h.length + 38)) := ⟨_, rfl⟩
  have hlf41 : fs41.length = 86 := by rw [hfs41, List.length_set]; exact hlf40
  refine nw_eqF hfs41 ?_
  refine ab_step C rfl ?_
  refine ab_step C rfl ?_
  refine nw_iE (N0 := 39) hl38 (N := 19) C rfl (by decide) (by decide) (by decide) ⟨Nat.le_of_ble_eq_true rfl, Nat.le_of_ble_eq_true rfl⟩ ?_
  obtain ⟨t39, ht39⟩ : ∃ t39 : ab_H, t39 = t38 ++ [aIn 19] := ⟨_, rfl⟩
  have hl39 : t39.length = 40 := by rw [ht39, List.length_append, hl38]; rfl
  refine nw_eqT ht39 ?_
  refine nw_putE (NF := 86) (fs := fs41) (v := .ref (h.length + 39)) hlf41 C rfl he rfl rfl rfl trivial ?_
  obtain ⟨fs42, hfs42⟩ : ∃ fs42 : List Value, fs42 = fs41.set 82 (.ref (h.length + 39)) := ⟨_, rfl⟩
  have hlf42 : fs42.length = 86 := by rw [hfs42, List.length_set]; exact hlf41
  refine nw_eqF hfs42 ?_
  have eT : t39 = kMt f := by rw [ht39, ht38, ht37, ht36, ht35, ht34, ht33, ht32, ht31, ht30, ht29, ht28, ht27, ht26, ht25, ht24, ht23, ht22, ht21, ht20, ht19, ht18, ht17, ht16, ht15, ht14, ht13, ht12, ht11, ht10, ht9, ht8, ht7, ht6, ht5, ht4, ht3, ht2, ht1]; rfl
  have eF : fs42 = kMf h.length := by rw [hfs42, hfs41, hfs40, hfs39, hfs38, hfs37, hfs36, hfs35, hfs34, hfs33, hfs32, hfs31, hfs30, hfs29, hfs28, hfs27, hfs26, hfs25, hfs24, hfs23, hfs22, hfs21, hfs20, hfs19, hfs18, hfs17, hfs16, hfs15, hfs14, hfs13, hfs12, hfs11, hfs10, hfs9, hfs8, hfs7, hfs6, hfs5, hfs4, hfs3, hfs2, hfs1]; rfl
  rw [eT, eF]
  exact k f hf

