def R_law : String := "BoneEstateLaw"
def lw_P (b : Addr) (xs : List Int32) (args : Array Value) (s : State) : Prop := args = #[.ref b] ∧ s.IntsAt b xs ∧ xs.length ≤ 384 ∧ (Jvm.Cond.and given_1 narrow_1).before args s = true
def lw_Q (_ : Array Value) (s : State) (o : Outcome) (t : State) : Prop := o = .returned (some (.int 1)) ∧ Framed s o t [] 600128 7301098
def lw_Z (below : List Frame) (a : Array Value) (s : State) : State → Prop := fun t => ∃ o, t.status = .running ∧ Ended t below o ∧ lw_Q a s o t
/-- the law's own end, with 1 on the stack, nothing written that was there before, its room as the claim has it -/
theorem lw_ret {p : Program} {l : Launch} {e : Env} {s : State} {m : MethodId} {below : List Frame} {meth : Method} {c : Code} {b : Nat} (hx : p.tables.exec = Jvm.exec) (hb : c.code = code) (hr : meth.sig.returnType = ret) (hlocks : meth.locks = false) {pc : Nat} {H : Heap} {ls : Array Slot} (hdg : decode code pc = .ok (.ireturn, 1)) : W p l e room_1 s m #[Value.ref b] below meth c H [] 600128 7301098 (lw_Z below #[Value.ref b] s) (F0 m pc ls [.int 1]) := by
  intro T hT X
  obtain ⟨fs, hret, hrun, hended, hW, hframe⟩ := X.leave (v := some (.int 1)) (hlocks := hlocks) (fun h => by rw [hr] at h; cases h)
  have hmeth' : T.vm.method? m = some meth := X.method'
  refine ⟨T.setFrames fs, ?_, .returned (some (.int 1)), hrun, hended, rfl, ⟨_, rfl⟩, hW, hframe⟩
  jvm_step X.here [X.here.top, hx, hb, hdg, hmeth', hr, ret, narrow_b1]
  (try refine ⟨rfl, ?_⟩); (try refine ⟨rfl, ?_⟩)
  first | (intro acts; rw [hret _ acts rfl rfl rfl]) | rw [hret _ _ rfl rfl rfl]
  exact Steps.refl _
/-- what holds at the law's entry: the machine, the code, the tables' words (any of lw_tbl by 'hts w (by decide +kernel)'), the script of L ints xs at the cell b, what the Statement gives of the start (any of its parts by flat_of_before) -/
def lw_At (p : Program) (s : State) (m : MethodId) (meth : Method) (c : Code) (b L : Nat) (xs : Nat → Int32) : Prop :=
  p.tables.exec = Jvm.exec ∧ c.code = code ∧ meth.sig.returnType = ret ∧ c.maxLocals = 7 ∧ s.vm.findClass R_law = some m.cls ∧ (∀ w ∈ lw_tbl, w.before #[Value.ref b] s = true) ∧ va_X b L xs s s.heap ∧ b < s.heap.size ∧ meth.locks = false ∧ (Jvm.Cond.and given_1 narrow_1).before #[Value.ref b] s = true
/-! ===== the law's loop (printed by wip/tools/mkdn.py) ===== -/
theorem and63 (x : Int32) : ∃ j, j < 64 ∧ x &&& nI 63 = nI j := by
  refine ⟨(x &&& nI 63).toBitVec.toNat, ?_, ?_⟩
  · show (x.toBitVec &&& 63#32).toNat < 64
    rw [BitVec.toNat_and]
    exact Nat.and_lt_two_pow _ (by decide : 63 < 2 ^ 6)
  · apply Int32.toBitVec_inj.mp
    show (x &&& nI 63).toBitVec = BitVec.ofNat 32 (x &&& nI 63).toBitVec.toNat
    rw [BitVec.ofNat_toNat, BitVec.setWidth_eq]
theorem l_gt {i L : Nat} (hi : i ≤ 384) (hL : L ≤ 384) : (nI L - nI 6 < nI i) ↔ L < i + 6 := by
  have e1 : (nI L).toInt = (L : Int) := nI_toInt (by omega)
  have e2 : (nI i).toInt = (i : Int) := nI_toInt (by omega)
  have e3 : (nI L - nI 6).toInt = (L : Int) - 6 := by
    rw [Int32.toInt_sub, e1, show (nI 6).toInt = 6 from rfl]
    exact Int.bmod_eq_of_le (by omega) (by omega)
  rw [Int32.lt_iff_toInt_lt, e3, e2]
  omega
theorem l_toI (j : Nat) (hj : j < 64) : (nI j).toInt = (j : Int) := nI_toInt (by omega)
section LLP
variable {G : ab_G} {n0 : Nat} {p : Program} {e : Env} {s : State} {m : MethodId} {below : List Frame} {meth : Method} {c : Code} {b Lx : Nat} {xs : Nat → Int32}
theorem l_tsw {args : Array Value} {R : Room} {Q : State → Prop} {cells slots : Nat} {L : List (Option Value)} {h : ab_H} {x : Int32} (j t : Nat) (off : Int) (E : lpC G p s m args meth c b Lx xs) (hx : x = nI j) (hj : j < 39) (ho : (#[172, 245, 270, 295, 332, 400, 437, 474, 524, 561, 598, 623, 648, 697, 722, 748, 785, 822, 848, 873, 910, 935, 960, 985, 998, 1047, 1096, 1173, 1250, 1275, 1300, 1325, 1350, 1363, 1424, 1473, 1486, 1499, 1512] : Array Int)[j]? = some off) (ht : (40 : Int) + off = (t : Int))
    (k : ab_R G M_L_law false n0 p e R s m args below meth c Q cells slots t L [] h) : ab_R G M_L_law false n0 p e R s m args below meth c Q cells slots 40 L [.int x] h := by
  have e1 : x.toInt = (j : Int) := by rw [hx]; exact l_toI j (by omega)
  refine ab_tsw (n9 := 172) (d := 1537) (lo := 0) (hi := 38) E.1 rfl (by rw [e1]; omega) (by rw [e1]; omega) (off := off) ?_ ht k
  rw [e1, show ((j : Int) - 0).toNat = j by omega]
  exact ho
theorem l_tsd {args : Array Value} {R : Room} {Q : State → Prop} {cells slots : Nat} {L : List (Option Value)} {h : ab_H} {x : Int32} (j : Nat) (E : lpC G p s m args meth c b Lx xs) (hx : x = nI j) (hj : 39 ≤ j) (hj2 : j < 64)
    (k : ab_R G M_L_law false n0 p e R s m args below meth c Q cells slots 1577 L [] h) : ab_R G M_L_law false n0 p e R s m args below meth c Q cells slots 40 L [.int x] h := by
  have e1 : x.toInt = (j : Int) := by rw [hx]; exact l_toI j (by omega)
  exact ab_tsd (n9 := 172) (d := 1537) (lo := 0) (hi := 38) E.1 rfl (by rw [e1]; omega) rfl k
theorem lpI_m {S Sm : ms_S} {g : tSG} {o : Nat → Option tDQ} {V : Nat} (h : lpI S Sm g o V) : lpI S Sm g o (V + 5000) := ⟨bQ_m h.1 (by omega), h.2.1, lb_m h.2.2⟩
set_option maxRecDepth 100000 in
set_option maxHeartbeats 8000000 in
theorem l_loop (E : lpC G p s m #[Value.ref b] meth c b Lx xs) (hr : meth.sig.returnType = ret) (hlocks : meth.locks = false) (hfl : G.1.flags = pinnedFlags ++ [noTraceFlag]) (hWl : pc_Wl s) (hA : ∀ q, ab_A G q → ∃ k, k < 217 ∧ q = ab_ad G k) (hA2 : ∀ q, ab_A G q → s.heap.size ≤ q) :
    ∀ (n t : Nat), t + n = 65 → 6 * t ≤ Lx → ∀ (S Sm : ms_S) (g : tSG) (o : Nat → Option tDQ) (f : Nat → Int64) (l5 l6 : Option Value) (cells slots : Nat), lpI S Sm g o (1 + 5000 * t) → cells ≤ 217 + t → slots ≤ 47360 + 6 * t → ab_R G M_L_law false n0 p e room_1 s m #[Value.ref b] below meth c (lw_Z below #[Value.ref b] s) cells slots 23 (lpL (6 * t) l5 l6) [] (lpH S Sm f) := by
  have hL := E.2.2.2.2.2
  have hns : ∀ (q : Nat) (cell : Cell), ab_A G q → s.heap[q]? = some cell → cell.vm.isStatics = false := fun q cell h1 h2 => absurd (Array.getElem?_eq_some_iff.mp h2).1 (by have := hA2 q h1; omega)
  intro n
  induction n with
  | zero => intro t ht h6; omega
  | succ n ih =>
    intro t ht h6 S Sm g o f l5 l6 cells slots hI hcs hss
    have hR : lpR room_1 cells slots := ⟨by decide, by decide, by show cells + 1 ≤ 600128; omega, by show slots + 6 ≤ 7301098; omega⟩
    have hR2 : lpR room_1 (cells + 1) (slots + 6) := ⟨by decide, by decide, by show cells + 1 + 1 ≤ 600128; omega, by show slots + 6 + 6 ≤ 7301098; omega⟩
    iterate 2 refine ab_step E.1 rfl ?_
    refine l_len E rfl ?_
    iterate 3 refine ab_step E.1 rfl ?_
    refine ab_ite (fun z => ?_) (fun z => ?_)
    · clear z ih
      intro H locs ls J hlv
      refine va_forget (fun q hq => hA2 _ (J.2.2.1.2.2 q hq)) ?_
      refine W.widen (k := 600128) (n := 7301098) (by omega) (by omega) ?_
      refine lv_iconst (v := 1) E.1.1 E.1.2.1 (E.1.2.2.2.2.2.2.2.2.2.2 _ (ab_lk_mem (show ab_lk M_L_law.2.2.2.2.2.2 1583 = some (.iconst 1, 1) from rfl))).1 (by decide) ?_
      exact lw_ret E.1.1 E.1.2.1 hr hlocks (E.1.2.2.2.2.2.2.2.2.2.2 _ (ab_lk_mem (show ab_lk M_L_law.2.2.2.2.2.2 1584 = some (.ireturn, 1) from rfl))).1
    · have hi : 6 * t + 6 ≤ Lx := by
        have z9 : ¬ (nI Lx - nI 6 < nI (6 * t)) := z
        rw [l_gt (by omega) hL] at z9
        omega
      clear z
      have hV : 1 + 5000 * t + 5000 < 2 ^ 30 := by omega
      have next : ∀ (S' Sm' : ms_S) (g' : tSG) (o' : Nat → Option tDQ) (f' : Nat → Int64) (l5' l6' : Option Value) (cells' slots' : Nat), lpI S' Sm' g' o' (1 + 5000 * t + 5000) → cells' ≤ cells + 1 → slots' ≤ slots + 6 → ab_R G M_L_law false n0 p e room_1 s m #[Value.ref b] below meth c (lw_Z below #[Value.ref b] s) cells' slots' 1577 (lpL (6 * t) l5' l6') [] (lpH S' Sm' f') := by
        intro S' Sm' g' o' f' l5' l6' cells' slots' h1 h2 h3
        refine ab_step (L' := lpL (6 * (t + 1)) l5' l6') (pc' := 1580) (st' := []) (h' := lpH S' Sm' f') E.1 ?_ ?_
        · refine l_st (ins := .iinc 4 6) (n := 3) rfl ?_
          show some (True, 1580, [some (.ref 1000), some (.ref 0), some (.ref 175), some (.ref 216), some (.int (nI (6 * t) + nI 6)), l5', l6'], [], _) = _
          rw [nI_add, show 6 * t + 6 = 6 * (t + 1) by omega]
        · refine ab_step (L' := lpL (6 * (t + 1)) l5' l6') (pc' := 23) (st' := []) (h' := lpH S' Sm' f') E.1 rfl ?_
          refine ih (t + 1) (by omega) (by omega) S' Sm' g' o' f' l5' l6' cells' slots' ?_ (by omega) (by omega)
          rw [show 1 + 5000 * (t + 1) = 1 + 5000 * t + 5000 by omega]
          exact h1
      clear ih
      iterate 2 refine ab_step E.1 rfl ?_
      refine l_ald (k := 6 * t) E rfl rfl (by omega) ?_
      iterate 2 refine ab_step E.1 rfl ?_
      obtain ⟨j, hj, ej⟩ := and63 (xs (6 * t))
      match j, hj, ej with
      | 0, _, ej => exact l_tsw 0 212 172 E ej (by decide) rfl rfl (l_c0 E hR hi hV hI (fun S' Sm' g' o' h => next S' Sm' g' o' f l5 l6 cells slots h (Nat.le_succ _) (Nat.le_add_right _ _)))
      | 1, _, ej => exact l_tsw 1 285 245 E ej (by decide) rfl rfl (l_c1 E hR hi hV hI (fun S' Sm' g' o' h => next S' Sm' g' o' f l5 l6 cells slots h (Nat.le_succ _) (Nat.le_add_right _ _)))
      | 2, _, ej => exact l_tsw 2 310 270 E ej (by decide) rfl rfl (l_c2 E hR hi hV hI (fun S' Sm' g' o' h => next S' Sm' g' o' f l5 l6 cells slots h (Nat.le_succ _) (Nat.le_add_right _ _)))
      | 3, _, ej => exact l_tsw 3 335 295 E ej (by decide) rfl rfl (l_c3 E hR hi hV hI (fun S' Sm' g' o' h => next S' Sm' g' o' f l5 l6 cells slots h (Nat.le_succ _) (Nat.le_add_right _ _)))
      | 4, _, ej => exact l_tsw 4 372 332 E ej (by decide) rfl rfl (l_c4 E hR hR2 hi hfl hWl hA hns hI (fun S' Sm' f' l5' l6' h => next S' Sm' _ _ f' l5' l6' _ _ h (Nat.le_refl _) (Nat.le_refl _)))
      | 5, _, ej => exact l_tsw 5 440 400 E ej (by decide) rfl rfl (l_c5 E hR hi hV hI (fun S' Sm' g' o' h => next S' Sm' g' o' f l5 l6 cells slots h (Nat.le_succ _) (Nat.le_add_right _ _)))
      | 6, _, ej => exact l_tsw 6 477 437 E ej (by decide) rfl rfl (l_c6 E hR hi hV hI (fun S' Sm' g' o' h => next S' Sm' g' o' f l5 l6 cells slots h (Nat.le_succ _) (Nat.le_add_right _ _)))
      | 7, _, ej => exact l_tsw 7 514 474 E ej (by decide) rfl rfl (l_c7 E hR hi hV hI (fun S' Sm' g' o' h => next S' Sm' g' o' f l5 l6 cells slots h (Nat.le_succ _) (Nat.le_add_right _ _)))
      | 8, _, ej => exact l_tsw 8 564 524 E ej (by decide) rfl rfl (l_c8 E hR hi hV hI (fun S' Sm' g' o' h => next S' Sm' g' o' f l5 l6 cells slots h (Nat.le_succ _) (Nat.le_add_right _ _)))
      | 9, _, ej => exact l_tsw 9 601 561 E ej (by decide) rfl rfl (l_c9 E hR hi hV hI (fun S' Sm' g' o' h => next S' Sm' g' o' f l5 l6 cells slots h (Nat.le_succ _) (Nat.le_add_right _ _)))
      | 10, _, ej => exact l_tsw 10 638 598 E ej (by decide) rfl rfl (l_c10 E hR hi hV hI (fun S' Sm' g' o' h => next S' Sm' g' o' f l5 l6 cells slots h (Nat.le_succ _) (Nat.le_add_right _ _)))
      | 11, _, ej => exact l_tsw 11 663 623 E ej (by decide) rfl rfl (l_c11 E hR hi hV hI (fun S' Sm' g' o' h => next S' Sm' g' o' f l5 l6 cells slots h (Nat.le_succ _) (Nat.le_add_right _ _)))
      | 12, _, ej => exact l_tsw 12 688 648 E ej (by decide) rfl rfl (l_c12 E hR hi hV hI (fun S' Sm' g' o' h => next S' Sm' g' o' f l5 l6 cells slots h (Nat.le_succ _) (Nat.le_add_right _ _)))
      | 13, _, ej => exact l_tsw 13 737 697 E ej (by decide) rfl rfl (l_c13 E hR hi hV hI (fun S' Sm' g' o' h => next S' Sm' g' o' f l5 l6 cells slots h (Nat.le_succ _) (Nat.le_add_right _ _)))
      | 14, _, ej => exact l_tsw 14 762 722 E ej (by decide) rfl rfl (l_c14 E hR hi hV hI (fun S' Sm' g' o' h => next S' Sm' g' o' f l5 l6 cells slots h (Nat.le_succ _) (Nat.le_add_right _ _)))
      | 15, _, ej => exact l_tsw 15 788 748 E ej (by decide) rfl rfl (l_c15 E hR hi hV hI (fun S' Sm' g' o' h => next S' Sm' g' o' f l5 l6 cells slots h (Nat.le_succ _) (Nat.le_add_right _ _)))
      | 16, _, ej => exact l_tsw 16 825 785 E ej (by decide) rfl rfl (l_c16 E hR hi hV hI (fun S' Sm' g' o' h => next S' Sm' g' o' f l5 l6 cells slots h (Nat.le_succ _) (Nat.le_add_right _ _)))
      | 17, _, ej => exact l_tsw 17 862 822 E ej (by decide) rfl rfl (l_c17 E hR hi hV hI (fun S' Sm' g' o' h => next S' Sm' g' o' f l5 l6 cells slots h (Nat.le_succ _) (Nat.le_add_right _ _)))
      | 18, _, ej => exact l_tsw 18 888 848 E ej (by decide) rfl rfl (l_c18 E hR hi hV hI (fun S' Sm' g' o' h => next S' Sm' g' o' f l5 l6 cells slots h (Nat.le_succ _) (Nat.le_add_right _ _)))
      | 19, _, ej => exact l_tsw 19 913 873 E ej (by decide) rfl rfl (l_c19 E hR hi hV hI (fun S' Sm' g' o' h => next S' Sm' g' o' f l5 l6 cells slots h (Nat.le_succ _) (Nat.le_add_right _ _)))
      | 20, _, ej => exact l_tsw 20 950 910 E ej (by decide) rfl rfl (l_c20 E hR hi hV hI (fun S' Sm' g' o' h => next S' Sm' g' o' f l5 l6 cells slots h (Nat.le_succ _) (Nat.le_add_right _ _)))
      | 21, _, ej => exact l_tsw 21 975 935 E ej (by decide) rfl rfl (l_c21 E hR hi hV hI (fun S' Sm' g' o' h => next S' Sm' g' o' f l5 l6 cells slots h (Nat.le_succ _) (Nat.le_add_right _ _)))
      | 22, _, ej => exact l_tsw 22 1000 960 E ej (by decide) rfl rfl (l_c22 E hR hi hV hI (fun S' Sm' g' o' h => next S' Sm' g' o' f l5 l6 cells slots h (Nat.le_succ _) (Nat.le_add_right _ _)))
      | 23, _, ej => exact l_tsw 23 1025 985 E ej (by decide) rfl rfl (l_c23 E hR hi hV hI (fun S' Sm' g' o' h => next S' Sm' g' o' f l5 l6 cells slots h (Nat.le_succ _) (Nat.le_add_right _ _)))
      | 24, _, ej => exact l_tsw 24 1038 998 E ej (by decide) rfl rfl (l_c24 E hR hi hV hI (fun S' Sm' g' o' h => next S' Sm' g' o' f l5 l6 cells slots h (Nat.le_succ _) (Nat.le_add_right _ _)))
      | 25, _, ej => exact l_tsw 25 1087 1047 E ej (by decide) rfl rfl (l_c25 E hR hi hV hI (fun S' Sm' g' o' h => next S' Sm' g' o' f l5 l6 cells slots h (Nat.le_succ _) (Nat.le_add_right _ _)))
      | 26, _, ej => exact l_tsw 26 1136 1096 E ej (by decide) rfl rfl (l_c26 E hR hi hV hI (fun S' Sm' g' o' h => next S' Sm' g' o' f l5 l6 cells slots h (Nat.le_succ _) (Nat.le_add_right _ _)))
      | 27, _, ej => exact l_tsw 27 1213 1173 E ej (by decide) rfl rfl (l_c27 E hR hi hV hI (fun S' Sm' g' o' h => next S' Sm' g' o' f l5 l6 cells slots h (Nat.le_succ _) (Nat.le_add_right _ _)))
      | 28, _, ej => exact l_tsw 28 1290 1250 E ej (by decide) rfl rfl (l_c28 E hR hi hV hI (fun S' Sm' g' o' h => next S' Sm' g' o' f l5 l6 cells slots h (Nat.le_succ _) (Nat.le_add_right _ _)))
      | 29, _, ej => exact l_tsw 29 1315 1275 E ej (by decide) rfl rfl (l_c29 E hR hi hV hI (fun S' Sm' g' o' h => next S' Sm' g' o' f l5 l6 cells slots h (Nat.le_succ _) (Nat.le_add_right _ _)))
      | 30, _, ej => exact l_tsw 30 1340 1300 E ej (by decide) rfl rfl (l_c30 E hR hi hV hI (fun S' Sm' g' o' h => next S' Sm' g' o' f l5 l6 cells slots h (Nat.le_succ _) (Nat.le_add_right _ _)))
      | 31, _, ej => exact l_tsw 31 1365 1325 E ej (by decide) rfl rfl (l_c31 E hR hi hV hI (fun S' Sm' g' o' h => next S' Sm' g' o' f l5 l6 cells slots h (Nat.le_succ _) (Nat.le_add_right _ _)))
      | 32, _, ej => exact l_tsw 32 1390 1350 E ej (by decide) rfl rfl (l_c32 E hR hi hV hI (fun S' Sm' g' o' h => next S' Sm' g' o' f l5 l6 cells slots h (Nat.le_succ _) (Nat.le_add_right _ _)))
      | 33, _, ej => exact l_tsw 33 1403 1363 E ej (by decide) rfl rfl (l_c33 E hR hi hV hI (fun S' Sm' g' o' h => next S' Sm' g' o' f l5 l6 cells slots h (Nat.le_succ _) (Nat.le_add_right _ _)))
      | 34, _, ej => exact l_tsw 34 1464 1424 E ej (by decide) rfl rfl (l_c34 E hR hi hV hI (fun S' Sm' g' o' h => next S' Sm' g' o' f l5 l6 cells slots h (Nat.le_succ _) (Nat.le_add_right _ _)))
      | 35, _, ej => exact l_tsw 35 1513 1473 E ej (by decide) rfl rfl (l_c35 E hR hi hV hI (fun S' Sm' g' o' h => next S' Sm' g' o' f l5 l6 cells slots h (Nat.le_succ _) (Nat.le_add_right _ _)))
      | 36, _, ej => exact l_tsw 36 1526 1486 E ej (by decide) rfl rfl (l_c36 E hR hi hV hI (fun S' Sm' g' o' h => next S' Sm' g' o' f l5 l6 cells slots h (Nat.le_succ _) (Nat.le_add_right _ _)))
      | 37, _, ej => exact l_tsw 37 1539 1499 E ej (by decide) rfl rfl (l_c37 E hR hi hV hI (fun S' Sm' g' o' h => next S' Sm' g' o' f l5 l6 cells slots h (Nat.le_succ _) (Nat.le_add_right _ _)))
      | 38, _, ej => exact l_tsw 38 1552 1512 E ej (by decide) rfl rfl (l_c38 E hR hi hV hI (fun S' Sm' g' o' h => next S' Sm' g' o' f l5 l6 cells slots h (Nat.le_succ _) (Nat.le_add_right _ _)))
      | j + 39, hj, ej => exact l_tsd (j + 39) E ej (by omega) hj (next S Sm g o f l5 l6 cells slots (lpI_m hI) (Nat.le_succ _) (Nat.le_add_right _ _))
end LLP

