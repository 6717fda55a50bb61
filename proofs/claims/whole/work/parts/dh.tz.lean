/-! ===== what holds at the law's start ===== -/
section LST
variable {args : Array Value} {s : State}
theorem ls_T (hts : ∀ w ∈ lw_tbl, w.before args s = true) : ∀ w ∈ ab_T, w.before args s = true := fun w hw => hts w (List.mem_filter.mp hw).1
theorem ls_cls (hts : ∀ w ∈ lw_tbl, w.before args s = true) : ∀ (ci : Nat) (q : vw_C), vwCl[ci]? = some q → ∃ (cC : ClassId) (iS : Nat → Nat), u_Kn s q.1 q.2.1 q.2.2 cC iS := by
  intro ci q h
  have key : ∀ n, Cond.instantiable q.1 n ∈ ab_T → ∃ (cC : ClassId) (iS : Nat → Nat), u_Kn s q.1 q.2.1 q.2.2 cC iS := fun n hn => u_known (ls_T hts) (cl_all ci q h).1 (ls_T hts _ hn)
  match ci, h with
  | 0, h => cases h; exact key _ IS_X0
  | 1, h => cases h; exact key _ IS_X1
  | 2, h => cases h; exact key _ IS_X2
  | 3, h => cases h; exact key _ IS_X3
  | 4, h => cases h; exact key _ IS_4
  | 5, h => cases h; exact key _ IS_5
  | 6, h => cases h; exact key _ IS_X6
  | 7, h => cases h; exact key _ IS_7
  | 8, h => cases h; exact key _ IS_X8
  | 9, h => cases h; exact key _ IS_X9
  | 10, h => cases h; exact key _ IS_X10
  | 11, h => cases h; exact key _ IS_X11
  | 12, h => cases h; exact key _ IS_X12
  | n + 13, h => simp [vwCl] at h
theorem ls_D (hts : ∀ w ∈ lw_tbl, w.before args s = true) : ∃ D : va_G, ∀ (ci : Nat) (q : vw_C), vwCl[ci]? = some q → u_Kn s q.1 q.2.1 q.2.2 (D.1 ci) (D.2 ci) := by
  have h0 : ∀ ci : Nat, ∃ x : ClassId × (Nat → Nat), ∀ q : vw_C, vwCl[ci]? = some q → u_Kn s q.1 q.2.1 q.2.2 x.1 x.2 := by
    intro ci
    cases hc : vwCl[ci]? with
    | none => exact ⟨(0, fun _ => 0), fun q h => by cases h⟩
    | some q =>
      obtain ⟨cC, iS, h⟩ := ls_cls hts ci q hc
      exact ⟨(cC, iS), fun q' h' => by cases h'; exact h⟩
  obtain ⟨F, hF⟩ := Classical.axiomOfChoice h0
  exact ⟨(fun ci => (F ci).1, fun ci => (F ci).2), fun ci q h => hF ci q h⟩
theorem ls_ao {Cn : String} (h : (Cond.arrayOver (.object Cn)).before args s = true) : ∃ cA : ClassId, ArrOfT s cA (.object Cn) ∧ va_RA s cA (.object Cn) := by
  obtain ⟨comp, cA, kA, f4, -, f2, f3, f1⟩ := Cond.arrayOver_spec h
  exact ⟨cA, fun N z => ⟨(fun k h => by cases h), kA, f2, comp, f3⟩, kA, comp, f2, f3, f4, f1⟩
theorem ls_nq {w : Cond} {j i : Nat} (hts : ∀ w ∈ lw_tbl, w.before args s = true) (hw : (tb_c j)[i]? = some w) (ho : w.onTables = true) : va_Nw w s := va_tabs ho rfl (hts _ (tb_c_in j _ (List.mem_of_getElem? hw)))
theorem ls_K (hts : ∀ w ∈ lw_tbl, w.before args s = true) : ∃ (D : va_G) (cA : Nat → ClassId), ∀ (l : Launch) (A : Nat → Prop) (ad : Nat → Nat), ab_K (l, D, cA, A, ad) s := by
  obtain ⟨D, hD⟩ := ls_D hts
  obtain ⟨a0, k0, m0, e0, f0, g0⟩ := Cond.arrayClass_spec (ls_T hts _ AC_i)
  obtain ⟨a1, k1, m1, e1, f1, g1⟩ := Cond.arrayClass_spec (ls_T hts _ AC_l)
  obtain ⟨a2, k2, m2, e2, f2, g2⟩ := Cond.arrayClass_spec (ls_T hts _ AC_z)
  have w3 : (Cond.arrayOver (.object "BoneEstate$Law")).before args s = true := hts _ (tb_c_in 1 _ (List.mem_of_getElem? (i := 136) rfl))
  have w4 : (Cond.arrayOver (.object "BoneEstate$Estate")).before args s = true := hts _ (tb_c_in 3 _ (List.mem_of_getElem? (i := 58) rfl))
  obtain ⟨a3, p3⟩ := ls_ao w3
  obtain ⟨a4, p4⟩ := ls_ao w4
  refine ⟨D, fun k => match k with | 0 => a0 | 1 => a1 | 2 => a2 | 3 => a3 | _ => a4, fun l A ad => ⟨⟨hD, fun k q h => ?_⟩, fun q hq => ?_, w3, w4⟩⟩
  · match k, h with
    | 0, h => cases h; exact ⟨fun n z => ⟨fun k h => (by cases h), k0, f0, m0, g0⟩, e0⟩
    | 1, h => cases h; exact ⟨fun n z => ⟨fun k h => (by cases h), k1, f1, m1, g1⟩, e1⟩
    | 2, h => cases h; exact ⟨fun n z => ⟨fun k h => (by cases h), k2, f2, m2, g2⟩, e2⟩
    | 3, h => cases h; exact p3
    | 4, h => cases h; exact p4
    | n + 5, h => simp [ab_tys] at h
  · simp only [ab_nq, List.mem_cons, List.not_mem_nil, or_false] at hq
    rcases hq with rfl | rfl | rfl | rfl | rfl | rfl
    · exact ls_nq (j := 1) (i := 131) hts rfl rfl
    · exact ls_nq (j := 2) (i := 218) hts rfl rfl
    · exact ls_nq (j := 3) (i := 9) hts rfl rfl
    · exact ls_nq (j := 2) (i := 40) hts rfl rfl
    · exact ls_nq (j := 1) (i := 138) hts rfl rfl
    · exact ls_nq (j := 2) (i := 32) hts rfl rfl
abbrev ls_tm : Term := .string "BoneEstate$Tape" 18
theorem ls_el : ∀ j, j < 120 → Cond.eq (.elem (.field ls_tm "java/lang/String" "value" "[B") (.int (Int32.ofNat j))) (.int (sx_L.getD j 0)) ∈ flatC (Jvm.Cond.and given_1 narrow_1) := by decide +kernel
theorem ls_Z {G : ab_G} (hts : ∀ w ∈ lw_tbl, w.before args s = true) (hnw : (Jvm.Cond.and given_1 narrow_1).before args s = true) (hA : ∀ a : Nat, a < s.heap.size → ¬ ab_A G a) : sx_Z G s := by
  have hs := flat_of_before _ hnw
  have z1 : va_Z "java/lang/String" "COMPACT_STRINGS" "Z" (.int 1) (ab_A G) s s.heap := va_Zof (args := args) (hts _ (tb_c_in 1 _ (List.mem_of_getElem? (i := 53) rfl))) (hts _ (tb_c_in 1 _ (List.mem_of_getElem? (i := 3) rfl))) (va_eqt (hs _ (by decide +kernel))) hA
  have z2 : va_Zq "jdk/internal/util/Preconditions" "SIOOBE_FORMATTER" "Ljava/util/function/BiFunction;" (ab_A G) s s.heap := va_Zqof (args := args) (hts _ (tb_c_in 1 _ (List.mem_of_getElem? (i := 69) rfl))) (hts _ (tb_c_in 1 _ (List.mem_of_getElem? (i := 5) rfl))) (hs _ (by decide +kernel)) hA
  have i0 : ∀ {i : Nat}, i < 1 → i = 0 := fun h => by omega
  obtain ⟨adK, adV, ⟨y1, -⟩, y2⟩ := vk_Sof (args := args) (s := s) (N := 1) (tm := fun _ => ls_tm) (len := [120]) (byt := [sx_L]) (A := ab_A G) (fun i hi => by rw [i0 hi]; decide) (fun i hi => hs _ (by decide +kernel)) (fun i hi => hs _ (by decide +kernel)) (fun i hi => hs _ (by decide +kernel)) (fun i hi => by rw [i0 hi]; exact hs _ (by decide +kernel)) (fun i hi j hj => by
    have e := i0 hi
    subst e
    exact hs _ (ls_el j hj)) (fun i j hi hj hij => absurd ((i0 hi).trans (i0 hj).symm) hij) hA
  obtain ⟨x1, x2, x3, x4⟩ := y1 0 (by decide)
  exact ⟨adK 0, adV 0, vk_R.of (hts _ (tb_c_in 1 _ (List.mem_of_getElem? (i := 43) rfl))) (y2 0 (by decide)), z1, z2, x1, x2, x3, x4⟩
theorem ls_sr {own tx : String} {k : Nat} (h1 : (Cond.stringRef own k tx).before args s = true) (h2 : (Cond.exactly (.string own k) "java/lang/String").before args s = true) : ∃ q, vk_R own k tx q s := by
  obtain ⟨a, cc, cA, kA, q1, -⟩ := Cond.exactly_spec (args := args) (first := s) (o := none) (s := s) (idx := []) (t := .string own k) (cls := "java/lang/String") h2
  exact ⟨a, vk_R.of h1 q1⟩
theorem ls_W (hts : ∀ w ∈ lw_tbl, w.before args s = true) (hnw : (Jvm.Cond.and given_1 narrow_1).before args s = true) : pc_Wl s := by
  have hs := flat_of_before _ hnw
  have hrf : ∀ w ∈ pc_rf, w.before args s = true := by
    intro w hw
    have hw2 : w ∈ flatC (Jvm.Cond.and given_1 narrow_1) := (show ∀ w ∈ pc_rf, w ∈ flatC (Jvm.Cond.and given_1 narrow_1) by decide +kernel) w hw
    exact hs _ hw2
  have hor : ∀ w, w ∈ lw_tbl ∨ w ∈ pc_rf → w.before args s = true := fun w h => h.elim (hts w) (hrf w)
  have b1 : ∀ w ∈ pc_w1, w.before args s = true := fun w hw => hor w (pc_in1 w hw)
  have b2 : ∀ w ∈ pc_w2, w.before args s = true := fun w hw => hor w (pc_in2 w hw)
  have b3 : ∀ w ∈ pc_w3, w.before args s = true := fun w hw => hor w (pc_in3 w hw)
  refine ⟨⟨pc_ride (State.WarmedH.refl s) (fun _ _ hy _ => hy) pc_w1_ride b1, pc_ride (State.WarmedH.refl s) (fun _ _ hy _ => hy) pc_w2_ride b2, ls_sr (hts _ (tb_c_in 6 _ (List.mem_of_getElem? (i := 179) rfl))) (hs _ (by decide +kernel)), ls_sr (hts _ (tb_c_in 6 _ (List.mem_of_getElem? (i := 214) rfl))) (hs _ (by decide +kernel))⟩, pc_ride (State.WarmedH.refl s) (fun _ _ hy _ => hy) pc_w3_ride b3, ?_⟩
  obtain ⟨c1, c1', h1, -, -⟩ := Cond.castable_spec (b1 (.castable pc_IO pc_IO) (List.mem_append_right _ (pc_oe 2 rfl)))
  obtain ⟨c2, c2', h2, -, -⟩ := Cond.castable_spec (b2 (.castable pc_NS pc_NS) (List.mem_append_right _ (pc_oe 2 rfl)))
  refine ⟨c1, c2, h1, h2, ?_⟩
  have h3 : (Cond.not (Cond.castable pc_NS pc_IO)).before args s = true := hs _ (by decide +kernel)
  simpa [Cond.before, Cond.holds, Cond.value, h1, h2] using h3
end LST

