/-! ===== the law calls its own piece ===== -/
theorem pc_cw {s U : State} {a a' : Array Value} (hW : s.WarmedH U.vm) (h : (Cond.codeWith yL_piece cL_piece 5 (some .int) pc_hs).before a s = true) : (Cond.codeWith yL_piece cL_piece 5 (some .int) pc_hs).before a' U = true := by
  have h1 := Cond.tabsOnly_warm (args' := a') (T := U) hW _ (by decide +kernel) h
  rwa [show U.setVm U.vm = U from by cases U; rfl] at h1
section PCY
variable {G : ab_G} {p : Program} {e : Env} {R : Room} {below : List Frame} {s : State} {sargs : Array Value}
theorem pc_backS {Pc : Array Value → State → Prop} {Qc : Array Value → State → Outcome → State → Prop} {free : Addr → Prop} (hM : Met G.1 yL_piece pc_ws (ab_rm 8 1 6) Pc Qc 1 6 free) (hblind : FrameBlind Pc) (hts : ∀ w ∈ ab_T, w.before sargs s = true)
    (hcw : (Cond.codeWith yL_piece cL_piece 5 (some .int) pc_hs).before sargs s = true) (hframes : 9 ≤ R.frames) (hlocals : 536 ≤ R.locals) : Back G.1 R p e below s sargs yL_piece 3 8 (PreOf R 1 6 Pc) (PostOf Qc 1 6 free) := by
  have gd : ∀ w ∈ ab_T, ∀ a' U, s.WarmedH U.vm → w.before a' U = true := fun w hw a' U hW => word_at hW (good_of_word (List.mem_filter.mp hw).2) (hts w hw)
  refine Back.of_freeWith (handlers := pc_hs) (S := headSpec pc_ws (ab_rm 8 1 6)) (P := Pc) (K := fun _ _ _ _ _ => True) (Q := fun a st o t => Qc a st o t ∧ ∃ L, FrameEnd st o t L 1 6 ∧ ∀ q ∈ L, free q.base) (bytes := cL_piece) (maxL := 5) (ret := some .int)
    (E := fun a st o t L k n => k = 1 ∧ n = 6 ∧ ∀ q ∈ L, free q.base) hM hframes (by show 8 + (5 + 11) + 64 * 8 ≤ R.locals; omega) ?_ ?_ (fun _ _ _ _ _ _ _ _ _ => trivial) ?_ ?_
  · intro m meth c A a X hp
    refine ⟨atoms_intro fun w h9 => ?_, pc_cw X.warmed hcw, gd _ IN_L _ _ X.warmed, hp.1, hp.2.1⟩
    rcases List.mem_cons.mp h9 with rfl | h9
    · exact pc_cw X.warmed hcw
    · exact gd _ h9 _ _ X.warmed
  · intro m meth c A a g mk X hp
    exact hblind _ _ _ _ hp.2.2
  · intro a st o t ⟨hq, L, hF, hL⟩
    exact ⟨L, 1, 6, hF, rfl, rfl, hL⟩
  · intro m meth c A a g mk v t L k n X hp hq hF ⟨e1, e2, hL⟩
    subst e1; subst e2
    exact ⟨g, mk, t, L, rfl, rfl, hq.1, rfl, hL, rfl, rfl⟩
variable {m : MethodId} {args : Array Value} {meth : Method} {c : Code} {M : ab_MD} {n0 : Nat} {Q : State → Prop} {cells slots pc : Nat} {L : List (Option Value)} {st : List Value} {h : ab_H}
theorem pc_call {idx : Nat} {as rest : List Value} {post : Option Value → ab_H → Prop} (C : ab_C G M p s m args meth c) (row : ab_lk M.2.2.2.2.2.2 pc = some (.invokestatic idx, 3)) (hm : ab_lk M.1.2.2.2.1 idx = some yL_piece) (hstt : Cond.static yL_piece ∈ ab_T) (hWl : pc_Wl s)
    (hns : ∀ (q : Nat) (cell : Cell), ab_A G q → s.heap[q]? = some cell → cell.vm.isStatics = false) (hM : Met G.1 yL_piece pc_ws (ab_rm 8 1 6) (fun v U => ab_Pc G false as h v U ∧ pc_Wl U) (ab_Q G false 1 post) 1 6 (ab_A G))
    (hst : st = as.reverse ++ rest) (hn : as.length = 4) (hsum : (rest.map fun v => v.category).sum ≤ 8) (hR : 9 ≤ R.frames ∧ 536 ≤ R.locals ∧ cells + 1 ≤ R.cells ∧ slots + 6 ≤ R.slots)
    (k : ∀ (r : Option Value) (h' : ab_H), post r h' → ab_R G M false n0 p e R s m args below meth c Q (cells + 1) (slots + 6) (pc + 3) L (r.toList ++ rest) h') : ab_R G M false n0 p e R s m args below meth c Q cells slots pc L st h := by
  intro H locs ls J hlv T hT X
  have I := ab_inv J hT X
  obtain ⟨hx, hb, hts, hown, hml, hnm, hK, hOM⟩ := id C
  have hcw : (Cond.codeWith yL_piece cL_piece 5 (some .int) pc_hs).before args s = true := pc_cw (State.WarmedH.refl s) (hWl.2.1 _ List.mem_cons_self)
  have hbl : FrameBlind (fun v U => ab_Pc G false as h v U ∧ pc_Wl U) := fun a U g mk q => ⟨ab_blind G false as h a U g mk q.1, q.2.go (U := U.calling g mk a) (State.WarmedH.refl U) (fun _ _ hy _ => hy)⟩
  refine ab_after (mc := 1) (ms := 6) (fr := false) (post := post) (a := (as.map (ab_v (ab_ad G))).toArray) (st0 := st.map (ab_v (ab_ad G))) (rest := rest) (fun T hT X => ?_) J hlv k T hT X
  obtain ⟨mk, methM, cM, hnamed, hmethM, -, -, -, -, -, -, hsigM⟩ := Cond.codeWith_spec hcw
  have hstatic : methM.isStatic = true := Cond.static_spec hnamed hmethM (hts _ hstt)
  obtain ⟨kP, hkP, -⟩ := className_of_methodNamed hnamed
  have hinitP : kP.init = .initialized := Cond.initialized_spec (findClass_of_methodNamed hnamed) hkP (hts _ IN_L)
  have hdg : decode c.code pc = .ok (.invokestatic idx, 3) := by rw [hb]; exact (hOM.2.2.2 _ (ab_lk_mem row)).1
  have hsg : (as.map (ab_v (ab_ad G))).length = methM.sig.parameters.length := by
    have h9 : (parseMethodDescriptor yL_piece.desc).map (fun d => d.parameters.length) = some 4 := by decide +kernel
    rw [hsigM] at h9
    rw [List.length_map, hn]
    exact (Option.some.inj h9).symm
  have hstk : st.map (ab_v (ab_ad G)) = (as.map (ab_v (ab_ad G))).reverse ++ rest.map (ab_v (ab_ad G)) := by rw [hst, List.map_append, List.map_reverse]
  obtain ⟨vm₁, X₁, hstep₁⟩ := X.invokestatic hx hown (hts _ (hOM.1.2.1 _ (ab_lk_mem hm))) hnamed hmethM hstatic hkP hinitP (show yL_piece.cls ≠ "java/lang/invoke/MethodHandle" ∧ yL_piece.cls ≠ "java/lang/invoke/VarHandle" by decide) (g := F0 m pc ls (st.map (ab_v (ab_ad G)))) rfl (argsL := as.map (ab_v (ab_ad G))) (rest := rest.map (ab_v (ab_ad G))) hsg hstk hdg
  have hpre : PreOf R 1 6 (fun v U => ab_Pc G false as h v U ∧ pc_Wl U) ⟨T.setVm vm₁, locs, cells, slots⟩ (as.map (ab_v (ab_ad G))).toArray := by
    refine ⟨hR.2.2.1, hR.2.2.2, ⟨rfl, ab_K_warm (U := T.setVm vm₁) X₁.warmed hK, by show ab_I G false h T.heap; rw [hT]; exact I⟩, hWl.go (U := T.setVm vm₁) X₁.warmed (fun y cy hy hs9 => ?_)⟩
    show T.heap[y]? = some cy
    rw [hT, J.2.2.1.2.1 y (Array.getElem?_eq_some_iff.mp hy).1 (fun hq => by have := hns y cy hq hy; rw [hs9] at this; cases this)]
    exact hy
  obtain ⟨v, ⟨U', l2, c2, s2⟩, X', ⟨g', mk', t, L9, e1, e2, hq, h1, hL, h2, h3⟩, hsteps⟩ := pc_backS (p := p) (e := e) (R := R) (below := below) (s := s) (sargs := args) hM hbl hts hcw hR.1 hR.2.1 m meth c ⟨T.setVm vm₁, locs, cells, slots⟩ (F0 m pc ls (rest.map (ab_v (ab_ad G)))) (.invokestatic idx) mk (as.map (ab_v (ab_ad G))).toArray X₁ rfl (hlv.1.trans hml.symm) hdg (by have := ab_cat_sum (ab_ad G) rest; show 2 * 0 + ((rest.map (ab_v (ab_ad G))).map fun v => v.category).sum ≤ 8; omega) (X₁.named hnamed) hpre
  dsimp only [Pt.U, Pt.locs, Pt.cells, Pt.slots] at X' e1 e2 h1 h2 h3 hsteps
  subst h1; subst h2; subst h3
  obtain ⟨⟨r, h', hv, hp, hI', -⟩, hF⟩ := hq
  exact ⟨v, (T.setVm vm₁).calling g' mk' (as.map (ab_v (ab_ad G))).toArray, t, U', L9, hT, X', hL, e1, e2, ⟨⟨r, h', hv, hp, hI', (fun q => by cases q)⟩, hF⟩, fun target h9 => hstep₁ _ fun acts => by rw [doInvoke_state]; exact hsteps.trans h9⟩
end PCY

