/-! ===== the law's own piece: its rows; a call that throws ===== -/
def k_L_piece : List (Nat × Instr × Nat) :=
  [(0, .aload_n 3, 1), (1, .iconst 0, 1), (2, .aload_n 0, 1), (3, .iload_n 1, 1), (4, .iload_n 2, 1), (5, .invokevirtual 7, 3), (8, .i2l, 1), (9, .lastore, 1), (10, .goto 11, 3), (13, .astore 4, 2), (15, .iconst 1, 1), (16, .ireturn, 1), (17, .astore 4, 2), (19, .iconst 2, 1), (20, .ireturn, 1), (21, .iconst 0, 1), (22, .ireturn, 1)]
def M_L_piece : ab_MD := (K_L, yL_piece, cL_piece, 5, (some .int), false, k_L_piece)
theorem om_L_piece : ab_OM M_L_piece := ⟨OC_L, rfl, (fun q => by cases q), tb_rr_ok (by decide +kernel)⟩
def pc_hs : List (Nat × Nat × Nat × Nat) := [(0, 10, 13, 13), (0, 10, 17, 15)]
def pc_w3 : List Cond := [.codeWith yL_piece cL_piece 5 (some .int) pc_hs, .classLink RL 13 pc_IO, .classLink RL 15 pc_NS]
theorem pc_w3_ride : pc_w3.all pc_rd = true := by decide +kernel
/-- the second exception is none of the first -/
def pc_no (U : State) : Prop := ∃ c1 c2 : ClassId, U.vm.findClass pc_IO = some c1 ∧ U.vm.findClass pc_NS = some c2 ∧ U.vm.assignable c2 c1 = false
theorem pc_no.go {s U : State} (hW : s.WarmedH U.vm) (h : pc_no s) : pc_no U := by
  obtain ⟨c1, c2, h1, h2, h3⟩ := h
  exact ⟨c1, c2, by rw [hW.alike.findClass]; exact h1, by rw [hW.alike.findClass]; exact h2, by rw [hW.alike.assignable]; exact h3⟩
def pc_Wl (U : State) : Prop := pc_Wd U ∧ (∀ w ∈ pc_w3, w.before #[] U = true) ∧ pc_no U
theorem pc_Wl.go {s U : State} (hW : s.WarmedH U.vm) (hk : pc_sk s U) (h : pc_Wl s) : pc_Wl U := ⟨h.1.go hW hk, pc_ride hW hk pc_w3_ride h.2.1, h.2.2.go hW⟩
/-- what a call of piece that throws leaves of the caller's walk -/
def pc_Thr (G : ab_G) (h : ab_H) (x w : Int32) (cls : String) (p : Program) (e : Env) (R : Room) (below : List Frame) (s : State) (sargs : Array Value) : Prop :=
  ∀ (m : MethodId) (meth : Method) (c : Code) (T : State) (locs : List Loc) (cells slots : Nat) (g : JFrame) (ig : Instr) (mk : MethodId) (a : Array Value),
    Stand p G.1 e R s m sargs below meth c T locs cells slots → g.method = m → g.locals.size = c.maxLocals → decode c.code g.pc = .ok (ig, 3) → 2 * g.monitorRoom + (g.stack.map fun v => v.category).sum ≤ 8 →
    T.methodNamed? M_X11_piece.2.1 = some mk → cells + 1 ≤ R.cells → slots + 6 ≤ R.slots → ab_Pc G false [.ref 0, .int x, .int w] h a T → pc_Wd T →
    ∃ (v : Nat) (U : State) (L : List Loc), Stand p G.1 e R s m sargs below meth c U (locs ++ L) (cells + 1) (slots + 6) ∧ va_P G.2.1 vwCl (ab_W G h) U.heap ∧ va_F (ab_A G) T U ∧ T.heap.size ≤ v ∧
      (∃ ce : Cell, U.heap[v]? = some ce ∧ ce.vm = .none ∧ T.vm.findClass cls = some ce.cls) ∧ (∀ q ∈ L, ab_A G q.base) ∧
      Steps p.tables e below (doInvoke e (T.setTop g) [] mk a).1 ((U.setTop g).pushFrame (.throwing v))
section PCB
variable {p : Program} {e : Env} {R : Room} {below : List Frame} {s : State} {sargs : Array Value} {G : ab_G} {tl : ab_H} {S : ms_S}
theorem pc_back {x w : Int32} {cls : String} (hM : pc_Met G tl S x w cls) (hts : ∀ w ∈ ab_T, w.before sargs s = true) (hframes : 7 ≤ R.frames) (hlocals : 406 ≤ R.locals) : pc_Thr G (hLy lB S tl) x w cls p e R below s sargs := by
  intro m meth c T locs cells slots g ig mk a X hg hsize hdg hW hn hc hs hp hd
  subst hg
  have hw : ∀ w ∈ ab_ws M_X11_piece, ∀ a' U, s.WarmedH U.vm → w.before a' U = true := by
    intro w hw a' U hWU
    have hq := ab_good o_X11_piece w hw
    exact word_at hWU hq.2 (hts w hq.1)
  obtain ⟨methY, cY, hmY, hcY, -, hlY, -, -, -, -⟩ := Cond.code_spec hn (hw _ List.mem_cons_self a T X.warmed)
  obtain ⟨kY, hkY, -⟩ := className_of_methodNamed hn
  have hi : Cond.initialized M_X11_piece.2.1.cls ∈ ab_T := o_X11_piece.2.2.1
  have hin : (Cond.initialized M_X11_piece.2.1.cls).before a T = true := word_at X.warmed (good_of_word (List.mem_filter.mp hi).2) (hts _ hi)
  have hinit : kY.init = .initialized := Cond.initialized_spec (findClass_of_methodNamed hn) hkY hin
  have happ : (headSpec (ab_ws M_X11_piece) (ab_rm 6 1 6)).appliesLoose M_X11_piece.2.1 e.platform (T.calling g mk a) = true :=
    Spec.appliesLoose_calling X.here hdg hn hkY hinit (X.room_calling (R' := ab_rm 6 1 6) hsize hmY hcY hframes (by rw [hlY]; show 2 * g.monitorRoom + (g.stack.map fun v => v.category).sum + (3 + 11) + 64 * 6 ≤ R.locals; omega) hc hs) (atoms_intro fun w h9 => hw w h9 _ _ X.warmed)
  obtain ⟨g0, hfr⟩ := X.frames_eq
  have hfT : (T.setTop g).frames = [.java g] ++ below := State.frames_setTop g hfr
  obtain ⟨o, t, st, -, hend, v, ho, hP, hF, hv, hce, L, ⟨hWt, e2, f2, f3, f4, f5, f6⟩, hL⟩ := Steps.callFree hM p X.admits X.cas X.clock (acts := []) hfT happ ⟨ab_blind G false _ _ a T g mk hp, hd.go (U := T.calling g mk a) (State.WarmedH.refl T) (fun _ _ hy _ => hy)⟩ trivial
  subst ho
  have hft : t.frames = .throwing v :: .java g :: below := by
    have h9 : t.frames = .throwing v :: (T.setTop g).frames := hend
    rw [h9, hfT]
    rfl
  have hWt' : T.WarmedH t.vm := hWt
  have e4 : ((T.setTop g).pushFrame (.invoking mk a)).setFrames t.frames = T.setFrames (.throwing v :: .java g :: below) := by
    show (T.calling g mk a).setFrames t.frames = _
    rw [State.calling_eq X.here.top, State.setFrames_setFrames, hft]
  have hU : t = (((({ T with heap := t.heap, slotsUsed := t.slotsUsed } : State).setVm t.vm).setTop g).pushFrame (.throwing v)) := by
    have hfU : (({ T with heap := t.heap, slotsUsed := t.slotsUsed } : State).setVm t.vm).frames = .java g0 :: below := hfr
    rw [State.pushFrame, State.frames_setTop _ hfU, State.setTop_of_frames _ hfU, State.setFrames_setFrames]
    have h1 : t = ({ t with vm := ((T.setTop g).pushFrame (.invoking mk a)).vm } : State).setVm t.vm := rfl
    refine h1.trans ?_
    rw [e2]
    show ({ ((T.setTop g).pushFrame (.invoking mk a)).setFrames t.frames with heap := t.heap, slotsUsed := t.slotsUsed } : State).setVm t.vm = _
    rw [e4]
    rfl
  obtain ⟨t1, ht1, -⟩ := State.frames_cons hfr
  have hsame : T.sameButNew ((({ T with heap := t.heap, slotsUsed := t.slotsUsed } : State).setVm t.vm).setVm T.vm) L 1 6 := by
    refine ⟨?_, f2, f3, f4, f5, f6⟩
    show ({ T with heap := t.heap, slotsUsed := t.slotsUsed } : State) = { T.setFrames T.frames with heap := t.heap, slotsUsed := t.slotsUsed }
    rw [State.setFrames_self ht1]
  refine ⟨v, ({ T with heap := t.heap, slotsUsed := t.slotsUsed } : State).setVm t.vm, L, X.moved ((X.here.setHeapUsed t.heap t.slotsUsed).setVm hWt'.alike) X.tail rfl rfl hWt' hsame, hP, hF, hv, hce, hL, ?_⟩
  rw [← hU]
  exact st
end PCB
section PCV
variable {p : Program} {e : Env} {R : Room} {s : State} {m : MethodId} {args : Array Value} {below : List Frame} {meth : Method} {c : Code} {T : State} {locs : List Loc} {cells slots : Nat} {G : ab_G} {h : ab_H}
/-- the call of piece from the law's own piece, where it throws -/
theorem pc_callVT {x w : Int32} {cls : String} (X : Stand p G.1 e R s m args below meth c T locs cells slots) (hexec : p.tables.exec = Jvm.exec) (hB : pc_Thr G h x w cls p e R below s args) {own : String} {index : Nat}
    (hown : s.vm.findClass own = some m.cls) (hlink : (Cond.methodLink own index M_X11_piece.2.1).before args s = true) (hinst : (Cond.instanceMethod M_X11_piece.2.1).before args s = true) (hsel : (Cond.selects M_X11_piece.2.1.cls M_X11_piece.2.1 M_X11_piece.2.1).before args s = true)
    (hcode : (Cond.code M_X11_piece.2.1 M_X11_piece.2.2.1 M_X11_piece.2.2.2.1 M_X11_piece.2.2.2.2.1).before args s = true) (hy : M_X11_piece.2.1.cls ≠ "java/lang/invoke/MethodHandle" ∧ M_X11_piece.2.1.cls ≠ "java/lang/invoke/VarHandle")
    {b : Addr} {cellB : Cell} (hcell : T.heap[b]? = some cellB) (hobj : cellB.vm.isStatics = false) (hcls : s.vm.findClass M_X11_piece.2.1.cls = some cellB.cls)
    {g : JFrame} (hg : g.method = m) (hsize : g.locals.size = c.maxLocals) {argsL rest : List Value} (hlen : ∀ sig, parseMethodDescriptor M_X11_piece.2.1.desc = some sig → argsL.length = sig.parameters.length)
    (hstack : g.stack = argsL.reverse ++ .ref b :: rest) (hW : 2 * g.monitorRoom + (rest.map fun v => v.category).sum ≤ 8) (hdg : decode c.code g.pc = .ok (.invokevirtual index, 3)) (hc : cells + 1 ≤ R.cells) (hs : slots + 6 ≤ R.slots)
    (hpre : ∀ vm₁, s.WarmedH vm₁ → ab_Pc G false [.ref 0, .int x, .int w] h (Value.ref b :: argsL).toArray (T.setVm vm₁) ∧ pc_Wd (T.setVm vm₁)) :
    ∃ (v : Nat) (vm₁ : Vm) (U : State) (L : List Loc), s.WarmedH vm₁ ∧ Stand p G.1 e R s m args below meth c U (locs ++ L) (cells + 1) (slots + 6) ∧ va_P G.2.1 vwCl (ab_W G h) U.heap ∧ va_F (ab_A G) (T.setVm vm₁) U ∧ (T.setVm vm₁).heap.size ≤ v ∧
      (∃ ce : Cell, U.heap[v]? = some ce ∧ ce.vm = .none ∧ (T.setVm vm₁).vm.findClass cls = some ce.cls) ∧ (∀ q ∈ L, ab_A G q.base) ∧
      ∀ target, Steps p.tables e below ((U.setTop { g with stack := rest }).pushFrame (.throwing v)) target → Steps p.tables e below (T.setTop g) target := by
  obtain ⟨mk, methM, hnamed, hmethM, hstM, habM⟩ := Cond.instanceMethod_spec hinst
  obtain ⟨methM', cM, hmethM', -, -, -, -, -, -, hsigM⟩ := Cond.code_spec hnamed hcode
  cases hmethM.symm.trans hmethM'
  obtain ⟨c2, r2, m2, q1, q2, q3, q4, kP, hkP, hkPi⟩ := Cond.selects_spec hsel
  cases hcls.symm.trans q1
  cases (State.methodFound?_of_named hnamed hy).symm.trans q2
  cases hnamed.symm.trans q3
  have hselP : selectMethod e.platform s.vm cellB.cls mk = .method mk := by rw [Launch.admits_selectMethod X.admits]; exact q4
  obtain ⟨vm₁, X₁, hstep₁⟩ := X.invokevirtual hexec hown hlink hnamed hmethM hstM hkP hkPi hy (a := b) (cell := cellB) hcell
    (fun z h => by rw [h] at hobj; cases hobj) hselP hmethM habM hkP hkPi (g := g) hg (argsL := argsL) (rest := rest) (hlen _ hsigM) hstack hdg
  obtain ⟨v, U, L, X', k1, k2, k3, k4, k5, hsteps⟩ := hB m meth c (T.setVm vm₁) locs cells slots { g with stack := rest } (.invokevirtual index) mk (Value.ref b :: argsL).toArray X₁ hg hsize hdg hW (X₁.named hnamed) hc hs (hpre vm₁ X₁.warmed).1 (hpre vm₁ X₁.warmed).2
  exact ⟨v, vm₁, U, L, X₁.warmed, X', k1, k2, k3, k4, k5, fun target h => hstep₁ _ fun acts => by rw [doInvoke_state]; exact hsteps.trans h⟩
end PCV

