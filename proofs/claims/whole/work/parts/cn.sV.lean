/-! ===== the law's own piece: its rows; a call that throws ===== -/
def k_L_piece : List (Nat × Instr × Nat) :=
  [(0, .aload_n 3, 1), (1, .iconst 0, 1), (2, .aload_n 0, 1), (3, .iload_n 1, 1), (4, .iload_n 2, 1), (5, .invokevirtual 7, 3), (8, .i2l, 1), (9, .lastore, 1), (10, .goto 11, 3), (13, .astore 4, 2), (15, .iconst 1, 1), (16, .ireturn, 1), (17, .astore 4, 2), (19, .iconst 2, 1), (20, .ireturn, 1), (21, .iconst 0, 1), (22, .ireturn, 1)]
def M_L_piece : ab_MD := (K_L, yL_piece, cL_piece, 5, (some .int), false, k_L_piece)
theorem om_L_piece : ab_OM M_L_piece := ⟨OC_L, rfl, (fun q => by cases q), tb_rr_ok (by decide +kernel)⟩
def pc_hs : List (Nat × Nat × Nat × Nat) := [(0, 10, 13, 13), (0, 10, 17, 15)]
def pc_w3 : List Cond := [.codeWith yL_piece cL_piece 5 (some .int) pc_hs, .classLink RL 13 pc_IO, .classLink RL 15 pc_NS]
theorem pc_w3_ride : pc_w3.all Cond.ridesK = true := by decide +kernel
/-- the second exception is none of the first -/
def pc_no (U : State) : Prop := ∃ c1 c2 : ClassId, U.vm.findClass pc_IO = some c1 ∧ U.vm.findClass pc_NS = some c2 ∧ U.vm.assignable c2 c1 = false
theorem pc_no.go {s U : State} (hW : s.WarmedH U.vm) (h : pc_no s) : pc_no U := by
  obtain ⟨c1, c2, h1, h2, h3⟩ := h
  exact ⟨c1, c2, by rw [hW.alike.findClass]; exact h1, by rw [hW.alike.findClass]; exact h2, by rw [hW.alike.assignable]; exact h3⟩
def pc_Wl (U : State) : Prop := pc_Wd U ∧ (∀ w ∈ pc_w3, w.before #[] U = true) ∧ pc_no U
theorem pc_Wl.go {s U : State} (hW : s.WarmedH U.vm) (hk : StaticsKept s U) (h : pc_Wl s) : pc_Wl U := ⟨h.1.go hW hk, rideK_all hW hk pc_w3_ride h.2.1, h.2.2.go hW⟩
section PCV
variable {p : Program} {l : Launch} {e : Env} {R : Room} {s : State} {m : MethodId} {args : Array Value} {below : List Frame} {meth : Method} {c : Code} {T : State} {locs : List Loc} {cells slots : Nat}
theorem pc_callVT (X : Stand p l e R s m args below meth c T locs cells slots) (hexec : p.tables.exec = Jvm.exec) {own C : String} {index : Nat} {y : MethodName} {bytes : ByteArray} {maxL : Nat} {ret : Option FieldType}
    (hown : s.vm.findClass own = some m.cls) (hlink : (Cond.methodLink own index y).before args s = true) (hinst : (Cond.instanceMethod y).before args s = true) (hsel : (Cond.selects C y y).before args s = true)
    (hcode : (Cond.code y bytes maxL ret).before args s = true) (hy : y.cls ≠ "java/lang/invoke/MethodHandle" ∧ y.cls ≠ "java/lang/invoke/VarHandle")
    {W : Nat} {Pre : Pt → Array Value → Prop} {Post : Pt → Array Value → Addr → Pt → Prop} (hK : BackT l R p e below s args y 3 W Pre Post)
    {b : Addr} {cellB : Cell} (hcell : T.heap[b]? = some cellB) (hobj : cellB.vm.isStatics = false) (hcls : s.vm.findClass C = some cellB.cls)
    {g : JFrame} (hg : g.method = m) (hsize : g.locals.size = c.maxLocals) {argsL rest : List Value} (hlen : ∀ sig, parseMethodDescriptor y.desc = some sig → argsL.length = sig.parameters.length)
    (hstack : g.stack = argsL.reverse ++ .ref b :: rest) (hW : 2 * g.monitorRoom + (rest.map fun v => v.category).sum ≤ W) (hdg : decode c.code g.pc = .ok (.invokevirtual index, 3))
    (hpre : ∀ vm₁, s.WarmedH vm₁ → Pre ⟨T.setVm vm₁, locs, cells, slots⟩ (Value.ref b :: argsL).toArray) :
    ∃ (v : Addr) (vm₁ : Vm) (B : Pt), s.WarmedH vm₁ ∧ Stand p l e R s m args below meth c B.U B.locs B.cells B.slots ∧ Post ⟨T.setVm vm₁, locs, cells, slots⟩ (Value.ref b :: argsL).toArray v B ∧
      ∀ target, Steps p.tables e below ((B.U.setTop { g with stack := rest }).pushFrame (.throwing v)) target → Steps p.tables e below (T.setTop g) target := by
  obtain ⟨mk, methM, hnamed, hmethM, hstM, habM⟩ := Cond.instanceMethod_spec hinst
  obtain ⟨methM', cM, hmethM', -, -, -, -, -, -, hsigM⟩ := Cond.code_spec hnamed hcode
  cases hmethM.symm.trans hmethM'
  obtain ⟨c2, r2, m2, q1, q2, q3, q4, kP, hkP, hkPi⟩ := Cond.selects_spec hsel
  cases hcls.symm.trans q1
  cases (State.methodFound?_of_named hnamed hy).symm.trans q2
  cases hnamed.symm.trans q3
  have hselP : selectMethod e.platform s.vm cellB.cls mk = .method mk := by rw [Launch.admits_selectMethod X.admits]; exact q4
  obtain ⟨vm₁, X₁, hstep₁⟩ := X.invokevirtual hexec hown hlink hnamed hmethM hstM hkP hkPi hy (a := b) (cell := cellB) hcell
    (fun z h => by rw [h] at hobj; cases hobj) hselP hmethM habM hkP hkPi (g := g) hg (argsL := argsL) (rest := rest) (hlen _ hsigM) hstack hdg
  obtain ⟨v, B, X', hpost, hsteps⟩ := hK m meth c ⟨T.setVm vm₁, locs, cells, slots⟩ { g with stack := rest } (.invokevirtual index) mk (Value.ref b :: argsL).toArray X₁ hg hsize hdg hW (X₁.named hnamed) (hpre vm₁ X₁.warmed)
  exact ⟨v, vm₁, B, X₁.warmed, X', hpost, fun target h => hstep₁ _ fun acts => by rw [doInvoke_state]; exact hsteps.trans h⟩
end PCV
/-- what a thrown call says of the caller's point -/
def pc_Post (G : ab_G) (h : ab_H) (cls : String) (mc ms : Nat) : Pt → Array Value → Addr → Pt → Prop := fun A _ a B =>
  va_P G.2.1 vwCl (ab_W G h) B.U.heap ∧ va_F (ab_A G) A.U B.U ∧ A.U.heap.size ≤ a ∧ (∃ ce : Cell, B.U.heap[a]? = some ce ∧ ce.vm = .none ∧ A.U.vm.findClass cls = some ce.cls) ∧ ∃ L, B.locs = A.locs ++ L ∧ (∀ q ∈ L, ab_A G q.base) ∧ B.cells = A.cells + mc ∧ B.slots = A.slots + ms
section PCB
variable {p : Program} {e : Env} {R : Room} {below : List Frame} {s : State} {sargs : Array Value} {G : ab_G} {tl : ab_H} {S : ms_S}
theorem pc_back {x w : Int32} {cls : String} (hM : pc_Met G tl S x w cls) (hts : ∀ w ∈ ab_T, w.before sargs s = true) (hframes : 7 ≤ R.frames) (hlocals : 406 ≤ R.locals) :
    BackT G.1 R p e below s sargs M_X11_piece.2.1 3 8 (PreOf R 1 6 (fun v U => ab_Pc G false [.ref 0, .int x, .int w] (hLy lB S tl) v U ∧ pc_Wd U)) (pc_Post G (hLy lB S tl) cls 1 6) := by
  have hw : ∀ w ∈ ab_ws M_X11_piece, ∀ a' U, s.WarmedH U.vm → w.before a' U = true := by
    intro w hw a' U hW
    have hg := ab_good o_X11_piece w hw
    exact word_at hW hg.2 (hts w hg.1)
  refine BackT.of_free (S := headSpec (ab_ws M_X11_piece) (ab_rm 6 1 6)) (bytes := M_X11_piece.2.2.1) (maxL := M_X11_piece.2.2.2.1) (ret := M_X11_piece.2.2.2.2.1) (E := fun a st o t L k n => k = 1 ∧ n = 6 ∧ ∀ q ∈ L, ab_A G q.base) hM hframes (by show 8 + (3 + 11) + 64 * 6 ≤ R.locals; omega) ?_ ?_ (fun _ _ _ _ _ _ _ _ _ => trivial) ?_ ?_
  · intro m meth c A a X hp
    refine ⟨atoms_intro fun w h9 => hw w h9 _ _ X.warmed, hw _ List.mem_cons_self _ _ X.warmed, ?_, hp.1, hp.2.1⟩
    have hi : Cond.initialized M_X11_piece.2.1.cls ∈ ab_T := o_X11_piece.2.2.1
    exact word_at X.warmed (good_of_word (List.mem_filter.mp hi).2) (hts _ hi)
  · intro m meth c A a g mk X hp
    exact ⟨ab_blind G false _ _ a A.U g mk hp.2.2.1, hp.2.2.2.go (U := A.U.calling g mk a) (State.WarmedH.refl A.U) (fun _ _ hy _ => hy)⟩
  · rintro a st o t ⟨v, rfl, h1, h2, h3, h4, L, hF, hL⟩
    exact ⟨L, 1, 6, hF, rfl, rfl, hL⟩
  · rintro m meth c A a g mk v t L k n X hp ⟨v', e9, h1, h2, h3, h4, -⟩ hF ⟨rfl, rfl, hL⟩
    cases e9
    exact ⟨h1, h2, h3, h4, L, rfl, hL, rfl, rfl⟩
end PCB

