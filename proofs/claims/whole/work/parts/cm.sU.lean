/-! ===== caught: by the first clause, or by the second behind a first that may be cold ===== -/
theorem pc_goNo {Q : Handler → Pre} {E : CtlPost} {e : Env} {d : Bool} {acts : List Action} {s : State} {f : JFrame} {a : Addr} {x : ExceptionTableEntry} {t : List ExceptionTableEntry} {c : ClassId} {cell : Cell} (hx : covers x f.pc = true) (h0 : x.catchType ≠ 0)
    (hl : s.vm.ClassLinks e.platform f.method.cls x.catchType c) (hcell : s.heap[a]? = some cell) (hobj : ∀ k, cell.vm ≠ .statics k)
    (hk : ∃ k, s.vm.classes[cell.cls]? = some k) (hc : ∃ k, s.vm.classes[c]? = some k) (hfit : s.vm.assignable cell.cls c = false) :
    Sem.wp (findHandler.go f a (x :: t)) Q E e d acts s ↔ Sem.wp (findHandler.go f a t) Q E e d acts (s.setVm (s.vm.noted f.method.cls x.catchType (.cls c))) := by
  simp only [covers] at hx
  obtain ⟨ha, ht⟩ := (resolveClass_links e.toSetting hl).op (op := VmOp.resolveClass f.method.cls x.catchType) rfl
  have hal : s.vm.Alike (s.vm.noted f.method.cls x.catchType (.cls c)) := (Vm.Alike.refl s.vm).noted _ _ _
  obtain ⟨k1, hk1⟩ := hk
  obtain ⟨k2, hk2⟩ := hc
  obtain ⟨k1', hk1', -⟩ := hal.2.2 _ _ hk1
  obtain ⟨k2', hk2', -⟩ := hal.2.2 _ _ hk2
  have hfit' : (s.vm.noted f.method.cls x.catchType (.cls c)).assignable cell.cls c = false := by rw [hal.assignable]; exact hfit
  simp [findHandler.go, hx, h0, ha, ht, hcell, hobj, hk1', hk2', hfit', VmOp.dirties, VmOp.acts]
section PCC
variable {p : Program} {l : Launch} {e : Env} {R : Room} {s : State} {m : MethodId} {args : Array Value} {below : List Frame} {meth : Method} {c : Code} {T : State} {locs : List Loc} {cells slots : Nat}
theorem pc_catch2 (X : Stand p l e R s m args below meth c T locs cells slots) (a : Addr) {g : JFrame} (hg : g.method = m) {own n1 n2 : String} (hown : s.vm.findClass own = some m.cls)
    (x1 x2 : ExceptionTableEntry) (hsplit : c.exceptionTable.toList = [x1, x2]) (h1 : covers x1 g.pc = true) (h2 : covers x2 g.pc = true) (h10 : x1.catchType ≠ 0) (h20 : x2.catchType ≠ 0)
    (hl1 : (Cond.classLink own x1.catchType n1).before args s = true) (hl2 : (Cond.classLink own x2.catchType n2).before args s = true) {c1 c2 : ClassId} {cell : Cell} (hc1 : s.vm.findClass n1 = some c1) (hc2 : s.vm.findClass n2 = some c2)
    (hcell : T.heap[a]? = some cell) (hobj : cell.vm.isStatics = false) (hno : s.vm.assignable cell.cls c1 = false) (hfit : s.vm.assignable cell.cls c2 = true) :
    ∃ vm', Stand p l e R s m args below meth c (T.setVm vm') locs cells slots ∧
      ∀ target, Steps p.tables e below ((T.setVm vm').setTop { g with pc := x2.handlerPc, stack := [.ref a] }) target → Steps p.tables e below ((T.setTop g).pushFrame (.throwing a)) target := by
  have hpl : e.platform.magicAccessors = ({} : Platform).magicAccessors := by rw [X.admits.platform]
  obtain ⟨c1', hc1', hcl1⟩ := Cond.classLink_spec hown hl1 e.platform hpl
  cases hc1.symm.trans hc1'
  obtain ⟨c2', hc2', hcl2⟩ := Cond.classLink_spec hown hl2 e.platform hpl
  cases hc2.symm.trans hc2'
  obtain ⟨dk1, _, _, kt1, hd1, _, _, _, _, hkt1, _, hopen1⟩ := hcl1.here
  obtain ⟨dk2, _, _, kt2, hd2, _, _, _, _, hkt2, _, hopen2⟩ := hcl2.here
  have hW1 : s.WarmedH (T.vm.noted m.cls x1.catchType (.cls c1)) := X.warmed.noted hd1 hopen1 (State.rightAt_cls hcl1)
  have hcl1' := X.warmed.classLinks hcl1
  have hcl2' := hW1.classLinks hcl2
  have hW2 : s.WarmedH ((T.vm.noted m.cls x1.catchType (.cls c1)).noted m.cls x2.catchType (.cls c2)) := hW1.noted hd2 hopen2 (State.rightAt_cls hcl2)
  obtain ⟨k1, hk1, -⟩ := X.warmed.alike.2.2 _ _ hkt1
  obtain ⟨k2, hk2, -⟩ := hW1.alike.2.2 _ _ hkt2
  obtain ⟨k3, hk3, -⟩ := X.warmed.alike.2.2 _ _ hkt2
  have hfT : T.vm.assignable cell.cls c2 = true := by rw [X.warmed.alike.assignable]; exact hfit
  have hf2 : (T.vm.noted m.cls x1.catchType (.cls c1)).assignable cell.cls c2 = true := by rw [hW1.alike.assignable]; exact hfit
  have hf1 : T.vm.assignable cell.cls c1 = false := by rw [X.warmed.alike.assignable]; exact hno
  have ho := VmData.ne_statics_of hobj
  refine ⟨_, X.noted hW2, fun target hrest => ?_⟩
  subst hg
  refine Steps.caughtTo X.here (vm' := (T.vm.noted g.method.cls x1.catchType (.cls c1)).noted g.method.cls x2.catchType (.cls c2)) (fun Q E d acts => ?_) hrest
  rw [_root_.Jvm.W.findHandler_eq (s := (T.setTop g).pushFrame (.throwing a)) (meth := meth) (code := c) X.method' X.code, hsplit]
  rw [pc_goNo (s := (T.setTop g).pushFrame (.throwing a)) (c := c1) (cell := cell) h1 h10 hcl1' hcell ho (Vm.classAt_of_assignable hfT ⟨k3, hk3⟩) ⟨k1, hk1⟩ hf1]
  exact _root_.Jvm.W.findHandler_go_link (s := ((T.setTop g).pushFrame (.throwing a)).setVm (T.vm.noted g.method.cls x1.catchType (.cls c1))) (c := c2) (cell := cell) h2 h20 hcl2' hcell ho (Vm.classAt_of_assignable hf2 ⟨k2, hk2⟩) ⟨k2, hk2⟩ hf2
theorem pc_catch1 (X : Stand p l e R s m args below meth c T locs cells slots) (a : Addr) {g : JFrame} (hg : g.method = m) {own n1 : String} (hown : s.vm.findClass own = some m.cls)
    (x1 x2 : ExceptionTableEntry) (hsplit : c.exceptionTable.toList = [x1, x2]) (h1 : covers x1 g.pc = true) (h10 : x1.catchType ≠ 0)
    (hl1 : (Cond.classLink own x1.catchType n1).before args s = true) {c1 : ClassId} {cell : Cell} (hc1 : s.vm.findClass n1 = some c1)
    (hcell : T.heap[a]? = some cell) (hobj : cell.vm.isStatics = false) (hfit : s.vm.assignable cell.cls c1 = true) :
    ∃ vm', Stand p l e R s m args below meth c (T.setVm vm') locs cells slots ∧
      ∀ target, Steps p.tables e below ((T.setVm vm').setTop { g with pc := x1.handlerPc, stack := [.ref a] }) target → Steps p.tables e below ((T.setTop g).pushFrame (.throwing a)) target := by
  obtain ⟨vm', X', st⟩ := X.caughtLink a hg hown [] x1 [x2] hsplit (fun y hy => nomatch hy) h1 h10 hl1 hc1 hcell hobj hfit
  exact ⟨vm', X', fun target hrest => by rw [X.pushThrowing_eq g a]; exact st target hrest⟩
end PCC

