/-! ===== words that last while an exception is made, thrown and caught ===== -/
/-- the cells of statics are as they were -/
def pc_sk (s U : State) : Prop := ∀ (q : Nat) (cell : Cell), s.heap[q]? = some cell → cell.vm.isStatics = true → U.heap[q]? = some cell
/-- words that hold on where the tables are warmer and the statics' cells as they were -/
def pc_rd : Cond → Bool
  | .laysStatic _ _ _ => true
  | .isRef (.static _ _ _) => true
  | w => w.tabsOnly
section PCK
variable {s U : State} {a a' : Array Value}
theorem pc_rdL (hW : s.WarmedH U.vm) (hk : pc_sk s U) {C n d : String} (h : (Cond.laysStatic C n d).before a s = true) : (Cond.laysStatic C n d).before a' U = true := by
  obtain ⟨q1, q2, q3, q4, q5, q6, b1, b2, b3, b4, b5, b6, b7, b8, b9⟩ := Cond.laysStatic_spec h
  obtain ⟨q7, b0, e0⟩ := State.fieldFound?_setVm hW.alike b2
  have c4 : q7.statics = some q5 := by rw [e0]; exact b4
  have c9 : q7.staticTypes[q4.slot]? = some q4.type := by rw [e0]; exact b9
  exact Cond.laysStatic_of (s := U) ((hW.alike.findClass _ _).trans b1) b0 b3 c4 (hk _ _ b5 b6) b6 b7 b8 c9
theorem pc_rdR (hW : s.WarmedH U.vm) (hk : pc_sk s U) {C n d : String} (h : (Cond.isRef (.static C n d)).before a s = true) : (Cond.isRef (.static C n d)).before a' U = true := by
  have key : ∀ v : Value, (Term.static C n d).eval a s none [] s = some v → (Term.static C n d).eval a' U none [] U = some v := by
    intro v hv
    cases b2 : s.fieldFound? C n d with
    | none => simp [Term.eval, State.fieldNamed?, b2] at hv
    | some z =>
      obtain ⟨q1, q2, q3, q4⟩ := z
      obtain ⟨b3, q5, q6, b4, b5, -, b8⟩ := Term.static_spec b2 hv
      have b6 : q6.vm.isStatics = true := by
        cases hb : q6.vm.isStatics with
        | true => rfl
        | false => simp [Term.eval, State.fieldNamed?, b2, b3, b4, b5, hb] at hv
      obtain ⟨q7, b0, e0⟩ := State.fieldFound?_setVm hW.alike b2
      have c4 : q7.statics = some q5 := by rw [e0]; exact b4
      exact Term.static_eval (s := U) b0 b3 c4 (hk _ _ b5 b6) b6 b8
  cases hv : (Term.static C n d).eval a s none [] s with
  | none => simp [Cond.before, Cond.holds, Cond.value, hv] at h
  | some v =>
    have hu := key v hv
    simp only [Cond.before, Cond.holds, Cond.value, hv, hu] at h ⊢
    exact h
theorem pc_ride (hW : s.WarmedH U.vm) (hk : pc_sk s U) {A : List Cond} (hA : A.all pc_rd = true) (h : ∀ w ∈ A, w.before a s = true) : ∀ w ∈ A, w.before a' U = true := by
  intro w hw
  have h1 := List.all_eq_true.mp hA w hw
  have h2 := h w hw
  have h3 : w.tabsOnly = true → w.before a' U = true := fun z => by
    have h4 := Cond.tabsOnly_warm (args' := a') (T := U) hW w z h2
    rwa [show U.setVm U.vm = U from by cases U; rfl] at h4
  revert h1
  unfold pc_rd
  split
  · exact fun _ => pc_rdL hW hk h2
  · exact fun _ => pc_rdR hW hk h2
  · exact h3
end PCK

/-! ===== the words of 'new X; dup; ldc; X.<init>(String); athrow', X two steps below Exception's Throwable ===== -/
def pc_u1 : String := "java/lang/RuntimeException"
def pc_u2 : String := "java/lang/Exception"
/-- X's own constructor, and those above it -/
def pc_ctor (cls : String) (ix : Nat) (rx : ByteArray) : List Cond := Bundle.passSAtoms cls pc_u1 ix rx ++ Bundle.chainSAtoms pc_u1 [pc_u2]
/-- what else the library's own law of such a throw asks -/
def pc_end (own cls : String) (ic : Nat) : List Cond := (Bundle.ownAtoms own ic cls []).drop 33
def pc_own (own : String) (ic : Nat) (cls : String) (ix : Nat) (rx : ByteArray) : List Cond := Bundle.throwableAtoms ++ (Bundle.throwableSAtoms ++ (pc_ctor cls ix rx ++ pc_end own cls ic))
theorem pc_oe {own cls : String} {ic ix : Nat} {rx : ByteArray} {w : Cond} (k : Nat) (h : (pc_end own cls ic)[k]? = some w) : w ∈ pc_own own ic cls ix rx :=
  List.mem_append_right _ (List.mem_append_right _ (List.mem_append_right _ (List.mem_of_getElem? h)))
theorem pc_chain {args : Array Value} {s : State} {pl : Platform} (hpl : pl.magicAccessors = ({} : Platform).magicAccessors) {top : MethodId} (htop : s.methodNamed? (Bundle.initS Bundle.tN) = some top) {cls : String} {ix : Nat} {rx : ByteArray} (hcls : Bundle.fit cls = true)
    (x0 : decode rx 0 = .ok (.aload_n 0, 1)) (x1 : decode rx 1 = .ok (.aload_n 1, 1)) (x2 : decode rx 2 = .ok (.invokespecial ix, 3)) (x5 : decode rx 5 = .ok (.return_, 1)) (h : ∀ w ∈ pc_ctor cls ix rx, w.before args s = true) :
    ∃ (P1 : PassC) (Ps : List PassC), Ps.length = 2 ∧ (∀ P ∈ P1 :: Ps, P.LinksS pl s) ∧ s.methodNamed? (Bundle.initS cls) = some P1.m ∧ PassesOn top ((P1 :: Ps).map (·.toPassT)) := by
  obtain ⟨P1, k1, k2, k3⟩ := PassC.ofS_atoms (args := args) (s := s) hpl (X := cls) (Y := pc_u1) (Bundle.fit_spec hcls).1 (by decide) x0 x1 x2 x5 (fun w hw => h w (List.mem_append_left _ hw))
  obtain ⟨P2, Ps, k4, k5, k6, k7, k8, k9⟩ := Bundle.chainS (args := args) hpl htop [pc_u2] pc_u1 (by decide +kernel) (by decide +kernel) (fun w hw => h w (List.mem_append_right _ hw))
  refine ⟨P1, P2 :: Ps, by rw [List.length_cons, k4]; rfl, ?_, k2, Option.some.inj (k3.symm.trans k7), k8, k9⟩
  intro P hP
  rcases List.mem_cons.mp hP with rfl | hP
  · exact k1
  · rcases List.mem_cons.mp hP with rfl | hP
    · exact k5
    · exact k6 P hP

/-! ===== an exception of its own, made and thrown in a launch without traces: from the constructor's call on ===== -/
section PCT
variable {p : Program} {l : Launch} {e : Env} {R : Room} {s : State} {m : MethodId} {args : Array Value} {below : List Frame} {meth : Method} {c : Code} {U0 : State} {locs : List Loc} {cells slots : Nat}
set_option maxHeartbeats 2000000 in
theorem pc_thrown (X : Stand p l e R s m args below meth c U0 locs cells slots) (hexec : p.tables.exec = Jvm.exec) (htr : e.platform.stackTraces = false) {own cls : String} {ic ix : Nat} {rx : ByteArray}
    (x0 : decode rx 0 = .ok (.aload_n 0, 1)) (x1 : decode rx 1 = .ok (.aload_n 1, 1)) (x2 : decode rx 2 = .ok (.invokespecial ix, 3)) (x5 : decode rx 5 = .ok (.return_, 1))
    (hown : s.vm.findClass own = some m.cls) (hcls : Bundle.fit cls = true) (h : ∀ w ∈ pc_own own ic cls ix rx, w.before args s = true)
    (hlocs : ∀ x ∈ locs, ∀ cell, s.heap[x.base]? = some cell → cell.vm.isStatics = false)
    {a : Addr} {cX : ClassId} {kX : Class} (hfoundX : s.vm.findClass cls = some cX) (hkX : s.vm.classes[cX]? = some kX) (hcell : U0.heap[a]? = some (freshCell cX kX)) (hnew : s.heap.size ≤ a)
    {msg : Value} (hmsg : msg.isRef = true) {g : JFrame} (hg : g.method = m) (hsize : g.locals.size = c.maxLocals) (hlocked : g.locked = none) (hentered : g.entered = []) {rest : List Value} (hstack : g.stack = msg :: .ref a :: .ref a :: rest)
    (hd6 : decode c.code g.pc = .ok (.invokespecial ic, 3)) (hd9 : decode c.code (g.pc + 3) = .ok (.athrow, 1)) (hout : ∀ x ∈ c.exceptionTable.toList, covers x (g.pc + 3) = false)
    (hRf : 5 < R.frames) (hRl : 2 * g.monitorRoom + ((Value.ref a :: rest).map fun v => v.category).sum + 81 ≤ R.locals) (hlocks : meth.locks = false) :
    ∃ U : State, Steps p.tables e below (U0.setTop g) U ∧ U.status = .running ∧ Ended U below (.threw a) ∧ s.WarmedH U.vm ∧ s.sameButNew ({ U with vm := s.vm } : State) locs cells slots ∧
      (∃ ce, U.heap[a]? = some ce ∧ ce.cls = cX ∧ ce.vm = .none) ∧ U.heap.size = U0.heap.size ∧ ∀ q : Nat, q ≠ a → U.heap[q]? = U0.heap[q]? := by
  have hpl : e.platform.magicAccessors = ({} : Platform).magicAccessors := by rw [X.admits.platform]
  have b : ∀ x, x ∈ pc_own own ic cls ix rx → x.holds args s none s [] = true := fun x hx => h x hx
  obtain ⟨T, Z0, L, -, Y⟩ := ThrowableC.of_atoms (args := args) (s := s) (pl := e.platform) (by rw [X.admits.platform]) (by rw [X.admits.platform]) hpl (fun x hx => h x (List.mem_append_left _ hx))
  obtain ⟨Z, M, LZ, LM, hnZ⟩ := Init0T.ofS_atoms (args := args) hpl L Y (fun x hx => h x (List.mem_append_right _ (List.mem_append_left _ hx)))
  have hctor : ∀ w ∈ pc_ctor cls ix rx, w.before args s = true := fun w hw => h w (List.mem_append_right _ (List.mem_append_right _ (List.mem_append_left _ hw)))
  obtain ⟨P1, Ps, hlen, hL, hP1m, hlink⟩ := pc_chain (args := args) hpl hnZ hcls x0 x1 x2 x5 hctor
  have hfound : s.vm.findClass cls = some P1.m.cls := findClass_of_methodNamed hP1m
  cases Option.some.inj (hfoundX.symm.trans hfound)
  obtain ⟨c1, kX', hc1, hk, hord, -, -, hn6⟩ := Cond.instantiable_spec (b (.instantiable cls 6) (pc_oe 1 rfl))
  cases Option.some.inj (hc1.symm.trans hfound)
  cases Option.some.inj (hkX.symm.trans hk)
  have sel : ∀ (y : MethodName) (k : MethodId), s.methodNamed? y = some k → (y.cls ≠ "java/lang/invoke/MethodHandle" ∧ y.cls ≠ "java/lang/invoke/VarHandle") → (Cond.selects cls y y).holds args s none s [] = true → selectMethod e.platform s.vm P1.m.cls k = .method k := by
    intro y k hy hyn hw
    obtain ⟨c2, r2, m2, q1, q2, q3, q4, -⟩ := Cond.selects_spec hw
    cases Option.some.inj (q1.symm.trans hfound)
    cases Option.some.inj (q2.symm.trans (State.methodFound?_of_named hy hyn))
    cases Option.some.inj (q3.symm.trans hy)
    rw [Launch.admits_selectMethod X.admits]; exact q4
  have hsel0 := sel Bundle.tFill0 T.fill0 Y.fill0 (by decide) (b _ (pc_oe 3 rfl))
  have hselF := sel Bundle.tFill T.fill Y.fill (by decide) (b _ (pc_oe 4 rfl))
  obtain ⟨cellS0, hcS0, hiss⟩ := Y.statics
  obtain ⟨u0, hu0⟩ := Cond.staticRefV Y.unassigned L.unassignedStatic L.statics hcS0 hiss (b (.isRef (.static Bundle.tN "UNASSIGNED_STACK" Bundle.steD)) (pc_oe 9 rfl))
  obtain ⟨sen, hsen⟩ := Cond.staticRefV Y.sentinel L.sentinelStatic L.statics hcS0 hiss (b (.isRef (.static Bundle.tN "SUPPRESSED_SENTINEL" Bundle.listD)) (pc_oe 10 rfl))
  obtain ⟨ci198, i198, fB, hk198, hg198, ha198, hsB, -, hnB, htB, hffB⟩ := Cond.ownField (t := .object "java/lang/Object") Y.found L.cls (by decide +kernel) (b (.fieldLink Bundle.tN 198 Bundle.tN "backtrace" "Ljava/lang/Object;") (pc_oe 11 rfl)) (b (.lays Bundle.tN Bundle.tN "backtrace" "Ljava/lang/Object;") (pc_oe 12 rfl)) e.platform hpl
  obtain ⟨cellS, hcS', heS, -, hkeep⟩ := X.same.2.2.2.2.2 T.aS cellS0 hcS0
  have hcellS : U0.heap[T.aS]? = some cellS := hcS'
  have hoff : ∀ i, (⟨T.aS, i⟩ : Loc) ∉ locs := fun i hmem => by
    have := hlocs _ hmem cellS0 hcS0
    rw [hiss] at this; cases this
  have hknownS : cellS.vm ≠ .unknown := by
    rw [heS]; intro hu
    rw [show cellS0.vm = .unknown from hu] at hiss
    cases hiss
  have hneS : T.aS ≠ a := Nat.ne_of_lt (Nat.lt_of_lt_of_le (Array.getElem?_eq_some_iff.mp hcS0).1 hnew)
  obtain ⟨iM, hffM⟩ := Y.msg
  obtain ⟨tyC, dC, hdC, hdnC⟩ := Cond.laysAt hfound hk Y.cause (b (.lays cls Bundle.tN "cause" "Ljava/lang/Throwable;") (pc_oe 5 rfl))
  obtain ⟨tyS, dS, hdS, hdnS⟩ := Cond.laysAt hfound hk Y.stack (b (.lays cls Bundle.tN "stackTrace" Bundle.steD) (pc_oe 6 rfl))
  obtain ⟨tyP, dP, hdP, hdnP⟩ := Cond.laysAt hfound hk Y.supp (b (.lays cls Bundle.tN "suppressedExceptions" Bundle.listD) (pc_oe 7 rfl))
  obtain ⟨tyM, dM, hdM, hdnM⟩ := Cond.laysAt hfound hk hffM (b (.lays cls Bundle.tN "detailMessage" "Ljava/lang/String;") (pc_oe 8 rfl))
  obtain ⟨tyB, dB, hdB, hdnB⟩ := Cond.laysAt hfound hk hffB (b (.lays cls Bundle.tN "backtrace" "Ljava/lang/Object;") (pc_oe 13 rfl))
  have bC := Cond.laysApart hdB hdC hdnB hdnC (by rw [hnB, Y.causeName]; decide)
  have bS := Cond.laysApart hdB hdS hdnB hdnS (by rw [hnB, Y.stackName]; decide)
  have bP := Cond.laysApart hdB hdP hdnB hdnP (by rw [hnB, Y.suppName]; decide)
  have hskip : SkipFacts T e.platform s (fun u => u) u0 ((preparedCellV T.toThrowableT (freshCell P1.m.cls kX) a u0 sen).withEntry U0.cur) :=
    ⟨{ ci198 := ci198, i198 := i198, fBack := fB }, ⟨hk198, hg198, ha198, hsB⟩, by
      have := fresh_default (c := P1.m.cls) tyB
      rw [htB] at this
      simpa [preparedCellV, Cell.setSlot, Cell.withEntry, Array.getElem?_setIfInBounds, bC, bS, bP, bC.symm, bS.symm, bP.symm, defaultValue] using this, fun _ _ => rfl⟩
  obtain ⟨tm, methC, cdC, kC, vm₁, hnC, -, -, -, -, -, -, -, hW₁, st1⟩ := Steps.initColdS (tb := p.tables) (e := e) (below := below) (s := s) (U := U0) X.here hexec X.warmed hpl hown (t := Bundle.initS cls) rfl rfl (Bundle.fit_spec hcls).2
    (b (.methodLink own ic (Bundle.initS cls)) (pc_oe 0 rfl)) (hctor (.instanceMethod (Bundle.initS cls)) (List.mem_append_left _ (List.mem_of_getElem? (i := 0) rfl))) (bytes := rx) (maxL := 2) (hctor (.code (Bundle.initS cls) rx 2 none) (List.mem_append_left _ (List.mem_of_getElem? (i := 1) rfl)))
    (f := g) hg (a := a) (msg := msg) (rest := .ref a :: rest) hstack hd6
  cases Option.some.inj (hnC.symm.trans hP1m)
  have X₁ := X.noted hW₁
  obtain ⟨vm₂, X₂, st2⟩ := X₁.ctorMessageOffV hexec (g := { g with stack := .ref a :: rest }) hg hsize T L Z LZ M LM (P1 :: Ps)
    hL hlink (u0 := u0) (sen := sen) (self := a) hmsg (cell := freshCell P1.m.cls kX) (cellS := cellS)
    hcell (fun _ => by simp) (by simp) rfl rfl hsel0 hselF hcellS hneS hknownS (by rw [hkeep _ (hoff _)]; exact hu0) (by rw [hkeep _ (hoff _)]; exact hsen)
    (Takes.of_laid hk hord tyC (by rw [Y.causeType]; rfl)) (Takes.of_laid hk hord tyS (by rw [Y.stackType]; exact fits_refV_array _ u0)) (Takes.of_laid hk hord tyP (by rw [Y.suppType]; exact fits_refV_object _ sen))
    (Takes.of_laid hk hord tyM (by rw [Y.msgType]; exact fits_refV_object _ ⟨msg, hmsg⟩)) Y.objLocals hskip htr [] hd6
    (by simp only [List.length_cons, hlen]; omega) (by simp only [List.length_cons, hlen]; exact hRl)
  obtain ⟨hwalk, hrun, hended, hWU, hsame⟩ := X₂.athrowLeaves hexec (g := { g with stack := .ref a :: rest, pc := g.pc + 3 }) hg hlocked hentered hout (a := a) (rest := rest) rfl hd9 hlocks
  have hlt : a < ((U0.setVm vm₁).setVm vm₂).heap.size := (Array.getElem?_eq_some_iff.mp hcell).1
  have hU := heapAt_setCell_self (s := (U0.setVm vm₁).setVm vm₂) (plainBareV T.toThrowableT (freshCell P1.m.cls kX) a u0 sen msg) hlt
  refine ⟨_, st1 _ (fun acts => ?_), hrun, hended, hWU, hsame.weaken (fun y hy hlt' => ?_) (Nat.le_refl _) (Nat.le_refl _), ⟨_, hU, rfl, rfl⟩, ?_, fun q hq => ?_⟩
  · rw [doInvoke_state]
    exact st2 _ hwalk
  · rcases List.mem_append.mp hy with h1 | h1
    · exact h1
    · exfalso
      have hb : y.base = a := by
        simp only [List.mem_cons, List.not_mem_nil, or_false] at h1
        rcases h1 with rfl | rfl | rfl | rfl | rfl <;> rfl
      rw [hb] at hlt'
      exact Nat.not_lt.mpr hnew hlt'
  · exact size_setCell ((U0.setVm vm₁).setVm vm₂) a _
  · show (((U0.setVm vm₁).setVm vm₂).setCell a _).heap[q]? = U0.heap[q]?
    simp [State.setCell, State.setVm, Array.getElem?_setIfInBounds, hq, Ne.symm hq]
end PCT

/-! ===== caught: by the first clause, or by the second behind a first; either may be cold ===== -/
/-- one clause that covers the place: what it names is linked, then asked -/
theorem pc_go {Q : Handler → Pre} {E : CtlPost} {e : Env} {d : Bool} {acts : List Action} {s : State} {f : JFrame} {a : Addr} {x : ExceptionTableEntry} {t : List ExceptionTableEntry} {c : ClassId} {cell : Cell} (hx : covers x f.pc = true) (h0 : x.catchType ≠ 0)
    (hl : s.vm.ClassLinks e.platform f.method.cls x.catchType c) (hcell : s.heap[a]? = some cell) (hobj : ∀ k, cell.vm ≠ .statics k)
    (hk : ∃ k, s.vm.classes[cell.cls]? = some k) (hc : ∃ k, s.vm.classes[c]? = some k) :
    Sem.wp (findHandler.go f a (x :: t)) Q E e d acts s ↔
      if s.vm.assignable cell.cls c = true then Q (.found x.handlerPc) d acts (s.setVm (s.vm.noted f.method.cls x.catchType (.cls c))) else Sem.wp (findHandler.go f a t) Q E e d acts (s.setVm (s.vm.noted f.method.cls x.catchType (.cls c))) := by
  simp only [covers] at hx
  obtain ⟨ha, ht⟩ := (resolveClass_links e.toSetting hl).op (op := VmOp.resolveClass f.method.cls x.catchType) rfl
  have hal : s.vm.Alike (s.vm.noted f.method.cls x.catchType (.cls c)) := (Vm.Alike.refl s.vm).noted _ _ _
  obtain ⟨k1, hk1⟩ := hk
  obtain ⟨k2, hk2⟩ := hc
  obtain ⟨k1', hk1', -⟩ := hal.2.2 _ _ hk1
  obtain ⟨k2', hk2', -⟩ := hal.2.2 _ _ hk2
  have has := hal.assignable cell.cls c
  cases hfit : s.vm.assignable cell.cls c with
  | false =>
    rw [hfit] at has
    simp [findHandler.go, hx, h0, ha, ht, hcell, hobj, hk1', hk2', has, VmOp.dirties, VmOp.acts]
  | true =>
    rw [hfit] at has
    simp [findHandler.go, hx, h0, ha, ht, hcell, hobj, hk1', hk2', has, VmOp.dirties, VmOp.acts]
theorem pc_setF (u : State) (vm' : Vm) (F F' : List Frame) : ((u.setFrames F).setVm vm').setFrames F' = (u.setVm vm').setFrames F' := by
  show ((u.setVm vm').setFrames F).setFrames F' = _
  rw [State.setFrames_setFrames]
/-- from the note of the throw to the clause that the search finds, the tables warmer by what it linked -/
theorem pc_caught {tb : Tables} {e : Env} {s target : State} {g : JFrame} {c : Code} {below : List Frame} {a : Addr} (h : At s g.method c below) {pc : Nat} {vm' : Vm}
    (hf : ∀ (Q : Handler → Pre) (E : CtlPost) (d : Bool) (acts : List Action), Sem.wp (findHandler g a) Q E e d acts ((s.setTop g).pushFrame (.throwing a)) ↔ Q (.found pc) d acts (((s.setTop g).pushFrame (.throwing a)).setVm vm'))
    (hrest : Steps tb e below ((s.setVm vm').setTop { g with pc := pc, stack := [.ref a] }) target) : Steps tb e below ((s.setTop g).pushFrame (.throwing a)) target := by
  obtain ⟨w1, w2⟩ := h.throwing a
  obtain ⟨g1, w3⟩ := Option.isSome_iff_exists.mp h.top
  obtain ⟨r1, w4⟩ := State.topJava?_eq_some.mp w3
  have w5 : (s.setVm vm').frames = .java g1 :: r1 := w4
  have w6 : (stepThrowing e ((s.setTop g).pushFrame (.throwing a)) a (.java g :: s.frames.tail)).1 = (((s.setTop g).pushFrame (.throwing a)).setVm vm').setFrames (.java { g with pc := pc, stack := [.ref a] } :: s.frames.tail) := by
    simp only [stepThrowing, searchFrame, vmDo]
    generalize hz : Sem.go _ e false [] _ = z
    obtain ⟨z1, rfl, -⟩ := Sem.eq_ok_of hz (a := Handler.found pc) (s' := ((s.setTop g).pushFrame (.throwing a)).setVm vm') (acts' := []) (by simp [hf _ _ _ _])
    rfl
  refine Steps.head w1 w2 ?_
  rw [stepThread_throwing (frames_entered h.top _), w6, w4, List.tail_cons, State.pushFrame, pc_setF, State.setTop_of_frames _ w4, pc_setF]
  rw [State.setTop_of_frames _ w5] at hrest
  exact hrest
section PCC
variable {p : Program} {l : Launch} {e : Env} {R : Room} {s : State} {m : MethodId} {args : Array Value} {below : List Frame} {meth : Method} {c : Code} {T : State} {locs : List Loc} {cells slots : Nat}
theorem pc_catch2 (X : Stand p l e R s m args below meth c T locs cells slots) (a : Addr) {g : JFrame} (hg : g.method = m) {own n1 n2 : String} (hown : s.vm.findClass own = some m.cls)
    (x1 x2 : ExceptionTableEntry) (hsplit : c.exceptionTable.toList = [x1, x2]) (h1 : covers x1 g.pc = true) (h2 : covers x2 g.pc = true) (h10 : x1.catchType ≠ 0) (h20 : x2.catchType ≠ 0)
    (hl1 : (Cond.classLink own x1.catchType n1).before args s = true) (hl2 : (Cond.classLink own x2.catchType n2).before args s = true) {c1 c2 : ClassId} {cell : Cell} (hc1 : s.vm.findClass n1 = some c1) (hc2 : s.vm.findClass n2 = some c2)
    (hcell : T.heap[a]? = some cell) (hobj : cell.vm.isStatics = false) (hno : s.vm.assignable cell.cls c1 = false) (hfit : s.vm.assignable cell.cls c2 = true) :
    ∃ vm', Stand p l e R s m args below meth c (T.setVm vm') locs cells slots ∧
      ∀ target, Steps p.tables e below ((T.setVm vm').setTop { g with pc := x2.handlerPc, stack := [.ref a] }) target → Steps p.tables e below ((T.setTop g).pushFrame (.throwing a)) target := by
  have hpl : e.platform.magicAccessors = ({} : Platform).magicAccessors := by rw [X.admits.platform]
  obtain ⟨c1', hc1', hcl1⟩ := Cond.classLink_spec hown hl1 e.platform hpl
  cases hc1.symm.trans hc1'
  obtain ⟨c2', hc2', hcl2⟩ := Cond.classLink_spec hown hl2 e.platform hpl
  cases hc2.symm.trans hc2'
  obtain ⟨dk1, _, _, kt1, hd1, _, _, _, _, hkt1, _, hopen1⟩ := hcl1.here
  obtain ⟨dk2, _, _, kt2, hd2, _, _, _, _, hkt2, _, hopen2⟩ := hcl2.here
  have hW1 : s.WarmedH (T.vm.noted m.cls x1.catchType (.cls c1)) := X.warmed.noted hd1 hopen1 (State.rightAt_cls hcl1)
  have hcl1' := X.warmed.classLinks hcl1
  have hcl2' := hW1.classLinks hcl2
  have hW2 : s.WarmedH ((T.vm.noted m.cls x1.catchType (.cls c1)).noted m.cls x2.catchType (.cls c2)) := hW1.noted hd2 hopen2 (State.rightAt_cls hcl2)
  obtain ⟨k1, hk1, -⟩ := X.warmed.alike.2.2 _ _ hkt1
  obtain ⟨k2, hk2, -⟩ := hW1.alike.2.2 _ _ hkt2
  obtain ⟨k3, hk3, -⟩ := X.warmed.alike.2.2 _ _ hkt2
  have hfT : T.vm.assignable cell.cls c2 = true := by rw [X.warmed.alike.assignable]; exact hfit
  have hf2 : (T.vm.noted m.cls x1.catchType (.cls c1)).assignable cell.cls c2 = true := by rw [hW1.alike.assignable]; exact hfit
  have hf1 : ¬ T.vm.assignable cell.cls c1 = true := by rw [X.warmed.alike.assignable, hno]; decide
  have ho := VmData.ne_statics_of hobj
  refine ⟨_, X.noted hW2, fun target hrest => ?_⟩
  subst hg
  refine pc_caught X.here (vm' := (T.vm.noted g.method.cls x1.catchType (.cls c1)).noted g.method.cls x2.catchType (.cls c2)) (fun Q E d acts => ?_) hrest
  rw [_root_.Jvm.W.findHandler_eq (s := (T.setTop g).pushFrame (.throwing a)) (meth := meth) (code := c) X.method' X.code, hsplit]
  rw [pc_go (s := (T.setTop g).pushFrame (.throwing a)) (c := c1) (cell := cell) h1 h10 hcl1' hcell ho (Vm.classAt_of_assignable hfT ⟨k3, hk3⟩) ⟨k1, hk1⟩]
  refine (iff_of_eq (if_neg hf1)).trans ?_
  refine (pc_go (s := ((T.setTop g).pushFrame (.throwing a)).setVm (T.vm.noted g.method.cls x1.catchType (.cls c1))) (c := c2) (cell := cell) h2 h20 hcl2' hcell ho (Vm.classAt_of_assignable hf2 ⟨k2, hk2⟩) ⟨k2, hk2⟩).trans ?_
  exact iff_of_eq (if_pos hf2)
theorem pc_catch1 (X : Stand p l e R s m args below meth c T locs cells slots) (a : Addr) {g : JFrame} (hg : g.method = m) {own n1 : String} (hown : s.vm.findClass own = some m.cls)
    (x1 x2 : ExceptionTableEntry) (hsplit : c.exceptionTable.toList = [x1, x2]) (h1 : covers x1 g.pc = true) (h10 : x1.catchType ≠ 0)
    (hl1 : (Cond.classLink own x1.catchType n1).before args s = true) {c1 : ClassId} {cell : Cell} (hc1 : s.vm.findClass n1 = some c1)
    (hcell : T.heap[a]? = some cell) (hobj : cell.vm.isStatics = false) (hfit : s.vm.assignable cell.cls c1 = true) :
    ∃ vm', Stand p l e R s m args below meth c (T.setVm vm') locs cells slots ∧
      ∀ target, Steps p.tables e below ((T.setVm vm').setTop { g with pc := x1.handlerPc, stack := [.ref a] }) target → Steps p.tables e below ((T.setTop g).pushFrame (.throwing a)) target := by
  have hpl : e.platform.magicAccessors = ({} : Platform).magicAccessors := by rw [X.admits.platform]
  obtain ⟨c1', hc1', hcl1⟩ := Cond.classLink_spec hown hl1 e.platform hpl
  cases hc1.symm.trans hc1'
  obtain ⟨dk1, _, _, kt1, hd1, _, _, _, _, hkt1, _, hopen1⟩ := hcl1.here
  have hW1 : s.WarmedH (T.vm.noted m.cls x1.catchType (.cls c1)) := X.warmed.noted hd1 hopen1 (State.rightAt_cls hcl1)
  have hcl1' := X.warmed.classLinks hcl1
  obtain ⟨k1, hk1, -⟩ := X.warmed.alike.2.2 _ _ hkt1
  have hf1 : T.vm.assignable cell.cls c1 = true := by rw [X.warmed.alike.assignable]; exact hfit
  have ho := VmData.ne_statics_of hobj
  refine ⟨_, X.noted hW1, fun target hrest => ?_⟩
  subst hg
  refine pc_caught X.here (vm' := T.vm.noted g.method.cls x1.catchType (.cls c1)) (fun Q E d acts => ?_) hrest
  rw [_root_.Jvm.W.findHandler_eq (s := (T.setTop g).pushFrame (.throwing a)) (meth := meth) (code := c) X.method' X.code, hsplit]
  refine (pc_go (s := (T.setTop g).pushFrame (.throwing a)) (c := c1) (cell := cell) h1 h10 hcl1' hcell ho (Vm.classAt_of_assignable hf1 ⟨k1, hk1⟩) ⟨k1, hk1⟩).trans ?_
  exact iff_of_eq (if_pos hf1)
end PCC

