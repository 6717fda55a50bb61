/-! ===== the exceptions that piece throws: their words, and the walk from 'new' to the throw ===== -/
def pc_IO : String := "java/lang/IndexOutOfBoundsException"
def pc_NS : String := "java/util/NoSuchElementException"
def pc_r7 : ByteArray := ⟨#[0x2a, 0x2b, 0xb7, 0x00, 0x07, 0xb1]⟩
def pc_rD : ByteArray := ⟨#[0x2a, 0x2b, 0xb7, 0x00, 0x0d, 0xb1]⟩
def pc_w1 : List Cond := [.classLink "BoneEstate" 149 pc_IO, .initialized pc_IO] ++ pc_own "BoneEstate" 153 pc_IO 7 pc_r7
def pc_w2 : List Cond := [.classLink "BoneEstate" 169 pc_NS, .initialized pc_NS] ++ pc_own "BoneEstate" 173 pc_NS 13 pc_rD
theorem pc_w1_ride : pc_w1.all pc_rd = true := by decide +kernel
theorem pc_w2_ride : pc_w2.all pc_rd = true := by decide +kernel
/-- what a throw leaves: the world as it was, the exception in a cell that is new -/
def pc_End (G : ab_G) (h : ab_H) (cls : String) (mc ms : Nat) (s : State) (a : Nat) (U : State) : Prop :=
  va_P G.2.1 vwCl (ab_W G h) U.heap ∧ va_F (ab_A G) s U ∧ s.heap.size ≤ a ∧ (∃ ce : Cell, U.heap[a]? = some ce ∧ ce.vm = .none ∧ s.vm.findClass cls = some ce.cls) ∧ ∃ L, (s.WarmedH U.vm ∧ s.sameButNew ({ U with vm := s.vm } : State) L mc ms) ∧ ∀ q ∈ L, ab_A G q.base
section PCR
variable {G : ab_G} {M : ab_MD} {fr : Bool} {n0 : Nat} {p : Program} {e : Env} {R : Room} {s : State} {m : MethodId} {args : Array Value} {below : List Frame} {meth : Method} {c : Code} {Q : State → Prop} {cells slots pc : Nat} {L : List (Option Value)} {h : ab_H}
theorem pc_raise {cls tx : String} {idx si ic ix q : Nat} {rx : ByteArray} (C : ab_C G M p s m args meth c) (hl : meth.locks = false) (hex : c.exceptionTable.isEmpty = true) (htr : e.platform.stackTraces = false)
    (row0 : ab_lk M.2.2.2.2.2.2 pc = some (.new idx, 3)) (row1 : ab_lk M.2.2.2.2.2.2 (pc + 3) = some (.dup, 1)) (row2 : ab_lk M.2.2.2.2.2.2 (pc + 4) = some (.ldc si, 2)) (row3 : ab_lk M.2.2.2.2.2.2 (pc + 6) = some (.invokespecial ic, 3)) (row4 : ab_lk M.2.2.2.2.2.2 (pc + 9) = some (.athrow, 1))
    (w0 : (Cond.classLink M.1.1 idx cls).before args s = true) (w1 : (Cond.initialized cls).before args s = true) (wa : ∀ a ∈ pc_own M.1.1 ic cls ix rx, a.before args s = true) (hz : vk_R M.1.1 si tx q s)
    (x0 : decode rx 0 = .ok (.aload_n 0, 1)) (x1 : decode rx 1 = .ok (.aload_n 1, 1)) (x2 : decode rx 2 = .ok (.invokespecial ix, 3)) (x5 : decode rx 5 = .ok (.return_, 1)) (hcls : Bundle.fit cls = true)
    (hst : ∀ (q : Nat) (cell : Cell), ab_A G q → s.heap[q]? = some cell → cell.vm.isStatics = false) (hR : 6 ≤ R.frames ∧ 200 ≤ R.locals ∧ cells + 1 ≤ R.cells ∧ slots + 6 ≤ R.slots)
    (k : ∀ (U : State) (a : Nat), U.status = .running → Ended U below (.threw a) → pc_End G h cls (cells + 1) (slots + 6) s a U → Q U) : ab_R G M fr n0 p e R s m args below meth c Q cells slots pc L [] h := by
  intro H locs ls J hlv
  obtain ⟨hx, hb, hts, hown, hml, hnm, hK, hOM⟩ := C
  obtain ⟨hP, hD, hS, hB, hfr⟩ := id J
  have rw9 : ∀ {i : Nat} {r : Instr × Nat}, ab_lk M.2.2.2.2.2.2 i = some r → decode M.2.2.1 i = .ok (r.1, r.2) := fun hr => (hOM.2.2.2 _ (ab_lk_mem hr)).1
  refine W.newc (C := cls) (n := 6) (index := idx) (g := F0 m pc ls []) hx hb hown w0 (wa _ (pc_oe 1 rfl)) w1 rfl (rw9 row0) hR.2.2.1 hR.2.2.2 (fun cC kC f1 f2 f3 f4 => ?_)
  refine lv_dup hx hb (rw9 row1) rfl ?_
  refine va_ldcS hx hb hown hz (rw9 row2) ?_
  intro T hT X
  have hout : ∀ y ∈ c.exceptionTable.toList, covers y (pc + 6 + 3) = false := by
    intro y hy
    have : c.exceptionTable = #[] := by simpa using hex
    rw [this] at hy
    cases hy
  have hcell : T.heap[H.size]? = some (freshCell cC kC) := by rw [hT]; simp
  obtain ⟨U, stp, hrun, hend, hW, hsame, ⟨ce, hce, hcc, hcv⟩, hsz, hoth⟩ := pc_thrown X hx htr (own := M.1.1) (cls := cls) (ic := ic) x0 x1 x2 x5 hown hcls wa
    (fun x hx' cell hc => hst _ cell (hS.2.2 x hx') hc) (a := H.size) f1 f2 hcell hS.1 (msg := .ref q) rfl (g := F0 m (pc + 6) ls [.ref q, .ref H.size, .ref H.size]) rfl (hlv.1.trans hml.symm) rfl rfl (rest := []) rfl (by rw [hb]; exact rw9 row3) (by rw [hb]; exact rw9 row4) hout
    (by omega) (by show 2 * 0 + (1 + 0) + 81 ≤ R.locals; omega) hl
  have hk : ∀ z : Nat, z < H.size → U.heap[z]? = H[z]? := by
    intro z hz'
    rw [hoth z (by omega), hT, Array.getElem?_push, if_neg (by omega)]
  have hsz' : U.heap.size = H.size + 1 := by rw [hsz, hT, Array.size_push]
  refine ⟨U, stp, k U H.size hrun hend ⟨hP.kept (fun j x hj => hk _ (hP j x hj).lt), ⟨by have := hS.1; omega, fun z h1 h2 => (hk z (Nat.lt_of_lt_of_le h1 hS.1)).trans (hS.2.1 z h1 h2)⟩, hS.1, ⟨ce, hce, hcv, by rw [hcc]; exact f1⟩, locs, ⟨hW, hsame⟩, hS.2.2⟩⟩
end PCR

