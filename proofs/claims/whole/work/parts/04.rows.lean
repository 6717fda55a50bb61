/-! ===== classes and methods as rows; one step ===== -/
/-- own class, its number, fields (pool entry: class, place, kind of type, final), methods, ints, longs, classes made, arrays made -/
abbrev ab_CD : Type := String × Nat × List (Nat × Nat × Nat × Nat × Bool) × List (Nat × MethodName) × List (Nat × Int32) × List (Nat × Int64) × List (Nat × Nat) × List (Nat × Nat)
/-- class, name, bytes, locals, answer, is it a constructor, rows -/
abbrev ab_MD : Type := ab_CD × MethodName × ByteArray × Nat × Option FieldType × Bool × List (Nat × Instr × Nat)
def ab_fg : Nat → Value → Prop
  | 0, .int _ => True
  | 1, .long _ => True
  | 2, .int x => x = 0 ∨ x = 1
  | 3, .ref _ => True
  | _, _ => False
def ab_br : ClassFile.Cond → Int32 → Int32 → Nat → Nat → Nat
  | .eq, x, y, t, f => if x = y then t else f
  | .ne, x, y, t, f => if x = y then f else t
  | .lt, x, y, t, f => if x < y then t else f
  | .ge, x, y, t, f => if y ≤ x then t else f
  | .gt, x, y, t, f => if y < x then t else f
  | .le, x, y, t, f => if x ≤ y then t else f
def ab_tg (pc : Nat) (off : Int) : Option Nat := match (pc : Int) + off with
  | .ofNat t => some t
  | .negSucc _ => none
theorem ab_tg_ok {pc t : Nat} {off : Int} (h : ab_tg pc off = some t) : (pc : Int) + off = (t : Int) := by
  unfold ab_tg at h
  split at h
  · cases h; assumption
  · cases h
abbrev ab_S : Type := Prop × Nat × List (Option Value) × List Value × ab_H
def ab_ldI (w : Option Value) (pc : Nat) (L : List (Option Value)) (st : List Value) (h : ab_H) : Option ab_S := match w with
  | some (.int x) => some (True, pc, L, .int x :: st, h)
  | _ => none
def ab_ldL (w : Option Value) (pc : Nat) (L : List (Option Value)) (st : List Value) (h : ab_H) : Option ab_S := match w with
  | some (.long x) => some (True, pc, L, .long x :: st, h)
  | _ => none
def ab_ldA (w : Option Value) (pc : Nat) (L : List (Option Value)) (st : List Value) (h : ab_H) : Option ab_S := match w with
  | some (.ref x) => some (True, pc, L, .ref x :: st, h)
  | _ => none
def ab_gf (r : Option (Nat × Nat × Nat × Bool)) (e : Option ab_E) (pc : Nat) (L : List (Option Value)) (st : List Value) (h : ab_H) : Option ab_S := match r, e with
  | some (ci, k, _, _), some (.inr (ci', fs)) => match fs[k]? with
    | some v => cond (Nat.beq ci ci') (some (True, pc, L, v :: st, h)) none
    | none => none
  | _, _ => none
def ab_pf (oci : Nat) (ini : Bool) (r : Option (Nat × Nat × Nat × Bool)) (a : Nat) (v : Value) (e : Option ab_E) (pc : Nat) (L : List (Option Value)) (st : List Value) (h : ab_H) : Option ab_S := match r, e with
  | some (ci, k, ty, fin), some (.inr (ci', fs)) => cond (Nat.beq ci ci' && Nat.blt k fs.length && (!fin || (ini && Nat.beq ci oci))) (some (ab_fg ty v, pc, L, st, h.set a (.inr (ci', fs.set k v)))) none
  | _, _ => none
/-- what isn't of the stack alone: locals, jumps, fields, arrays -/
def ab_mv (M : ab_MD) (n pc : Nat) (L : List (Option Value)) (h : ab_H) : Instr → List Value → Option ab_S
  | .iload i, st => ab_ldI (ab_lg L i) (pc + n) L st h
  | .iload_n i, st => ab_ldI (ab_lg L i.val) (pc + n) L st h
  | .lload i, st => ab_ldL (ab_lg L i) (pc + n) L st h
  | .lload_n i, st => ab_ldL (ab_lg L i.val) (pc + n) L st h
  | .aload i, st => ab_ldA (ab_lg L i) (pc + n) L st h
  | .aload_n i, st => ab_ldA (ab_lg L i.val) (pc + n) L st h
  | .istore i, .int x :: st => cond (Nat.blt i M.2.2.2.1) (some (True, pc + n, ab_s1 L i (.int x), st, h)) none
  | .istore_n i, .int x :: st => cond (Nat.blt i.val M.2.2.2.1) (some (True, pc + n, ab_s1 L i.val (.int x), st, h)) none
  | .lstore i, .long x :: st => cond (Nat.blt (i + 1) M.2.2.2.1) (some (True, pc + n, ab_s2 L i (.long x), st, h)) none
  | .lstore_n i, .long x :: st => cond (Nat.blt (i.val + 1) M.2.2.2.1) (some (True, pc + n, ab_s2 L i.val (.long x), st, h)) none
  | .astore i, .ref x :: st => cond (Nat.blt i M.2.2.2.1) (some (True, pc + n, ab_s1 L i (.ref x), st, h)) none
  | .astore_n i, .ref x :: st => cond (Nat.blt i.val M.2.2.2.1) (some (True, pc + n, ab_s1 L i.val (.ref x), st, h)) none
  | .iinc i d, st => match ab_lg L i with
    | some (.int x) => cond (Nat.blt i M.2.2.2.1) (some (True, pc + n, ab_s1 L i (.int (x + ab_i d)), st, h)) none
    | _ => none
  | .goto o, st => match ab_tg pc o with
    | some t => some (True, t, L, st, h)
    | none => none
  | .ifCond c o, .int x :: st => match ab_tg pc o with
    | some t => some (True, ab_br c x 0 t (pc + n), L, st, h)
    | none => none
  | .if_icmp c o, .int y :: .int x :: st => match ab_tg pc o with
    | some t => some (True, ab_br c x y t (pc + n), L, st, h)
    | none => none
  | .ldc i, st => match ab_lk M.1.2.2.2.2.1 i with
    | some v => some (True, pc + n, L, .int v :: st, h)
    | none => none
  | .ldc_w i, st => match ab_lk M.1.2.2.2.2.1 i with
    | some v => some (True, pc + n, L, .int v :: st, h)
    | none => none
  | .ldc2_w i, st => match ab_lk M.1.2.2.2.2.2.1 i with
    | some v => some (True, pc + n, L, .long v :: st, h)
    | none => none
  | .getfield i, .ref a :: st => ab_gf (ab_lk M.1.2.2.1 i) h[a]? (pc + n) L st h
  | .putfield i, v :: .ref a :: st => ab_pf M.1.2.1 M.2.2.2.2.2.1 (ab_lk M.1.2.2.1 i) a v h[a]? (pc + n) L st h
  | .iaload, .int i :: .ref a :: st => match h[a]? with
    | some (.inl (0, N, .inl f)) => some (vp_in i N, pc + n, L, .int (f i.toNatClampNeg) :: st, h)
    | _ => none
  | .laload, .int i :: .ref a :: st => match h[a]? with
    | some (.inl (1, N, .inr (.inl f))) => some (vp_in i N, pc + n, L, .long (f i.toNatClampNeg) :: st, h)
    | _ => none
  | .baload, .int i :: .ref a :: st => match h[a]? with
    | some (.inl (2, N, .inl f)) => some (vp_in i N, pc + n, L, .int (f i.toNatClampNeg) :: st, h)
    | _ => none
  | .aaload, .int i :: .ref a :: st => match h[a]? with
    | some (.inl (3, N, .inr (.inr (.inr (.inr f))))) => some (vp_in i N, pc + n, L, va_rf (f i.toNatClampNeg) :: st, h)
    | some (.inl (4, N, .inr (.inr (.inr (.inr f))))) => some (vp_in i N, pc + n, L, va_rf (f i.toNatClampNeg) :: st, h)
    | _ => none
  | .iastore, .int x :: .int i :: .ref a :: st => match h[a]? with
    | some (.inl (0, N, .inl f)) => some (vp_in i N, pc + n, L, st, h.set a (.inl (0, N, .inl (upd f i.toNatClampNeg x))))
    | _ => none
  | .lastore, .long x :: .int i :: .ref a :: st => match h[a]? with
    | some (.inl (1, N, .inr (.inl f))) => some (vp_in i N, pc + n, L, st, h.set a (.inl (1, N, .inr (.inl (vp_updL f i.toNatClampNeg x)))))
    | _ => none
  | .bastore, .int x :: .int i :: .ref a :: st => match h[a]? with
    | some (.inl (2, N, .inl f)) => some (vp_in i N, pc + n, L, st, h.set a (.inl (2, N, .inl (upd f i.toNatClampNeg (x &&& 1)))))
    | _ => none
  | .arraylength, .ref a :: st => match h[a]? with
    | some (.inl (0, N, _)) => some (True, pc + n, L, .int (nI N) :: st, h)
    | some (.inl (1, N, _)) => some (True, pc + n, L, .int (nI N) :: st, h)
    | some (.inl (2, N, _)) => some (True, pc + n, L, .int (nI N) :: st, h)
    | _ => none
  | _, _ => none
def ab_in (M : ab_MD) (n pc : Nat) (L : List (Option Value)) (st : List Value) (h : ab_H) (ins : Instr) : Option ab_S := match ab_op ins st with
  | some r => some (r.1, pc + n, L, r.2, h)
  | none => ab_mv M n pc L h ins st
def ab_st (M : ab_MD) (pc : Nat) (L : List (Option Value)) (st : List Value) (h : ab_H) : Option ab_S := match ab_lk M.2.2.2.2.2.2 pc with
  | some r => ab_in M r.2 pc L st h r.1
  | none => none
/-! what the rows must satisfy -/
def ab_T : List Cond := lw_tbl.filter goodWord
theorem ab_T_in {w : Cond} (h : w ∈ lw_tbl) (hg : goodWord w = true) : w ∈ ab_T := List.mem_filter.mpr ⟨h, hg⟩
def ab_tk : FieldType → Nat
  | .int => 0
  | .long => 1
  | .boolean => 2
  | .object _ => 3
  | .array _ => 3
  | _ => 9
def ab_ty : Nat → Nat → FieldType
  | 0 => tyX0
  | 1 => tyX1
  | 2 => tyX2
  | 3 => tyX3
  | 4 => tyX4
  | 5 => tyX5
  | 6 => tyX6
  | 7 => tyX7
  | 8 => tyX8
  | 9 => tyX9
  | 10 => tyX10
  | 11 => tyX11
  | _ => tyX12
/-- of a class: its layout's words, its types, its names -/
def ab_cl (ci : Nat) (q : vw_C) : Prop := (∀ w ∈ u_ws q.1 q.2.1 q.2.2, w ∈ ab_T) ∧ (∀ k, k < q.2.2 → parseFieldDescriptor (q.2.1 k).2.2.1 = some (ab_ty ci k)) ∧ (∀ a, a < q.2.2 → ∀ b, b < q.2.2 → a ≠ b → (q.2.1 a).2.1 ≠ (q.2.1 b).2.1)
def ab_fo (own : String) (oci : Nat) (r : Nat × Nat × Nat × Nat × Bool) : Prop := ∃ q : vw_C, vwCl[r.2.1]? = some q ∧ ab_cl r.2.1 q ∧ r.2.2.1 < q.2.2 ∧ Cond.fieldLink own r.1 (q.2.1 r.2.2.1).1 (q.2.1 r.2.2.1).2.1 (q.2.1 r.2.2.1).2.2.1 ∈ ab_T ∧ (q.2.1 r.2.2.1).2.2.2 = r.2.2.2.2 ∧ ab_tk (ab_ty r.2.1 r.2.2.1) = r.2.2.2.1 ∧ (r.2.1 = oci → (q.2.1 r.2.2.1).1 = own)
def ab_OC (K : ab_CD) : Prop := (∀ r ∈ K.2.2.1, ab_fo K.1 K.2.1 r) ∧ (∀ r ∈ K.2.2.2.1, Cond.methodLink K.1 r.1 r.2 ∈ ab_T) ∧ (∀ r ∈ K.2.2.2.2.1, Cond.constant K.1 r.1 r.2 ∈ ab_T) ∧ (∀ r ∈ K.2.2.2.2.2.1, Cond.constantLong K.1 r.1 r.2 ∈ ab_T)
def ab_ro (b : ByteArray) (r : Nat × Instr × Nat) : Prop := decode b r.1 = .ok (r.2.1, r.2.2) ∧ (ab_len r.2.1 = r.2.2 ∨ ab_sw r.2.1 = true) ∧ ab_cst r.2.1 = true
def ab_OM (M : ab_MD) : Prop := ab_OC M.1 ∧ M.2.1.cls = M.1.1 ∧ (M.2.2.2.2.2.1 = true → M.2.1.name = "<init>") ∧ ∀ r ∈ M.2.2.2.2.2.2, ab_ro M.2.2.1 r
/-- a method as its rows say, and as a callee -/
def ab_OK (M : ab_MD) (n : Nat) : Prop := ab_OM M ∧ Cond.code M.2.1 M.2.2.1 M.2.2.2.1 M.2.2.2.2.1 ∈ ab_T ∧ Cond.initialized M.2.1.cls ∈ ab_T ∧ plainName M.2.1.cls = true ∧ (M.2.1.cls ≠ "java/lang/invoke/MethodHandle" ∧ M.2.1.cls ≠ "java/lang/invoke/VarHandle" ∧ (parseMethodDescriptor M.2.1.desc).map (fun d => d.parameters.length) = some n) ∧ M.2.2.2.1 ≤ 40
/-- a method of an object that the world holds -/
def ab_kV (M : ab_MD) (ci : Nat) : Prop := Cond.instanceMethod M.2.1 ∈ ab_T ∧ Cond.selects M.2.1.cls M.2.1 M.2.1 ∈ ab_T ∧ ∃ q : vw_C, vwCl[ci]? = some q ∧ q.1 = M.2.1.cls
