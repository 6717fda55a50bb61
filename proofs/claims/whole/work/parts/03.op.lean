/-! ===== the abstract machine's instructions on the stack alone ===== -/
def ab_i : Int → Int32
  | .ofNat n => nI n
  | .negSucc n => -(nI (n + 1))
def ab_cst : Instr → Bool
  | .iconst n => decide (Int32.ofInt n = ab_i n)
  | .bipush n => decide ((Int8.ofInt n).toInt32 = ab_i n)
  | .sipush n => decide ((Int16.ofInt n).toInt32 = ab_i n)
  | .iinc _ n => decide (Int32.ofInt n = ab_i n)
  | _ => true
def ab_sw : Instr → Bool
  | .tableswitch _ _ _ _ => true
  | .lookupswitch _ _ => true
  | _ => false
def ab_len : Instr → Nat
  | .bipush _ => 2
  | .sipush _ => 3
  | .ldc _ => 2
  | .ldc_w _ => 3
  | .ldc2_w _ => 3
  | .iload _ => 2
  | .lload _ => 2
  | .aload _ => 2
  | .istore _ => 2
  | .lstore _ => 2
  | .astore _ => 2
  | .iinc _ _ => 3
  | .ifCond _ _ => 3
  | .if_icmp _ _ => 3
  | .goto _ => 3
  | .getfield _ => 3
  | .putfield _ => 3
  | .invokevirtual _ => 3
  | .invokespecial _ => 3
  | .invokestatic _ => 3
  | .new _ => 3
  | .newarray _ => 2
  | .anewarray _ => 3
  | _ => 1
def ab_op : Instr → List Value → Option (Prop × List Value)
  | .iconst n, st => some (True, .int (ab_i n) :: st)
  | .bipush n, st => some (True, .int (ab_i n) :: st)
  | .sipush n, st => some (True, .int (ab_i n) :: st)
  | .lconst n, st => some (True, .long (lN n.val) :: st)
  | .iadd, .int y :: .int x :: st => some (True, .int (x + y) :: st)
  | .isub, .int y :: .int x :: st => some (True, .int (x - y) :: st)
  | .imul, .int y :: .int x :: st => some (True, .int (x * y) :: st)
  | .iand, .int y :: .int x :: st => some (True, .int (x &&& y) :: st)
  | .ior, .int y :: .int x :: st => some (True, .int (x ||| y) :: st)
  | .ixor, .int y :: .int x :: st => some (True, .int (x ^^^ y) :: st)
  | .idiv, .int y :: .int x :: st => some (¬ y = 0, .int (x / y) :: st)
  | .irem, .int y :: .int x :: st => some (¬ y = 0, .int (x - x / y * y) :: st)
  | .ineg, .int x :: st => some (True, .int (-x) :: st)
  | .ishl, .int y :: .int x :: st => some (True, .int (x <<< (y &&& 31)) :: st)
  | .ishr, .int y :: .int x :: st => some (True, .int (x >>> (y &&& 31)) :: st)
  | .iushr, .int y :: .int x :: st => some (True, .int (x.toUInt32 >>> (y.toUInt32 &&& Int32.toUInt32 31)).toInt32 :: st)
  | .ladd, .long y :: .long x :: st => some (True, .long (x + y) :: st)
  | .lsub, .long y :: .long x :: st => some (True, .long (x - y) :: st)
  | .lmul, .long y :: .long x :: st => some (True, .long (x * y) :: st)
  | .land, .long y :: .long x :: st => some (True, .long (x &&& y) :: st)
  | .lor, .long y :: .long x :: st => some (True, .long (x ||| y) :: st)
  | .lxor, .long y :: .long x :: st => some (True, .long (x ^^^ y) :: st)
  | .ldiv, .long y :: .long x :: st => some (¬ y = 0, .long (x / y) :: st)
  | .lrem, .long y :: .long x :: st => some (¬ y = 0, .long (x - x / y * y) :: st)
  | .lneg, .long x :: st => some (True, .long (-x) :: st)
  | .lshl, .int y :: .long x :: st => some (True, .long (x <<< (y.toInt64 &&& 63)) :: st)
  | .lushr, .int y :: .long x :: st => some (True, .long (x.toUInt64 >>> (y.toInt64.toUInt64 &&& Int64.toUInt64 63)).toInt64 :: st)
  | .lcmp, .long y :: .long x :: st => some (True, .int (lg_cmp x y) :: st)
  | .i2l, .int x :: st => some (True, .long x.toInt64 :: st)
  | .l2i, .long x :: st => some (True, .int x.toInt32 :: st)
  | .i2c, .int x :: st => some (True, .int (x.toUInt32 % 65536).toInt32 :: st)
  | .dup, .int x :: st => some (True, .int x :: .int x :: st)
  | .dup, .ref x :: st => some (True, .ref x :: .ref x :: st)
  | .dup2, .int x :: .ref y :: st => some (True, .int x :: .ref y :: .int x :: .ref y :: st)
  | .dup2, .int x :: .int y :: st => some (True, .int x :: .int y :: .int x :: .int y :: st)
  | .dup2, .long x :: st => some (True, .long x :: .long x :: st)
  | .pop, .int x :: st => some (True, st)
  | .pop, .ref x :: st => some (True, st)
  | .pop2, .long x :: st => some (True, st)
  | _, _ => none
section ABO
variable {p : Program} {l : Launch} {e : Env} {R : Room} {s : State} {m : MethodId} {args : Array Value} {below : List Frame} {meth : Method} {c : Code} {H : Heap} {locs : List Loc} {cells slots : Nat} {Q : State → Prop} {cc : ByteArray} {pc : Nat} {ls : Array Slot}
set_option maxHeartbeats 4000000 in
theorem ab_op_ok {ins : Instr} {n : Nat} {st st' : List Value} {g : Prop} (ad : Nat → Nat) (hexec : p.tables.exec = Jvm.exec) (hb : c.code = cc) (hdg : decode cc pc = .ok (ins, n)) (hn : ab_len ins = n) (hcst : ab_cst ins = true) (ho : ab_op ins st = some (g, st')) (hg : g)
    (k : W p l e R s m args below meth c H locs cells slots Q (F0 m (pc + n) ls (st'.map (ab_v ad)))) : W p l e R s m args below meth c H locs cells slots Q (F0 m pc ls (st.map (ab_v ad))) := by
  subst hn
  unfold ab_op at ho
  split at ho
  all_goals (try cases ho)
  · exact lv_iconst hexec hb hdg (of_decide_eq_true hcst) k
  · exact lv_bipush hexec hb hdg (of_decide_eq_true hcst) k
  · exact lv_sipush hexec hb hdg (of_decide_eq_true hcst) k
  · exact lv_lconst hexec hb hdg rfl k
  · exact lv_iadd hexec hb hdg k
  · exact lv_isub hexec hb hdg k
  · exact lv_imul hexec hb hdg k
  · exact lv_iand hexec hb hdg k
  · exact lv_ior hexec hb hdg k
  · exact lv_ixor hexec hb hdg k
  · exact lv_idiv hexec hb hdg hg k
  · exact lv_irem hexec hb hdg hg k
  · exact lv_ineg hexec hb hdg k
  · exact lv_ishl hexec hb hdg k
  · exact lv_ishr hexec hb hdg k
  · exact lv_iushr hexec hb hdg rfl k
  · exact lv_ladd hexec hb hdg k
  · exact lv_lsub hexec hb hdg k
  · exact lv_lmul hexec hb hdg k
  · exact lv_land hexec hb hdg k
  · exact lv_lor hexec hb hdg k
  · exact lv_lxor hexec hb hdg k
  · exact lv_ldiv hexec hb hdg hg k
  · exact lv_lrem hexec hb hdg hg k
  · exact lv_lneg hexec hb hdg k
  · exact lv_lshl hexec hb hdg rfl k
  · exact lv_lushr hexec hb hdg rfl k
  · exact W.lcmp hexec hb hdg k
  · exact lv_i2l hexec hb hdg rfl k
  · exact lv_l2i hexec hb hdg rfl k
  · exact lv_i2c hexec hb hdg rfl k
  · exact lv_dup hexec hb hdg rfl k
  · exact lv_dup hexec hb hdg rfl k
  · exact lv_dup2_11 hexec hb hdg rfl rfl k
  · exact lv_dup2_11 hexec hb hdg rfl rfl k
  · exact lv_dup2_2 hexec hb hdg rfl k
  · exact lv_pop hexec hb hdg rfl k
  · exact lv_pop hexec hb hdg rfl k
  · exact lv_pop2_2 hexec hb hdg rfl k
/-! jumps -/
def ab_cmp : ClassFile.Cond → Int32 → Int32 → Prop
  | .eq, x, y => x = y
  | .ne, x, y => ¬ x = y
  | .lt, x, y => x < y
  | .ge, x, y => y ≤ x
  | .gt, x, y => y < x
  | .le, x, y => x ≤ y
end ABO
