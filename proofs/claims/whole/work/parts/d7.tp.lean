/-! ===== the text constant of the tape: length() and charAt() ===== -/
abbrev sx_f : Nat → Value := fun j => .int (sx_L.getD j 0)
def sx_W (G : ab_G) (q v : Nat) (U : State) (H : Heap) : Prop := va_Z "java/lang/String" "COMPACT_STRINGS" "Z" (.int 1) (ab_A G) U H ∧ va_Zq "jdk/internal/util/Preconditions" "SIOOBE_FORMATTER" "Ljava/util/function/BiFunction;" (ab_A G) U H ∧ va_O "java/lang/String" q (ab_A G) U H ∧ va_OF "java/lang/String" "coder" "B" (.int 0) q (ab_A G) U H ∧ va_OF "java/lang/String" "value" "[B" (.ref v) q (ab_A G) U H ∧ va_T .byte v sx_N sx_f (ab_A G) U H
theorem sx_W.go {G : ab_G} {q v : Nat} {s U : State} {H H1 : Heap} (hW : s.vm.Alike U.vm) (hq : ∀ a : Nat, a < H.size → ¬ ab_A G a → H1[a]? = H[a]?) (h : sx_W G q v s H) : sx_W G q v U H1 :=
  ⟨(h.1.moved hW).kept hq, (h.2.1.moved hW).kept hq, (h.2.2.1.moved hW).kept hq, (h.2.2.2.1.moved hW).kept hq, (h.2.2.2.2.1.moved hW).kept hq, (h.2.2.2.2.2.moved hW).kept hq⟩
def sx_Pc (G : ab_G) (fr : Bool) (raw : List Value) (h : ab_H) (q v : Nat) : Array Value → State → Prop := va_Pc raw (fun U => (ab_K G U ∧ ab_I G fr h U.heap) ∧ sx_W G q v U U.heap)
theorem sx_blind (G : ab_G) (fr : Bool) (raw : List Value) (h : ab_H) (q v : Nat) : FrameBlind (sx_Pc G fr raw h q v) := fun a U g mk z => ⟨z.1, ⟨ab_K_same (s := U) (U := U.calling g mk a) rfl z.2.1.1, z.2.1.2⟩, sx_W.go (s := U) (U := U.calling g mk a) (Vm.Alike.refl _) (fun _ _ _ => rfl) z.2.2⟩
def sx_CT (G : ab_G) (d : Nat) (y : MethodName) (cc : ByteArray) (n : Nat) (ret : Option FieldType) (fr : Bool) (raw : List Value) (h : ab_H) (q v : Nat) (r : Option Value) : Prop :=
  Met G.1 y (Cond.code y cc n ret :: ab_T) (ab_rm d 0 0) (sx_Pc G fr raw h q v) (ab_Q G fr (h.length + 0) (fun r' h' => r' = r ∧ h' = h)) 0 0 (ab_A G)
def sx_C (G : ab_G) (y : MethodName) (cc : ByteArray) (n : Nat) (p : Program) (s : State) (m : MethodId) (args : Array Value) (c : Code) : Prop := p.tables.exec = Jvm.exec ∧ c.code = cc ∧ (∀ w ∈ ab_T, w.before args s = true) ∧ s.vm.findClass y.cls = some m.cls ∧ c.maxLocals = n ∧ ab_K G s
theorem sx_good {y : MethodName} {cc : ByteArray} {n : Nat} {ret : Option FieldType} (hc : Cond.code y cc n ret ∈ ab_T) : GoodIn ab_T (Cond.code y cc n ret :: ab_T) := by
  intro w hw
  have hw : w ∈ ab_T := by
    rcases List.mem_cons.mp hw with rfl | hw
    · exact hc
    · exact hw
  exact ⟨hw, good_of_word (List.mem_filter.mp hw).2⟩
section SX
variable {G : ab_G} {fr : Bool} {n0 : Nat} {p : Program} {e : Env} {R : Room} {s : State} {m : MethodId} {args : Array Value} {below : List Frame} {meth : Method} {c : Code} {Q : State → Prop} {pc q v cells slots : Nat} {h : ab_H}
theorem sx_ct {y : MethodName} {cc : ByteArray} {n d : Nat} {ret : Option FieldType} {raw : List Value} {r : Option Value} (hy : plainName y.cls = true) (hent : (lg_sl raw).length ≤ n)
    (body : ∀ (p : Program) (e : Env) (s : State) (m : MethodId) (args : Array Value) (below : List Frame) (meth : Method) (c : Code), sx_C G y cc n p s m args c → meth.sig.returnType = ret → meth.locks = false → sx_W G q v s s.heap →
      ∀ (H : Heap) (locs : List Loc) (ls : Array Slot), ab_J G fr h.length s H locs 0 h → lv_has ls n (lv_args 0 raw) → W p G.1 e (ab_rm d 0 0) s m args below meth c H locs 0 0 (MQ below (ab_Q G fr (h.length + 0) (fun r' h' => r' = r ∧ h' = h)) args s 0 0 (ab_A G)) (F0 m 0 ls [])) : sx_CT G d y cc n ret fr raw h q v r := by
  refine Met.ofW (cc := cc) (maxL := n) (ret := ret) hy rfl ?_
  intro p e s m args below meth c s₁ B hml hv
  obtain ⟨rfl, ⟨hK, hP, hD, hB, hfr⟩, hX⟩ := hv
  have hts := atoms_spec (ws := Cond.code y cc n ret :: ab_T) B.pre
  have hown : s.vm.findClass y.cls = some m.cls := findClass_of_methodNamed B.named
  rw [lg_entry_eq]
  have hl := lv_entry raw (n := n) hent
  exact body p e s m _ below meth c ⟨B.exec, B.bytes, fun w hw => hts w (List.mem_cons_of_mem _ hw), hown, hml, hK⟩ B.returns B.notSynchronized hX s.heap [] _ ⟨hP, hD, va_S.rf, hB, fun z => ⟨(hfr z).1, (hfr z).2, rfl⟩⟩ hl
theorem sx_after {r : Option Value} {a : Array Value} {rest st0 : List Value} {H : Heap} {locs : List Loc} {ls : Array Slot}
    (hr : va_Run p G.1 e R s m args below meth c H locs cells slots 0 0 (F0 m pc ls st0) rest (ab_Q G fr (h.length + 0) (fun r' h' => r' = r ∧ h' = h) a) (ab_A G)) (J : ab_J G fr n0 s H locs cells h)
    (k : ∀ (H' : Heap) (locs' : List Loc), ab_J G fr n0 s H' locs' cells h → W p G.1 e R s m args below meth c H' locs' cells slots Q (F0 m (pc + 3) ls ((r.map (ab_v (ab_ad G))).toList ++ rest))) : W p G.1 e R s m args below meth c H locs cells slots Q (F0 m pc ls st0) := by
  intro T hT X
  obtain ⟨w, st₀, t, T', L1, e0, X', hL, e1, e2, ⟨⟨r1, h', hv, ⟨rfl, rfl⟩, ⟨hP', hD', hB', hfr'⟩, hn'⟩, hF⟩, stp⟩ := hr T hT X
  obtain ⟨hP, hD, hS, hB, hfr⟩ := J
  cases hv
  rw [← e1] at hP'
  have hF1 : H.size ≤ T'.heap.size ∧ ∀ q : Nat, q < H.size → ¬ ab_A G q → T'.heap[q]? = H[q]? := by
    rw [e1, ← e0]
    exact hF
  have J' : ab_J G fr n0 s T'.heap (locs ++ L1) cells h' := by
    refine ⟨hP', hD', ⟨Nat.le_trans hS.1 hF1.1, fun q h1 h2 => (hF1.2 q (Nat.lt_of_lt_of_le h1 hS.1) h2).trans (hS.2.1 q h1 h2), fun q hq => ?_⟩, hB, hfr⟩
    rcases List.mem_append.mp hq with h | h
    · exact hS.2.2 q h
    · exact hL q h
  obtain ⟨t2, a1, b1⟩ := k T'.heap (locs ++ L1) J' T' rfl X'
  exact ⟨t2, stp t2 a1, b1⟩
theorem sx_runV {y y' : MethodName} {cc cc' : ByteArray} {n n' d idx k' : Nat} {ret' : Option FieldType} {as rest : List Value} {r : Option Value} {H : Heap} {locs : List Loc} {ls : Array Slot} (C : sx_C G y cc n p s m args c) (hX : sx_W G q v s s.heap) (hls : ls.size = n)
    (hc : Cond.code y' cc' n' ret' ∈ ab_T) (hin : Cond.initialized y'.cls ∈ ab_T) (hm : Cond.methodLink y.cls idx y' ∈ ab_T) (hi : Cond.instanceMethod y' ∈ ab_T) (hse : Cond.selects "java/lang/String" y' y' ∈ ab_T) (hd : y'.cls ≠ "java/lang/invoke/MethodHandle" ∧ y'.cls ≠ "java/lang/invoke/VarHandle" ∧ (parseMethodDescriptor y'.desc).map (fun d => d.parameters.length) = some k')
    (ct : sx_CT G d y' cc' n' ret' fr (.ref q :: as) h q v r) (hn : as.length = k') (hn' : n' ≤ 40) (hsum : (rest.map fun v => v.category).sum ≤ 8) (hR : d + 1 ≤ R.frames ∧ 64 * d + 64 ≤ R.locals ∧ cells ≤ R.cells ∧ slots ≤ R.slots) (hdg : decode cc pc = .ok (.invokevirtual idx, 3)) (J : ab_J G fr n0 s H locs cells h)
    (k : ∀ (H' : Heap) (locs' : List Loc), ab_J G fr n0 s H' locs' cells h → W p G.1 e R s m args below meth c H' locs' cells slots Q (F0 m (pc + 3) ls ((r.map (ab_v (ab_ad G))).toList ++ rest))) : W p G.1 e R s m args below meth c H locs cells slots Q (F0 m pc ls (as.reverse ++ .ref q :: rest)) := by
  intro T hT X
  have I := ab_inv J hT X
  obtain ⟨hx, hb, hts, hown, hml, hK⟩ := C
  obtain ⟨cell, r1, r2, r3, -⟩ := hX.2.2.1.kept J.2.2.1.2.1
  refine sx_after (va_runV (cc := cc) (nL := n) (Ts := ab_T) (own := y.cls) (C := "java/lang/String") (b := q) (As := as) (ret := ret') ⟨hx, hb, hml, hown, hts⟩ ct ⟨callB_of (ws' := ab_T) k' hts (sx_good hc) rfl rfl rfl (hts _ hin) (hts _ hm) hd ⟨hR.1, ?_⟩, hts _ hi, hts _ hse⟩ ⟨sx_blind G fr _ h q v, ⟨cell, r1, r2, r3⟩, fun U hU hW => ⟨rfl, ⟨ab_K_warm hW hK, by rw [hU]; exact I⟩, by rw [hU]; exact hX.go hW.alike J.2.2.1.2.1⟩⟩ rfl hn hls rfl (lv_room hsum) hdg hR.2.2) J k T hT X
  show 8 + (n' + 11) + 64 * d ≤ R.locals
  omega
theorem sx_runS {y y' : MethodName} {cc cc' : ByteArray} {n n' d idx k' : Nat} {ret' : Option FieldType} {as rest : List Value} {r : Option Value} {H : Heap} {locs : List Loc} {ls : Array Slot} (C : sx_C G y cc n p s m args c) (hX : sx_W G q v s s.heap) (hls : ls.size = n)
    (hc : Cond.code y' cc' n' ret' ∈ ab_T) (hin : Cond.initialized y'.cls ∈ ab_T) (hm : Cond.methodLink y.cls idx y' ∈ ab_T) (hst : Cond.static y' ∈ ab_T) (hd : y'.cls ≠ "java/lang/invoke/MethodHandle" ∧ y'.cls ≠ "java/lang/invoke/VarHandle" ∧ (parseMethodDescriptor y'.desc).map (fun d => d.parameters.length) = some k')
    (ct : sx_CT G d y' cc' n' ret' fr as h q v r) (hn : as.length = k') (hn' : n' ≤ 40) (hsum : (rest.map fun v => v.category).sum ≤ 8) (hR : d + 1 ≤ R.frames ∧ 64 * d + 64 ≤ R.locals ∧ cells ≤ R.cells ∧ slots ≤ R.slots) (hdg : decode cc pc = .ok (.invokestatic idx, 3)) (J : ab_J G fr n0 s H locs cells h)
    (k : ∀ (H' : Heap) (locs' : List Loc), ab_J G fr n0 s H' locs' cells h → W p G.1 e R s m args below meth c H' locs' cells slots Q (F0 m (pc + 3) ls ((r.map (ab_v (ab_ad G))).toList ++ rest))) : W p G.1 e R s m args below meth c H locs cells slots Q (F0 m pc ls (as.reverse ++ rest)) := by
  intro T hT X
  have I := ab_inv J hT X
  obtain ⟨hx, hb, hts, hown, hml, hK⟩ := C
  refine sx_after (va_runS (cc := cc) (nL := n) (Ts := ab_T) (own := y.cls) (As := as) (ret := ret') ⟨hx, hb, hml, hown, hts⟩ ct ⟨callB_of (ws' := ab_T) k' hts (sx_good hc) rfl rfl rfl (hts _ hin) (hts _ hm) hd ⟨hR.1, ?_⟩, hts _ hst⟩ ⟨sx_blind G fr _ h q v, fun U hU hW => ⟨rfl, ⟨ab_K_warm hW hK, by rw [hU]; exact I⟩, by rw [hU]; exact hX.go hW.alike J.2.2.1.2.1⟩⟩ rfl hn hls rfl (lv_room hsum) hdg hR.2.2) J k T hT X
  show 8 + (n' + 11) + 64 * d ≤ R.locals
  omega
/-- an int is answered -/
theorem sx_ret {y : MethodName} {cc : ByteArray} {n : Nat} {x : Int32} {ty : FieldType} {H : Heap} {locs : List Loc} {ls : Array Slot} (C : sx_C G y cc n p s m args c) (hr : meth.sig.returnType = some ty) (hn : narrow ty (.int x) = .int x) (hl : meth.locks = false) (hdg : decode cc pc = .ok (.ireturn, 1)) (J : ab_J G fr h.length s H locs 0 h) :
    W p G.1 e R s m args below meth c H locs 0 0 (MQ below (ab_Q G fr (h.length + 0) (fun r' h' => r' = some (.int x) ∧ h' = h)) args s 0 0 (ab_A G)) (F0 m pc ls [.int x]) := by
  intro T hT X
  exact W.zret C.1 C.2.1 hr hn (ab_end (post := fun r' h' => r' = some (.int x) ∧ h' = h) (r := some (.int x)) J hT X ⟨rfl, rfl⟩) J.2.2.1.2.2 hdg hl T hT X
theorem sx_retV {y : MethodName} {cc : ByteArray} {n : Nat} {H : Heap} {locs : List Loc} {ls : Array Slot} (C : sx_C G y cc n p s m args c) (hr : meth.sig.returnType = none) (hl : meth.locks = false) (hdg : decode cc pc = .ok (.return_, 1)) (J : ab_J G fr h.length s H locs 0 h) :
    W p G.1 e R s m args below meth c H locs 0 0 (MQ below (ab_Q G fr (h.length + 0) (fun r' h' => r' = none ∧ h' = h)) args s 0 0 (ab_A G)) (F0 m pc ls []) := by
  intro T hT X
  exact W.vret C.1 C.2.1 hr (ab_end (post := fun r' h' => r' = none ∧ h' = h) (r := none) J hT X ⟨rfl, rfl⟩) J.2.2.1.2.2 hdg hl T hT X
end SX
section SXM
variable {G : ab_G} {fr : Bool} {q v : Nat} {h : ab_H}
theorem sx_coder : sx_CT G 1 yJ0_coder_7d493 cJ0_coder_7d493 1 (some .byte) fr [.ref q] h q v (some (.int 0)) := by
  refine sx_ct (by decide) (Nat.le_of_ble_eq_true rfl) (fun p e s m args below meth c C hr hl hX H locs ls J hL => ?_)
  refine va_gets (C := "java/lang/String") (n := "COMPACT_STRINGS") (d := "Z") (own := yJ0_coder_7d493.cls) (ref := "java/lang/String") C.1 C.2.1 hX.1 J.2.2.1 C.2.2.2.1 (C.2.2.1 _ sw_fl_38) (fun _ z => z) dJ0_coder_7d493_0 ?_
  refine lv_if_eq C.1 C.2.1 (tgt := 13) dJ0_coder_7d493_3 (by decide) (fun z => absurd z (by decide)) (fun _ => ?_)
  refine lv_aload_n C.1 C.2.1 (i := 0) (x := q) dJ0_coder_7d493_6 rfl (lv_at hL 0 rfl) ?_
  refine vk_getf C.1 C.2.1 (own := yJ0_coder_7d493.cls) (ref := "java/lang/String") hX.2.2.2.1 J.2.2.1 C.2.2.2.1 (C.2.2.1 _ sw_fl_15) (fun _ z => z) dJ0_coder_7d493_7 ?_
  refine lv_goto C.1 C.2.1 (tgt := 14) dJ0_coder_7d493_10 (by decide) ?_
  exact sx_ret C hr rfl hl dJ0_coder_7d493_14 J
theorem sx_latin : sx_CT G 1 yJ0_isLatin1_aae02 cJ0_isLatin1_aae02 1 (some .boolean) fr [.ref q] h q v (some (.int 1)) := by
  refine sx_ct (by decide) (Nat.le_of_ble_eq_true rfl) (fun p e s m args below meth c C hr hl hX H locs ls J hL => ?_)
  refine va_gets (C := "java/lang/String") (n := "COMPACT_STRINGS") (d := "Z") (own := yJ0_isLatin1_aae02.cls) (ref := "java/lang/String") C.1 C.2.1 hX.1 J.2.2.1 C.2.2.2.1 (C.2.2.1 _ sw_fl_38) (fun _ z => z) dJ0_isLatin1_aae02_0 ?_
  refine lv_if_eq C.1 C.2.1 (tgt := 17) dJ0_isLatin1_aae02_3 (by decide) (fun z => absurd z (by decide)) (fun _ => ?_)
  refine lv_aload_n C.1 C.2.1 (i := 0) (x := q) dJ0_isLatin1_aae02_6 rfl (lv_at hL 0 rfl) ?_
  refine vk_getf C.1 C.2.1 (own := yJ0_isLatin1_aae02.cls) (ref := "java/lang/String") hX.2.2.2.1 J.2.2.1 C.2.2.2.1 (C.2.2.1 _ sw_fl_15) (fun _ z => z) dJ0_isLatin1_aae02_7 ?_
  refine lv_if_ne C.1 C.2.1 (tgt := 17) dJ0_isLatin1_aae02_10 (by decide) (fun z => absurd rfl z) (fun _ => ?_)
  refine lv_iconst C.1 C.2.1 (v := 1) dJ0_isLatin1_aae02_13 rfl ?_
  refine lv_goto C.1 C.2.1 (tgt := 18) dJ0_isLatin1_aae02_14 (by decide) ?_
  exact sx_ret C hr rfl hl dJ0_isLatin1_aae02_18 J
theorem sx_pre {i : Nat} {w : Value} (hi : i < sx_N) (hw : w.category = 1) (hw2 : lg_sl [w] = [.val w]) : sx_CT G 1 yJ3_checkIndex_8e157 cJ3_checkIndex_8e157 3 (some .int) fr [.int (nI i), .int 120, w] h q v (some (.int (nI i))) := by
  refine sx_ct (by decide) ?_ (fun p e s m args below meth c C hr hl hX H locs ls J hL => ?_)
  · show (Slot.val (.int (nI i)) :: Slot.val (.int 120) :: lg_sl [w]).length ≤ 3
    rw [hw2]
    exact Nat.le_refl _
  have hi' : i < 120 := hi
  refine lv_iload_n C.1 C.2.1 (i := 0) (x := nI i) dJ3_checkIndex_8e157_0 rfl (lv_at hL 0 rfl) ?_
  refine lv_if_lt C.1 C.2.1 (tgt := 9) dJ3_checkIndex_8e157_1 (by decide) (fun z => absurd z (nI_pos (by omega))) (fun _ => ?_)
  refine lv_iload_n C.1 C.2.1 (i := 0) (x := nI i) dJ3_checkIndex_8e157_4 rfl (lv_at hL 0 rfl) ?_
  refine lv_iload_n C.1 C.2.1 (i := 1) (x := 120) dJ3_checkIndex_8e157_5 rfl (lv_at hL 1 rfl) ?_
  refine lv_icmp_lt C.1 C.2.1 (tgt := 16) dJ3_checkIndex_8e157_6 (by decide) (fun _ => ?_) (fun z => absurd (nI_lt (a := i) (b := 120) hi' (by decide)) z)
  refine lv_iload_n C.1 C.2.1 (i := 0) (x := nI i) dJ3_checkIndex_8e157_16 rfl (lv_at hL 0 rfl) ?_
  exact sx_ret C hr rfl hl dJ3_checkIndex_8e157_17 J
theorem sx_chk {i : Nat} (hi : i < sx_N) : sx_CT G 2 yJ0_checkIndex_df160 cJ0_checkIndex_df160 2 none fr [.int (nI i), .int 120] h q v none := by
  refine sx_ct (by decide) (Nat.le_of_ble_eq_true rfl) (fun p e s m args below meth c C hr hl hX H locs ls J hL => ?_)
  refine lv_iload_n C.1 C.2.1 (i := 0) (x := nI i) dJ0_checkIndex_df160_0 rfl (lv_at hL 0 rfl) ?_
  refine lv_iload_n C.1 C.2.1 (i := 1) (x := 120) dJ0_checkIndex_df160_1 rfl (lv_at hL 1 rfl) ?_
  have go : ∀ w : Value, w.category = 1 → lg_sl [w] = [.val w] → va_Z "jdk/internal/util/Preconditions" "SIOOBE_FORMATTER" "Ljava/util/function/BiFunction;" w (ab_A G) s s.heap → W p G.1 e (ab_rm 2 0 0) s m args below meth c H locs 0 0 (MQ below (ab_Q G fr (h.length + 0) (fun r' h' => r' = none ∧ h' = h)) args s 0 0 (ab_A G)) (F0 m 2 ls [.int 120, .int (nI i)]) := by
    intro w hw hw2 hZ
    refine va_gets (own := yJ0_checkIndex_df160.cls) (ref := "jdk/internal/util/Preconditions") C.1 C.2.1 hZ J.2.2.1 C.2.2.2.1 (C.2.2.1 _ sw_fl_1053) (fun _ z => z) dJ0_checkIndex_df160_2 ?_
    refine sx_runS (k' := 3) (as := [.int (nI i), .int 120, w]) (rest := []) C hX hL.1 sw_pre_c sw_in_RJ3 sw_ml_1059 sw_pre_t (by decide) (sx_pre hi hw hw2) rfl (by decide) (by decide) ⟨by decide, by decide, by decide, by decide⟩ dJ0_checkIndex_df160_5 J (fun H' locs' J' => ?_)
    refine lv_pop C.1 C.2.1 (va := .int (nI i)) dJ0_checkIndex_df160_8 rfl ?_
    exact sx_retV C hr hl dJ0_checkIndex_df160_9 J'
  rcases hX.2.1 with hZ | ⟨t, hZ⟩
  · exact go .null rfl rfl hZ
  · exact go (.ref t) rfl rfl hZ
theorem sx_length : sx_CT G 2 yJ0_length_8abf5 cJ0_length_8abf5 1 (some .int) fr [.ref q] h q v (some (.int 120)) := by
  refine sx_ct (by decide) (Nat.le_of_ble_eq_true rfl) (fun p e s m args below meth c C hr hl hX H locs ls J hL => ?_)
  refine lv_aload_n C.1 C.2.1 (i := 0) (x := q) dJ0_length_8abf5_0 rfl (lv_at hL 0 rfl) ?_
  refine vk_getf C.1 C.2.1 (own := yJ0_length_8abf5.cls) (ref := "java/lang/String") hX.2.2.2.2.1 J.2.2.1 C.2.2.2.1 (C.2.2.1 _ sw_fl_9) (fun _ z => z) dJ0_length_8abf5_1 ?_
  refine va_tlen C.1 C.2.1 hX.2.2.2.2.2 J.2.2.1 (v := 120) rfl dJ0_length_8abf5_4 ?_
  refine lv_aload_n C.1 C.2.1 (i := 0) (x := q) dJ0_length_8abf5_5 rfl (lv_at hL 0 rfl) ?_
  refine sx_runV (as := []) (rest := [.int 120]) C hX hL.1 sw_cod_c sw_in_RJ0 sw_ml_335 sw_cod_i sw_cod_s (by decide) sx_coder rfl (by decide) (by decide) ⟨by decide, by decide, by decide, by decide⟩ dJ0_length_8abf5_6 J (fun H' locs' J' => ?_)
  refine lv_ishr C.1 C.2.1 (x := 120) (y := 0) dJ0_length_8abf5_9 ?_
  exact sx_ret (x := 120) C hr rfl hl dJ0_length_8abf5_10 J'
theorem sx_nar : ∀ i, i < 120 → ((sx_L.getD i 0 &&& 255).toUInt32 % 65536).toInt32 = sx_L.getD i 0 ∧ (sx_L.getD i 0).toUInt32 < 65536 := by decide +kernel
theorem sx_nrw : ∀ i, i < 120 → narrow .char (.int (sx_L.getD i 0)) = .int (sx_L.getD i 0) := by decide +kernel
theorem sx_ch1 {i : Nat} (hi : i < sx_N) : sx_CT G 3 yJ1_charAt_3b067 cJ1_charAt_3b067 2 (some .char) fr [.ref v, .int (nI i)] h q v (some (.int (sx_L.getD i 0))) := by
  have hi' : i < 120 := hi
  refine sx_ct (by decide) (Nat.le_of_ble_eq_true rfl) (fun p e s m args below meth c C hr hl hX H locs ls J hL => ?_)
  refine lv_iload_n C.1 C.2.1 (i := 1) (x := nI i) dJ1_charAt_3b067_0 rfl (lv_at hL 1 rfl) ?_
  refine lv_aload_n C.1 C.2.1 (i := 0) (x := v) dJ1_charAt_3b067_1 rfl (lv_at hL 0 rfl) ?_
  refine va_tlen C.1 C.2.1 hX.2.2.2.2.2 J.2.2.1 (v := 120) rfl dJ1_charAt_3b067_2 ?_
  refine sx_runS (k' := 2) (as := [.int (nI i), .int 120]) (rest := []) C hX hL.1 sw_chk_c sw_in_RJ0 sw_ml_9 sw_chk_t (by decide) (sx_chk hi) rfl (by decide) (by decide) ⟨by decide, by decide, by decide, by decide⟩ dJ1_charAt_3b067_3 J (fun H' locs' J' => ?_)
  refine lv_aload_n C.1 C.2.1 (i := 0) (x := v) dJ1_charAt_3b067_6 rfl (lv_at hL 0 rfl) ?_
  refine lv_iload_n C.1 C.2.1 (i := 1) (x := nI i) dJ1_charAt_3b067_7 rfl (lv_at hL 1 rfl) ?_
  refine va_tb C.1 C.2.1 hX.2.2.2.2.2 J'.2.2.1 (i := nI i) (vp_in_nI hi (by decide)) (v := .int (sx_L.getD i 0)) (by rw [nI_clamp (by omega)]) dJ1_charAt_3b067_8 ?_
  refine lv_sipush C.1 C.2.1 (v := 255) dJ1_charAt_3b067_9 rfl ?_
  refine lv_iand C.1 C.2.1 dJ1_charAt_3b067_12 ?_
  refine lv_i2c C.1 C.2.1 (v := sx_L.getD i 0) dJ1_charAt_3b067_13 (sx_nar i hi').1 ?_
  exact sx_ret C hr (sx_nrw i hi') hl dJ1_charAt_3b067_14 J'
theorem sx_charAt {i : Nat} (hi : i < sx_N) : sx_CT G 4 yJ0_charAt_5068e cJ0_charAt_5068e 2 (some .char) fr [.ref q, .int (nI i)] h q v (some (.int (sx_L.getD i 0))) := by
  have hi' : i < 120 := hi
  refine sx_ct (by decide) (Nat.le_of_ble_eq_true rfl) (fun p e s m args below meth c C hr hl hX H locs ls J hL => ?_)
  refine lv_aload_n C.1 C.2.1 (i := 0) (x := q) dJ0_charAt_5068e_0 rfl (lv_at hL 0 rfl) ?_
  refine sx_runV (as := []) (rest := []) C hX hL.1 sw_lat_c sw_in_RJ0 sw_ml_492 sw_lat_i sw_lat_s (by decide) sx_latin rfl (by decide) (by decide) ⟨by decide, by decide, by decide, by decide⟩ dJ0_charAt_5068e_1 J (fun H' locs' J' => ?_)
  refine lv_if_eq C.1 C.2.1 (x := 1) (tgt := 16) dJ0_charAt_5068e_4 (by decide) (fun z => absurd z (by decide)) (fun _ => ?_)
  refine lv_aload_n C.1 C.2.1 (i := 0) (x := q) dJ0_charAt_5068e_7 rfl (lv_at hL 0 rfl) ?_
  refine vk_getf C.1 C.2.1 (own := yJ0_charAt_5068e.cls) (ref := "java/lang/String") hX.2.2.2.2.1 J'.2.2.1 C.2.2.2.1 (C.2.2.1 _ sw_fl_9) (fun _ z => z) dJ0_charAt_5068e_8 ?_
  refine lv_iload_n C.1 C.2.1 (i := 1) (x := nI i) dJ0_charAt_5068e_11 rfl (lv_at hL 1 rfl) ?_
  refine sx_runS (k' := 2) (as := [.ref v, .int (nI i)]) (rest := []) C hX hL.1 sw_ch1_c sw_in_RJ1 sw_ml_495 sw_ch1_t (by decide) (sx_ch1 hi) rfl (by decide) (by decide) ⟨by decide, by decide, by decide, by decide⟩ dJ0_charAt_5068e_12 J' (fun H2 locs2 J2 => ?_)
  exact sx_ret C hr (sx_nrw i hi') hl dJ0_charAt_5068e_15 J2
end SXM

