/-! ===== the law's opening: walks over one row of locals ===== -/
section LWF
variable {G : ab_G} {M : ab_MD} {fr : Bool} {n0 : Nat} {p : Program} {e : Env} {R : Room} {s : State} {m : MethodId} {args : Array Value} {below : List Frame} {meth : Method} {c : Code} {Q : State → Prop} {cells slots pc : Nat} {ls : Array Slot} {st : List Value} {h : ab_H}
def ab_F (G : ab_G) (fr : Bool) (n0 : Nat) (p : Program) (e : Env) (R : Room) (s : State) (m : MethodId) (args : Array Value) (below : List Frame) (meth : Method) (c : Code) (Q : State → Prop) (cells slots pc : Nat) (ls : Array Slot) (st : List Value) (h : ab_H) : Prop :=
  ∀ (H : Heap) (locs : List Loc), ab_J G fr n0 s H locs cells h → W p G.1 e R s m args below meth c H locs cells slots Q (F0 m pc ls (st.map (ab_v (ab_ad G))))
theorem F_eq {h1 : ab_H} (q : h1 = h) (k : ab_F G fr n0 p e R s m args below meth c Q cells slots pc ls st h1) : ab_F G fr n0 p e R s m args below meth c Q cells slots pc ls st h := q ▸ k
theorem F_after {mc ms : Nat} {post : Option Value → ab_H → Prop} {a : Array Value} {rest : List Value} {st0 : List Value} {H : Heap} {locs : List Loc}
    (hr : va_Run p G.1 e R s m args below meth c H locs cells slots mc ms (F0 m pc ls st0) (rest.map (ab_v (ab_ad G))) (ab_Q G fr (h.length + mc) post a) (ab_A G)) (J : ab_J G fr n0 s H locs cells h)
    (k : ∀ (r : Option Value) (h' : ab_H), post r h' → ab_F G fr n0 p e R s m args below meth c Q (cells + mc) (slots + ms) (pc + 3) ls (r.toList ++ rest) h') : W p G.1 e R s m args below meth c H locs cells slots Q (F0 m pc ls st0) := by
  intro T hT X
  obtain ⟨v, st₀, t, T', L1, e0, X', hL, e1, e2, ⟨⟨r, h', hv, hp, ⟨hP', hD', hB', hfr'⟩, hn'⟩, hF⟩, stp⟩ := hr T hT X
  obtain ⟨hP, hD, hS, hB, hfr⟩ := J
  cases hv
  rw [← e1] at hP'
  have hF1 : H.size ≤ T'.heap.size ∧ ∀ q : Nat, q < H.size → ¬ ab_A G q → T'.heap[q]? = H[q]? := by
    rw [e1, ← e0]
    exact hF
  have J' : ab_J G fr n0 s T'.heap (locs ++ L1) (cells + mc) h' := by
    refine ⟨hP', hD', ⟨Nat.le_trans hS.1 hF1.1, fun q h1 h2 => (hF1.2 q (Nat.lt_of_lt_of_le h1 hS.1) h2).trans (hS.2.1 q h1 h2), fun q hq => ?_⟩, hB, fun q => ⟨(hfr q).1, (hfr q).2.1, by rw [hn' q, ← (hfr q).2.2]; omega⟩⟩
    rcases List.mem_append.mp hq with h | h
    · exact hS.2.2 q h
    · exact hL q h
  obtain ⟨t2, a1, b1⟩ := k r h' hp T'.heap (locs ++ L1) J' T' rfl X'
  refine ⟨t2, stp t2 ?_, b1⟩
  have es : (r.map (ab_v (ab_ad G))).toList ++ rest.map (ab_v (ab_ad G)) = (r.toList ++ rest).map (ab_v (ab_ad G)) := by cases r <;> simp
  rw [es]
  exact a1
theorem F_callX {M' : ab_MD} {n d mc ms idx a : Nat} {as rest : List Value} {post : Option Value → ab_H → Prop} (hls : ls.size = M.2.2.2.1) (C : ab_C G M p s m args meth c) (hZ : sx_Z G s) (row : ab_lk M.2.2.2.2.2.2 pc = some (.invokespecial idx, 3)) (hm : ab_lk M.1.2.2.2.1 idx = some M'.2.1) (ok : ab_OK M' n) (hk : Cond.instanceMethod M'.2.1 ∈ ab_T) (hini : M'.2.1.name = "<init>") (hret : M'.2.2.2.2.1 = none)
    (ct : xCT G d M' fr (.ref a :: as) h mc ms post) (hst : st = as.reverse ++ .ref a :: rest) (hn : as.length = n) (hsum : (rest.map fun v => v.category).sum ≤ 8) (hR : d + 1 ≤ R.frames ∧ 64 * d + 64 ≤ R.locals ∧ cells + mc ≤ R.cells ∧ slots + ms ≤ R.slots)
    (k : ∀ (r : Option Value) (h' : ab_H), post r h' → ab_F G fr n0 p e R s m args below meth c Q (cells + mc) (slots + ms) (pc + 3) ls (r.toList ++ rest) h') : ab_F G fr n0 p e R s m args below meth c Q cells slots pc ls st h := by
  intro H locs J T hT X
  have I := ab_inv J hT X
  obtain ⟨hx, hb, hts, hown, hml, hnm, hK, hOM⟩ := C
  refine F_after (st0 := st.map (ab_v (ab_ad G))) (va_runI (cc := M.2.2.1) (nL := M.2.2.2.1) (Ts := ab_T) (own := M.1.1) (b := ab_ad G a) (As := as.map (ab_v (ab_ad G))) ⟨hx, hb, hml, hown, hts⟩ ct ⟨callB_of (bytes := M'.2.2.1) (maxL := M'.2.2.2.1) (ws' := ab_T) n hts (ab_good ok) (by show ab_ws M' = _; rw [ab_ws, hret]) rfl rfl (hts _ ok.2.2.1) (hts _ (hOM.1.2.1 _ (ab_lk_mem hm))) ok.2.2.2.2.1 ⟨hR.1, ?_⟩, hini, hts _ hk⟩ ⟨x_blind G fr _ h, fun U hU hW => ⟨⟨rfl, ab_K_warm hW hK, by rw [hU]; exact I⟩, hZ.go hU hW J.2.2.1.2.1⟩⟩ rfl (by rw [List.length_map]; exact hn) hls ?_ (lv_room (by rw [ab_cat_sum]; exact hsum)) (hOM.2.2.2 _ (ab_lk_mem row)).1 hR.2.2) J k T hT X
  · have := ok.2.2.2.2.2
    show 8 + (M'.2.2.2.1 + 11) + 64 * d ≤ R.locals
    omega
  · show st.map (ab_v (ab_ad G)) = _
    rw [hst, List.map_append, List.map_reverse]
    rfl
theorem F_callI {M' : ab_MD} {n d mc ms idx a : Nat} {as rest : List Value} {post : Option Value → ab_H → Prop} (hls : ls.size = M.2.2.2.1) (C : ab_C G M p s m args meth c) (row : ab_lk M.2.2.2.2.2.2 pc = some (.invokespecial idx, 3)) (hm : ab_lk M.1.2.2.2.1 idx = some M'.2.1) (ok : ab_OK M' n) (hk : Cond.instanceMethod M'.2.1 ∈ ab_T) (hini : M'.2.1.name = "<init>") (hret : M'.2.2.2.2.1 = none)
    (ct : ab_CT G d M' fr (.ref a :: as) h mc ms post) (hst : st = as.reverse ++ .ref a :: rest) (hn : as.length = n) (hsum : (rest.map fun v => v.category).sum ≤ 8) (hR : d + 1 ≤ R.frames ∧ 64 * d + 64 ≤ R.locals ∧ cells + mc ≤ R.cells ∧ slots + ms ≤ R.slots)
    (k : ∀ (r : Option Value) (h' : ab_H), post r h' → ab_F G fr n0 p e R s m args below meth c Q (cells + mc) (slots + ms) (pc + 3) ls (r.toList ++ rest) h') : ab_F G fr n0 p e R s m args below meth c Q cells slots pc ls st h := by
  intro H locs J T hT X
  have I := ab_inv J hT X
  obtain ⟨hx, hb, hts, hown, hml, hnm, hK, hOM⟩ := C
  refine F_after (st0 := st.map (ab_v (ab_ad G))) (va_runI (cc := M.2.2.1) (nL := M.2.2.2.1) (Ts := ab_T) (own := M.1.1) (b := ab_ad G a) (As := as.map (ab_v (ab_ad G))) ⟨hx, hb, hml, hown, hts⟩ ct ⟨callB_of (bytes := M'.2.2.1) (maxL := M'.2.2.2.1) (ws' := ab_T) n hts (ab_good ok) (by show ab_ws M' = _; rw [ab_ws, hret]) rfl rfl (hts _ ok.2.2.1) (hts _ (hOM.1.2.1 _ (ab_lk_mem hm))) ok.2.2.2.2.1 ⟨hR.1, ?_⟩, hini, hts _ hk⟩ ⟨ab_blind G fr _ h, fun U hU hW => ⟨rfl, ab_K_warm hW hK, by rw [hU]; exact I⟩⟩ rfl (by rw [List.length_map]; exact hn) hls ?_ (lv_room (by rw [ab_cat_sum]; exact hsum)) (hOM.2.2.2 _ (ab_lk_mem row)).1 hR.2.2) J k T hT X
  · have := ok.2.2.2.2.2
    show 8 + (M'.2.2.2.1 + 11) + 64 * d ≤ R.locals
    omega
  · show st.map (ab_v (ab_ad G)) = _
    rw [hst, List.map_append, List.map_reverse]
    rfl
theorem F_new {idx ci : Nat} {q : vw_C} (C : ab_C G M p s m args meth c) (hf : fr = true) (row : ab_lk M.2.2.2.2.2.2 pc = some (.new idx, 3)) (hq : vwCl[ci]? = some q) (hcl : ab_cl ci q) (w1 : Cond.classLink M.1.1 idx q.1 ∈ ab_T) (w2 : Cond.instantiable q.1 q.2.2 ∈ ab_T) (w3 : Cond.initialized q.1 ∈ ab_T) (hR : cells + 1 ≤ R.cells ∧ slots + q.2.2 ≤ R.slots)
    (k : ab_F G fr n0 p e R s m args below meth c Q (cells + 1) (slots + q.2.2) (pc + 3) ls (.ref h.length :: st) (h ++ [.inr (ci, ab_df ci q.2.2)])) : ab_F G fr n0 p e R s m args below meth c Q cells slots pc ls st h := by
  intro H locs J
  obtain ⟨hx, hb, hts, hown, hml, hnm, hK, hOM⟩ := C
  obtain ⟨hP, hD, hS, hB, hfr⟩ := id J
  have ed : (ab_df ci q.2.2).map (ab_v (ab_ad G)) = ab_df ci q.2.2 := by
    unfold ab_df
    rw [List.map_map]
    exact List.map_congr_left (fun j _ => ab_v_df _ _)
  refine va_new (C := q.1) (T := q.2.1) (N := q.2.2) (fs := ab_df ci q.2.2) hx hb hts hcl.1 (ab_ty ci) hcl.2.1 hown (hts _ w1) (hts _ w2) (hts _ w3) hK.1 hP hD hS (fun z hz => (hB hf z).mpr (by have := (hfr hf).2.1; omega)) hq (fun j hj => ?_) hR.1 hR.2 (hOM.2.2.2 _ (ab_lk_mem row)).1 (fun qa H1 a1 a2 a3 => ?_)
  · unfold ab_df vp_V
    simp [hj]
  · intro T hT X
    have ha := ab_fresh J hf a1 a2 hT X
    have ee : (.inr (ci, ab_df ci q.2.2) : va_E) = ab_e (ab_ad G) G.2.2.1 (.inr (ci, ab_df ci q.2.2)) := by show _ = Sum.inr (ci, (ab_df ci q.2.2).map (ab_v (ab_ad G))); rw [ed]
    rw [ee] at a1 a2
    have J' := ab_J_push J ha a1 a2 a3
    have q2 := k H1 locs J' T hT X
    rw [ha]
    exact q2
theorem F_newa {at9 : ArrayType} {kd N : Nat} {x : Int32} {a0 : vp_A} (C : ab_C G M p s m args meth c) (hf : fr = true) (row : ab_lk M.2.2.2.2.2.2 pc = some (.newarray at9, 2)) (w1 : Cond.arrayClass (newarray.typeOf at9) ∈ ab_T) (hk : (ab_tys G.2.2.1)[kd]? = some (G.2.2.1 kd, newarray.typeOf at9)) (ha : ∀ cA : ClassId, vp_cell cA a0 = arrV cA N (fun _ => defaultValue (newarray.typeOf at9))) (hn : ¬ x < 0) (hN : x.toNatClampNeg = N) (hbytes : N * componentBytes (newarray.typeOf at9) ≤ 536870912) (ht : ab_a (ab_ad G) a0 = a0) (hR : cells + 1 ≤ R.cells ∧ slots + N ≤ R.slots)
    (k : ab_F G fr n0 p e R s m args below meth c Q (cells + 1) (slots + N) (pc + 2) ls (.ref h.length :: st) (h ++ [.inl (kd, a0)])) : ab_F G fr n0 p e R s m args below meth c Q cells slots pc ls (.int x :: st) h := by
  intro H locs J
  obtain ⟨hx, hb, hts, hown, hml, hnm, hK, hOM⟩ := C
  obtain ⟨hP, hD, hS, hB, hfr⟩ := id J
  refine va_newa hx hb (hts _ w1) rfl hK.1 hP hD hS (fun z hz => (hB hf z).mpr (by have := (hfr hf).2.1; omega)) ha hn hN hbytes hR.1 hR.2 (hOM.2.2.2 _ (ab_lk_mem row)).1 (fun qa cA H1 b1 a1 a2 a3 => ?_)
  intro T hT X
  have ha := ab_fresh J hf a1 a2 hT X
  have hcA : cA = G.2.2.1 kd := by
    have r1 := (hK.1.2 kd _ hk).2
    have r2 := (b1.2 (ab_tys G.2.2.1).length (cA, newarray.typeOf at9) (by rw [List.getElem?_append_right (Nat.le_refl _), Nat.sub_self]; rfl)).2
    cases at9 <;> exact Option.some.inj (r2.symm.trans r1)
  rw [hcA] at a1 a2
  have ee : (.inl (G.2.2.1 kd, a0) : va_E) = ab_e (ab_ad G) G.2.2.1 (.inl (kd, a0)) := by show _ = Sum.inl (G.2.2.1 kd, ab_a (ab_ad G) a0); rw [ht]
  rw [ee] at a1 a2
  have q2 := k H1 locs (ab_J_push J ha a1 a2 a3) T hT X
  rw [ha]
  exact q2
theorem F_op {ins : Instr} {n pc' : Nat} {st' : List Value} (C : ab_C G M p s m args meth c) (row : ab_lk M.2.2.2.2.2.2 pc = some (ins, n))
    (go : ∀ (H : Heap) (locs : List Loc), decode M.2.2.1 pc = .ok (ins, n) → W p G.1 e R s m args below meth c H locs cells slots Q (F0 m pc' ls (st'.map (ab_v (ab_ad G)))) → W p G.1 e R s m args below meth c H locs cells slots Q (F0 m pc ls (st.map (ab_v (ab_ad G)))))
    (k : ab_F G fr n0 p e R s m args below meth c Q cells slots pc' ls st' h) : ab_F G fr n0 p e R s m args below meth c Q cells slots pc ls st h :=
  fun H locs J => go H locs (C.2.2.2.2.2.2.2.2.2.2 _ (ab_lk_mem row)).1 (k H locs J)
theorem F_dup {a : Nat} (C : ab_C G M p s m args meth c) (row : ab_lk M.2.2.2.2.2.2 pc = some (.dup, 1)) (k : ab_F G fr n0 p e R s m args below meth c Q cells slots (pc + 1) ls (.ref a :: .ref a :: st) h) : ab_F G fr n0 p e R s m args below meth c Q cells slots pc ls (.ref a :: st) h :=
  F_op C row (fun H locs hd k => lv_dup C.1 C.2.1 hd rfl k) k
theorem F_ic {v : Int32} {k9 : Int} (C : ab_C G M p s m args meth c) (row : ab_lk M.2.2.2.2.2.2 pc = some (.iconst k9, 1)) (hv : Int32.ofInt k9 = v) (k : ab_F G fr n0 p e R s m args below meth c Q cells slots (pc + 1) ls (.int v :: st) h) : ab_F G fr n0 p e R s m args below meth c Q cells slots pc ls st h :=
  F_op C row (fun H locs hd k => lv_iconst (v := v) C.1 C.2.1 hd hv k) k
theorem F_ast {k9 : Fin 4} {i a nL : Nat} {lv lv' : List (Nat × Value)} (C : ab_C G M p s m args meth c) (row : ab_lk M.2.2.2.2.2.2 pc = some (.astore_n k9, 1)) (hi : (k9 : Nat) = i) (hl : lv_has ls nL lv) (hn : i < nL) (he : (i, Value.ref (ab_ad G a)) :: lv.filter (fun q => !(q.1 == i) && !(q.1 + 1 == i && q.2.category == 2)) = lv')
    (k : ∀ ls' : Array Slot, lv_has ls' nL lv' → ab_F G fr n0 p e R s m args below meth c Q cells slots (pc + 1) ls' st h) : ab_F G fr n0 p e R s m args below meth c Q cells slots pc ls (.ref a :: st) h :=
  fun H locs J => lv_astore_n C.1 C.2.1 (C.2.2.2.2.2.2.2.2.2.2 _ (ab_lk_mem row)).1 hi hl hn he (fun ls' h' => k ls' h' H locs J)
theorem F_ist {i nL : Nat} {x : Int32} {lv lv' : List (Nat × Value)} (C : ab_C G M p s m args meth c) (row : ab_lk M.2.2.2.2.2.2 pc = some (.istore i, 2)) (hl : lv_has ls nL lv) (hn : i < nL) (he : (i, Value.int x) :: lv.filter (fun q => !(q.1 == i) && !(q.1 + 1 == i && q.2.category == 2)) = lv')
    (k : ∀ ls' : Array Slot, lv_has ls' nL lv' → ab_F G fr n0 p e R s m args below meth c Q cells slots (pc + 2) ls' st h) : ab_F G fr n0 p e R s m args below meth c Q cells slots pc ls (.int x :: st) h :=
  fun H locs J => lv_istore C.1 C.2.1 (C.2.2.2.2.2.2.2.2.2.2 _ (ab_lk_mem row)).1 hl hn he (fun ls' h' => k ls' h' H locs J)
end LWF

