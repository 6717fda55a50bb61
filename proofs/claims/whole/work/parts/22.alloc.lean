/-! ===== what is made; arrays of references; Object's constructor; nest mates; arraycopy; Math; switches ===== -/
section ABN
variable {G : ab_G} {M : ab_MD} {fr : Bool} {n0 : Nat} {p : Program} {e : Env} {R : Room} {s : State} {m : MethodId} {args : Array Value} {below : List Frame} {meth : Method} {c : Code} {Q : State → Prop} {cells slots pc : Nat} {L L' : List (Option Value)} {st st' : List Value} {h h' : ab_H}
theorem ab_fresh {H H1 : Heap} {locs : List Loc} {T : State} {q : Nat} {ee : va_E} (J : ab_J G fr n0 s H locs cells h) (hf : fr = true) (hP1 : va_P G.2.1 vwCl (ab_W G h ++ [(q, ee)]) H1) (hD1 : va_D (ab_A G) (ab_W G h ++ [(q, ee)])) (hT : T.heap = H1) (X : Stand p G.1 e R s m args below meth c T locs (cells + 1) slots) : q = ab_ad G h.length := by
  obtain ⟨-, -, -, hB, hfr⟩ := J
  obtain ⟨f0, f1, f2⟩ := hfr hf
  have up := X.heapSize
  rw [hT] at up
  have hlen : (ab_W G h).length = h.length := by
    have : ∀ (l : ab_H) (k : Nat), (ab_w (ab_ad G) G.2.2.1 k l).length = l.length := by
      intro l
      induction l with
      | nil => intro k; rfl
      | cons x t ih => intro k; simp [ab_w, ih]
    exact this h 0
  have hq : (ab_W G h ++ [(q, ee)])[h.length]? = some (q, ee) := by
    rw [List.getElem?_append_right (by omega), hlen, Nat.sub_self]
    rfl
  have h1 : q < H1.size := (hP1 _ _ hq).lt
  have h2 : ab_ad G 0 ≤ q := (hB hf q).mp (hD1.2 _ _ hq)
  by_cases hc : q = ab_ad G 0 + h.length
  · rw [f0]; exact hc
  · exfalso
    have hk : q - ab_ad G 0 < h.length := by omega
    have h3 : h[q - ab_ad G 0]? = some h[q - ab_ad G 0] := List.getElem?_eq_getElem hk
    have h4 := ab_at (ad := ab_ad G) (cA := G.2.2.1) h3
    have h5 : (ab_W G h ++ [(q, ee)])[q - ab_ad G 0]? = some (ab_ad G (q - ab_ad G 0), ab_e (ab_ad G) G.2.2.1 h[q - ab_ad G 0]) := by
      rw [List.getElem?_append_left (by rw [hlen]; exact hk)]
      exact h4
    have h6 := hD1.1 _ _ _ _ h5 hq (by show ab_ad G (q - ab_ad G 0) = q; rw [f0]; omega)
    omega
theorem ab_J_push {H H1 : Heap} {locs : List Loc} {q : Nat} {ee : ab_E} (J : ab_J G fr n0 s H locs cells h) (hq : q = ab_ad G h.length) (hP1 : va_P G.2.1 vwCl (ab_W G h ++ [(q, ab_e (ab_ad G) G.2.2.1 ee)]) H1) (hD1 : va_D (ab_A G) (ab_W G h ++ [(q, ab_e (ab_ad G) G.2.2.1 ee)])) (hS1 : va_S (ab_A G) s.heap H1 locs) : ab_J G fr n0 s H1 locs (cells + 1) (h ++ [ee]) := by
  subst hq
  have hw : ab_W G (h ++ [ee]) = ab_W G h ++ [(ab_ad G h.length, ab_e (ab_ad G) G.2.2.1 ee)] := by
    have := ab_w_app (ab_ad G) G.2.2.1 ee h 0
    rwa [Nat.zero_add] at this
  refine ⟨by rw [hw]; exact hP1, by rw [hw]; exact hD1, hS1, J.2.2.2.1, fun q => ?_⟩
  obtain ⟨f0, f1, f2⟩ := J.2.2.2.2 q
  exact ⟨f0, f1, by rw [List.length_append, List.length_singleton]; omega⟩
def ab_df (ci N : Nat) : List Value := (List.range N).map (fun j => defaultValue (ab_ty ci j))
theorem ab_v_df (ad : Nat → Nat) (ty : FieldType) : ab_v ad (defaultValue ty) = defaultValue ty := by cases ty <;> rfl
theorem ab_new {idx ci : Nat} {q : vw_C} (C : ab_C G M p s m args meth c) (hf : fr = true) (row : ab_lk M.2.2.2.2.2.2 pc = some (.new idx, 3)) (hq : vwCl[ci]? = some q) (hcl : ab_cl ci q) (w1 : Cond.classLink M.1.1 idx q.1 ∈ ab_T) (w2 : Cond.instantiable q.1 q.2.2 ∈ ab_T) (w3 : Cond.initialized q.1 ∈ ab_T) (hR : cells + 1 ≤ R.cells ∧ slots + q.2.2 ≤ R.slots)
    (k : ab_R G M fr n0 p e R s m args below meth c Q (cells + 1) (slots + q.2.2) (pc + 3) L (.ref h.length :: st) (h ++ [.inr (ci, ab_df ci q.2.2)])) : ab_R G M fr n0 p e R s m args below meth c Q cells slots pc L st h := by
  intro H locs ls J hlv
  obtain ⟨hx, hb, hts, hown, hml, hnm, hK, hOM⟩ := C
  obtain ⟨hP, hD, hS, hB, hfr⟩ := id J
  have ed : (ab_df ci q.2.2).map (ab_v (ab_ad G)) = ab_df ci q.2.2 := by
    unfold ab_df
    rw [List.map_map]
    exact List.map_congr_left (fun j _ => ab_v_df _ _)
  refine va_new (C := q.1) (T := q.2.1) (N := q.2.2) (fs := ab_df ci q.2.2) hx hb hts hcl.1 (ab_ty ci) hcl.2.1 hown (hts _ w1) (hts _ w2) (hts _ w3) hK.1 hP hD hS (fun z hz => (hB hf z).mpr (by have := (hfr hf).2.1; omega)) hq (fun j hj => ?_) hR.1 hR.2 (hOM.2.2.2 _ (ab_lk_mem row)).1 (fun qa H1 a1 a2 a3 => ?_)
  · unfold ab_df vp_V
    simp [hj]
  · intro T hT X
    have ha := ab_fresh J hf a1 a2 hT X
    have ee : (.inr (ci, ab_df ci q.2.2) : va_E) = ab_e (ab_ad G) G.2.2.1 (.inr (ci, ab_df ci q.2.2)) := by show _ = Sum.inr (ci, (ab_df ci q.2.2).map (ab_v (ab_ad G))); rw [ed]
    rw [ee] at a1 a2
    have J' := ab_J_push J ha a1 a2 a3
    have q2 := k H1 locs ls J' hlv T hT X
    rw [ha]
    exact q2
/-- an array of numbers: kind 0 ints, 1 longs, 2 booleans -/
theorem ab_newa {at9 : ArrayType} {kd N : Nat} {x : Int32} {a0 : vp_A} (C : ab_C G M p s m args meth c) (hf : fr = true) (row : ab_lk M.2.2.2.2.2.2 pc = some (.newarray at9, 2)) (w1 : Cond.arrayClass (newarray.typeOf at9) ∈ ab_T) (hk : (ab_tys G.2.2.1)[kd]? = some (G.2.2.1 kd, newarray.typeOf at9)) (ha : ∀ cA : ClassId, vp_cell cA a0 = arrV cA N (fun _ => defaultValue (newarray.typeOf at9))) (hn : ¬ x < 0) (hN : x.toNatClampNeg = N) (hbytes : N * componentBytes (newarray.typeOf at9) ≤ 536870912) (ht : ab_a (ab_ad G) a0 = a0) (hR : cells + 1 ≤ R.cells ∧ slots + N ≤ R.slots)
    (k : ab_R G M fr n0 p e R s m args below meth c Q (cells + 1) (slots + N) (pc + 2) L (.ref h.length :: st) (h ++ [.inl (kd, a0)])) : ab_R G M fr n0 p e R s m args below meth c Q cells slots pc L (.int x :: st) h := by
  intro H locs ls J hlv
  obtain ⟨hx, hb, hts, hown, hml, hnm, hK, hOM⟩ := C
  obtain ⟨hP, hD, hS, hB, hfr⟩ := id J
  refine va_newa hx hb (hts _ w1) rfl hK.1 hP hD hS (fun z hz => (hB hf z).mpr (by have := (hfr hf).2.1; omega)) ha hn hN hbytes hR.1 hR.2 (hOM.2.2.2 _ (ab_lk_mem row)).1 (fun qa cA H1 b1 a1 a2 a3 => ?_)
  intro T hT X
  have ha := ab_fresh J hf a1 a2 hT X
  have hcA : cA = G.2.2.1 kd := by
    have r1 := (hK.1.2 kd _ hk).2
    have r2 := (b1.2 (ab_tys G.2.2.1).length (cA, newarray.typeOf at9) (by rw [List.getElem?_append_right (Nat.le_refl _), Nat.sub_self]; rfl)).2
    cases at9 <;> exact Option.some.inj (r2.symm.trans r1)
  rw [hcA] at a1 a2
  have ee : (.inl (G.2.2.1 kd, a0) : va_E) = ab_e (ab_ad G) G.2.2.1 (.inl (kd, a0)) := by show _ = Sum.inl (G.2.2.1 kd, ab_a (ab_ad G) a0); rw [ht]
  rw [ee] at a1 a2
  have q2 := k H1 locs ls (ab_J_push J ha a1 a2 a3) hlv T hT X
  rw [ha]
  exact q2
theorem ab_newq {kd idx N : Nat} {x : Int32} {Cn : String} (C : ab_C G M p s m args meth c) (hf : fr = true) (row : ab_lk M.2.2.2.2.2.2 pc = some (.anewarray idx, 3)) (w1 : Cond.classLink M.1.1 idx Cn ∈ ab_T) (hao : va_AO Cn s) (hk : (ab_tys G.2.2.1)[kd]? = some (G.2.2.1 kd, .object Cn)) (hn : ¬ x < 0) (hN : x.toNatClampNeg = N) (hbytes : N * 4 ≤ 536870912) (hR : cells + 1 ≤ R.cells ∧ slots + N ≤ R.slots)
    (k : ab_R G M fr n0 p e R s m args below meth c Q (cells + 1) (slots + N) (pc + 3) L (.ref h.length :: st) (h ++ [.inl (kd, N, .inr (.inr (.inr (.inr (fun _ => none)))))])) : ab_R G M fr n0 p e R s m args below meth c Q cells slots pc L (.int x :: st) h := by
  intro H locs ls J hlv
  obtain ⟨hx, hb, hts, hown, hml, hnm, hK, hOM⟩ := C
  obtain ⟨hP, hD, hS, hB, hfr⟩ := id J
  refine va_newq hx hb hown (hts _ w1) hao hK.1 hP hD hS (fun z hz => (hB hf z).mpr (by have := (hfr hf).2.1; omega)) hn hN hbytes hR.1 hR.2 (hOM.2.2.2 _ (ab_lk_mem row)).1 (fun qa cA H1 b1 a1 a2 a3 => ?_)
  intro T hT X
  have ha := ab_fresh J hf a1 a2 hT X
  have hcA : cA = G.2.2.1 kd := by
    obtain ⟨k1, c1, -, -, -, r1⟩ := (hK.1.2 kd _ hk).2
    obtain ⟨k2, c2, -, -, -, r2⟩ := (b1.2 (ab_tys G.2.2.1).length (cA, .object Cn) (by rw [List.getElem?_append_right (Nat.le_refl _), Nat.sub_self]; rfl)).2
    exact Option.some.inj (r2.symm.trans r1)
  rw [hcA] at a1 a2
  have q2 := k H1 locs ls (ab_J_push (ee := .inl (kd, N, .inr (.inr (.inr (.inr (fun _ => none)))))) J ha a1 a2 a3) hlv T hT X
  rw [ha]
  exact q2
/-- a reference into an array of references -/
theorem ab_astq {kd ci N a v : Nat} {i : Int32} {r : vw_C} {vs : List Value} {f : Nat → Option Nat} (C : ab_C G M p s m args meth c) (row : ab_lk M.2.2.2.2.2.2 pc = some (.aastore, 1)) (he : h[a]? = some (.inl (kd, N, .inr (.inr (.inr (.inr f)))))) (hv : h[v]? = some (.inr (ci, vs))) (hr : vwCl[ci]? = some r) (hk : (ab_tys G.2.2.1)[kd]? = some (G.2.2.1 kd, .object r.1)) (hin : vp_in i N)
    (k : ab_R G M fr n0 p e R s m args below meth c Q cells slots (pc + 1) L st (h.set a (.inl (kd, N, .inr (.inr (.inr (.inr (va_up f i.toNatClampNeg (some v))))))))) : ab_R G M fr n0 p e R s m args below meth c Q cells slots pc L (.ref v :: .int i :: .ref a :: st) h := by
  intro H locs ls J hlv
  obtain ⟨hx, hb, hts, hown, hml, hnm, hK, hOM⟩ := C
  obtain ⟨hP, hD, hS, hB, hfr⟩ := id J
  have ee : (fun j => (va_up f i.toNatClampNeg (some v) j).map (ab_ad G)) = va_up (fun j => (f j).map (ab_ad G)) i.toNatClampNeg (some (ab_ad G v)) := by
    funext j
    unfold va_up
    split <;> rfl
  refine va_astq hx hb hK.1 hP hD hS _ kd _ ci (ab_at he) hk (ab_at hv) hr hin (hOM.2.2.2 _ (ab_lk_mem row)).1 (fun H1 locs1 a1 a2 a3 => k H1 locs1 ls (J.upd (ee := .inl (kd, N, .inr (.inr (.inr (.inr (va_up f i.toNatClampNeg (some v))))))) ?_ ?_ a3) hlv)
  · rw [show ab_e (ab_ad G) G.2.2.1 (.inl (kd, N, .inr (.inr (.inr (.inr (va_up f i.toNatClampNeg (some v))))))) = .inl (G.2.2.1 kd, N, .inr (.inr (.inr (.inr (fun j => (va_up f i.toNatClampNeg (some v) j).map (ab_ad G)))))) from rfl, ee]; exact a1
  · rw [show ab_e (ab_ad G) G.2.2.1 (.inl (kd, N, .inr (.inr (.inr (.inr (va_up f i.toNatClampNeg (some v))))))) = .inl (G.2.2.1 kd, N, .inr (.inr (.inr (.inr (fun j => (va_up f i.toNatClampNeg (some v) j).map (ab_ad G)))))) from rfl, ee]; exact a2
/-- Object's own constructor -/
theorem ab_obj {idx a : Nat} (C : ab_C G M p s m args meth c) (row : ab_lk M.2.2.2.2.2.2 pc = some (.invokespecial idx, 3)) (w1 : Cond.methodLink M.1.1 idx Lib.objectInit ∈ ab_T) (w2 : Cond.instanceMethod Lib.objectInit ∈ ab_T) (w3 : Cond.code Lib.objectInit ⟨#[0xb1]⟩ 1 none ∈ ab_T) (hsum : (st.map fun v => v.category).sum ≤ 8) (hR : 1 ≤ R.frames ∧ 20 ≤ R.locals)
    (k : ab_R G M fr n0 p e R s m args below meth c Q cells slots (pc + 3) L st h) : ab_R G M fr n0 p e R s m args below meth c Q cells slots pc L (.ref a :: st) h := by
  intro H locs ls J hlv
  obtain ⟨hx, hb, hts, hown, hml, hnm, hK, hOM⟩ := C
  refine W.objInit hx hb hown (hts _ w1) (hts _ w2) (hts _ w3) rfl (hlv.1.trans hml.symm) rfl (hOM.2.2.2 _ (ab_lk_mem row)).1 hR.1 ?_ (k H locs ls J hlv)
  have := ab_cat_sum (ab_ad G) st
  show 2 * 0 + ((st.map (ab_v (ab_ad G))).map fun v => v.category).sum + 12 ≤ R.locals
  omega
/-- a nest mate's own constructor -/
theorem ab_callN {M' : ab_MD} {n d mc ms idx a : Nat} {host : String} {as rest : List Value} {post : Option Value → ab_H → Prop} (C : ab_C G M p s m args meth c) (row : ab_lk M.2.2.2.2.2.2 pc = some (.invokespecial idx, 3)) (hm : (M.1.1, idx, M'.2.1, host) ∈ ab_nq) (ok : ab_OK M' n) (hk : Cond.instanceMethod M'.2.1 ∈ ab_T) (hini : M'.2.1.name = "<init>") (hret : M'.2.2.2.2.1 = none)
    (ct : ab_CT G d M' fr (.ref a :: as) h mc ms post) (hst : st = as.reverse ++ .ref a :: rest) (hn : as.length = n) (hsum : (rest.map fun v => v.category).sum ≤ 8) (hR : d + 1 ≤ R.frames ∧ 64 * d + 64 ≤ R.locals ∧ cells + mc ≤ R.cells ∧ slots + ms ≤ R.slots)
    (k : ∀ (r : Option Value) (h' : ab_H), post r h' → ab_R G M fr n0 p e R s m args below meth c Q (cells + mc) (slots + ms) (pc + 3) L (r.toList ++ rest) h') : ab_R G M fr n0 p e R s m args below meth c Q cells slots pc L st h := by
  intro H locs ls J hlv T hT X
  have I := ab_inv J hT X
  obtain ⟨hx, hb, hts, hown, hml, hnm, hK, hOM⟩ := C
  refine ab_after (st0 := st.map (ab_v (ab_ad G))) (va_runIN (cc := M.2.2.1) (nL := M.2.2.2.1) (Ts := ab_T) (own := M.1.1) (host := host) (b := ab_ad G a) (As := as.map (ab_v (ab_ad G))) ⟨hx, hb, hml, hown, hts⟩ ct ⟨va_cnB (bytes := M'.2.2.1) (maxL := M'.2.2.2.1) (ws' := ab_T) n hts (ab_good ok) (by show ab_ws M' = _; rw [ab_ws, hret]) rfl rfl (hK.2.1 _ hm) (hts _ ok.2.2.1) ok.2.2.2.2.1 ⟨hR.1, ?_⟩, hini, hts _ hk⟩ ⟨ab_blind G fr _ h, fun U hU hW => ⟨rfl, ab_K_warm hW hK, by rw [hU]; exact I⟩⟩ rfl (by rw [List.length_map]; exact hn) hlv.1 ?_ (lv_room (by rw [ab_cat_sum]; exact hsum)) (hOM.2.2.2 _ (ab_lk_mem row)).1 hR.2.2) J hlv k T hT X
  · have := ok.2.2.2.2.2
    show 8 + (M'.2.2.2.1 + 11) + 64 * d ≤ R.locals
    omega
  · show st.map (ab_v (ab_ad G)) = _
    rw [hst, List.map_append, List.map_reverse]
    rfl
/-- System.arraycopy of ints -/
theorem ab_copy {idx a0 a1 N0 N1 : Nat} {f g : Nat → Int32} {sp dp n : Int32} (C : ab_C G M p s m args meth c) (row : ab_lk M.2.2.2.2.2.2 pc = some (.invokestatic idx, 3)) (w1 : Cond.methodLink M.1.1 idx arraycopyName ∈ ab_T) (w2 : Cond.native arraycopyName ∈ ab_T) (w3 : Cond.static arraycopyName ∈ ab_T) (w4 : Cond.initialized "java/lang/System" ∈ ab_T)
    (he0 : h[a0]? = some (.inl (0, N0, .inl f))) (he1 : h[a1]? = some (.inl (0, N1, .inl g))) (h1 : ¬ sp < 0) (h2 : ¬ dp < 0) (h3 : ¬ n < 0) (h4 : sp.toNatClampNeg + n.toNatClampNeg ≤ N0) (h5 : dp.toNatClampNeg + n.toNatClampNeg ≤ N1) (hsum : (st.map fun v => v.category).sum ≤ 8) (hR : 1 ≤ R.frames ∧ 64 ≤ R.locals)
    (k : ab_R G M fr n0 p e R s m args below meth c Q cells slots (pc + 3) L st (h.set a1 (.inl (0, N1, .inl (va_cpy f g sp.toNatClampNeg dp.toNatClampNeg n.toNatClampNeg))))) : ab_R G M fr n0 p e R s m args below meth c Q cells slots pc L (.int n :: .int dp :: .ref a1 :: .int sp :: .ref a0 :: st) h := by
  intro H locs ls J hlv
  obtain ⟨hx, hb, hts, hown, hml, hnm, hK, hOM⟩ := C
  obtain ⟨hP, hD, hS, hB, hfr⟩ := id J
  refine va_copyi hx hb (hml.trans hlv.1.symm) hown (hts _ w1) (hts _ w2) (hts _ w3) (hts _ w4) hK.1 hP hD hS _ _ 0 0 (ab_at he0) (ab_at he1) rfl rfl rfl h1 h2 h3 h4 h5 (fun i _ => rfl) hR.1 ?_ (hOM.2.2.2 _ (ab_lk_mem row)).1 (fun H1 locs1 a1 a2 a3 => k H1 locs1 ls (J.upd a1 a2 a3) hlv)
  have := ab_cat_sum (ab_ad G) st
  have h7 : nativeFrameWords "java/lang/System" "arraycopy" 5 + 11 = 18 := by decide +kernel
  show ((st.map (ab_v (ab_ad G))).map fun v => v.category).sum + (nativeFrameWords "java/lang/System" "arraycopy" 5 + 11) ≤ R.locals
  omega
/-! switches -/
theorem ab_tsw {n9 : Nat} {d lo hi : Int} {offs : Array Int} {x : Int32} {t : Nat} {off : Int} (C : ab_C G M p s m args meth c) (row : ab_lk M.2.2.2.2.2.2 pc = some (.tableswitch d lo hi offs, n9)) (h1 : ¬ x.toInt < lo) (h2 : ¬ hi < x.toInt) (ho : offs[(x.toInt - lo).toNat]? = some off) (ht : (pc : Int) + off = (t : Int))
    (k : ab_R G M fr n0 p e R s m args below meth c Q cells slots t L st h) : ab_R G M fr n0 p e R s m args below meth c Q cells slots pc L (.int x :: st) h := by
  intro H locs ls J hlv
  exact lv_tableIn C.1 C.2.1 (C.2.2.2.2.2.2.2.2.2.2 _ (ab_lk_mem row)).1 h1 h2 ho ht (k H locs ls J hlv)
theorem ab_tsd {n9 : Nat} {d lo hi : Int} {offs : Array Int} {x : Int32} {t : Nat} (C : ab_C G M p s m args meth c) (row : ab_lk M.2.2.2.2.2.2 pc = some (.tableswitch d lo hi offs, n9)) (h1 : x.toInt < lo ∨ hi < x.toInt) (ht : (pc : Int) + d = (t : Int))
    (k : ab_R G M fr n0 p e R s m args below meth c Q cells slots t L st h) : ab_R G M fr n0 p e R s m args below meth c Q cells slots pc L (.int x :: st) h := by
  intro H locs ls J hlv
  exact lv_tableOut C.1 C.2.1 (C.2.2.2.2.2.2.2.2.2.2 _ (ab_lk_mem row)).1 h1 ht (k H locs ls J hlv)
theorem ab_lsw {n9 : Nat} {d : Int} {ps : Array (Int × Int)} {x : Int32} {t : Nat} {off : Int} (C : ab_C G M p s m args meth c) (row : ab_lk M.2.2.2.2.2.2 pc = some (.lookupswitch d ps, n9)) (hp : (ps.toList.zip (ps.toList.drop 1)).all (fun (a, next) => a.1 < next.1) = true) (ho : Op.lookupswitch.offset ps.toList d x.toInt = off) (ht : (pc : Int) + off = (t : Int))
    (k : ab_R G M fr n0 p e R s m args below meth c Q cells slots t L st h) : ab_R G M fr n0 p e R s m args below meth c Q cells slots pc L (.int x :: st) h := by
  intro H locs ls J hlv
  exact lv_lookup C.1 C.2.1 (C.2.2.2.2.2.2.2.2.2.2 _ (ab_lk_mem row)).1 hp ho ht (k H locs ls J hlv)
end ABN
