/-! ===== contracts over abstract worlds; entry, returns, calls ===== -/
def ab_exp : List Value → List (Option Value)
  | [] => []
  | .long x :: t => some (.long x) :: none :: ab_exp t
  | .double x :: t => some (.double x) :: none :: ab_exp t
  | v :: t => some v :: ab_exp t
def ab_pad : Nat → List (Option Value) → List (Option Value)
  | 0, _ => []
  | n + 1, [] => none :: ab_pad n []
  | n + 1, v :: t => v :: ab_pad n t
theorem ab_lg_pad : ∀ (n : Nat) (L : List (Option Value)) (i : Nat) (v : Value), ab_lg (ab_pad n L) i = some v → ab_lg L i = some v
  | 0, L, i, v, h => by simp [ab_pad, ab_lg] at h
  | n + 1, [], 0, v, h => by simp [ab_pad, ab_lg] at h
  | n + 1, [], i + 1, v, h => by
    have := ab_lg_pad n [] i v h
    simp [ab_lg] at this
  | n + 1, w :: t, 0, v, h => h
  | n + 1, w :: t, i + 1, v, h => ab_lg_pad n t i v h
theorem ab_exp_args (ad : Nat → Nat) : ∀ (vs : List Value) (k i : Nat) (v : Value), ab_lg (ab_exp vs) i = some v → (k + i, ab_v ad v) ∈ lv_args k (vs.map (ab_v ad))
  | [], k, i, v, h => by simp [ab_exp, ab_lg] at h
  | .long x :: t, k, 0, v, h => by
    cases h
    simp [lv_args, ab_v]
  | .long x :: t, k, 1, v, h => by simp [ab_exp, ab_lg] at h
  | .long x :: t, k, i + 2, v, h => by
    have := ab_exp_args ad t (k + 2) i v h
    rw [show k + 2 + i = k + (i + 2) by omega] at this
    exact List.mem_cons_of_mem _ this
  | .double x :: t, k, 0, v, h => by
    cases h
    simp [lv_args, ab_v]
  | .double x :: t, k, 1, v, h => by simp [ab_exp, ab_lg] at h
  | .double x :: t, k, i + 2, v, h => by
    have := ab_exp_args ad t (k + 2) i v h
    rw [show k + 2 + i = k + (i + 2) by omega] at this
    exact List.mem_cons_of_mem _ this
  | .int x :: t, k, 0, v, h => by
    cases h
    simp [lv_args, ab_v]
  | .int x :: t, k, i + 1, v, h => by
    have := ab_exp_args ad t (k + 1) i v h
    rw [show k + 1 + i = k + (i + 1) by omega] at this
    exact List.mem_cons_of_mem _ this
  | .float x :: t, k, 0, v, h => by
    cases h
    simp [lv_args, ab_v]
  | .float x :: t, k, i + 1, v, h => by
    have := ab_exp_args ad t (k + 1) i v h
    rw [show k + 1 + i = k + (i + 1) by omega] at this
    exact List.mem_cons_of_mem _ this
  | .null :: t, k, 0, v, h => by
    cases h
    simp [lv_args, ab_v]
  | .null :: t, k, i + 1, v, h => by
    have := ab_exp_args ad t (k + 1) i v h
    rw [show k + 1 + i = k + (i + 1) by omega] at this
    exact List.mem_cons_of_mem _ this
  | .ref x :: t, k, 0, v, h => by
    cases h
    simp [lv_args, ab_v]
  | .ref x :: t, k, i + 1, v, h => by
    have := ab_exp_args ad t (k + 1) i v h
    rw [show k + 1 + i = k + (i + 1) by omega] at this
    exact List.mem_cons_of_mem _ this
  | .retAddr x :: t, k, 0, v, h => by
    cases h
    simp [lv_args, ab_v]
  | .retAddr x :: t, k, i + 1, v, h => by
    have := ab_exp_args ad t (k + 1) i v h
    rw [show k + 1 + i = k + (i + 1) by omega] at this
    exact List.mem_cons_of_mem _ this
def ab_I (G : ab_G) (fr : Bool) (h : ab_H) (H : Heap) : Prop := va_P G.2.1 vwCl (ab_W G h) H ∧ va_D (ab_A G) (ab_W G h) ∧ (fr = true → ∀ q, ab_A G q ↔ ab_ad G 0 ≤ q) ∧ (fr = true → (∀ k, ab_ad G k = ab_ad G 0 + k) ∧ H.size = ab_ad G 0 + h.length)
def ab_Pc (G : ab_G) (fr : Bool) (as : List Value) (h : ab_H) : Array Value → State → Prop := va_Pc (as.map (ab_v (ab_ad G))) (fun U => ab_K G U ∧ ab_I G fr h U.heap)
def ab_Q (G : ab_G) (fr : Bool) (n : Nat) (post : Option Value → ab_H → Prop) : Array Value → State → Outcome → State → Prop := fun _ st o t =>
  (∃ (r : Option Value) (h' : ab_H), o = .returned (r.map (ab_v (ab_ad G))) ∧ post r h' ∧ ab_I G fr h' t.heap ∧ (fr = true → h'.length = n)) ∧ va_F (ab_A G) st t
abbrev ab_rm (d mc ms : Nat) : Room := { frames := d, cells := mc, slots := ms, locals := 64 * d }
abbrev ab_ws (M : ab_MD) : List Cond := Cond.code M.2.1 M.2.2.1 M.2.2.2.1 M.2.2.2.2.1 :: ab_T
def ab_CT (G : ab_G) (d : Nat) (M : ab_MD) (fr : Bool) (as : List Value) (h : ab_H) (mc ms : Nat) (post : Option Value → ab_H → Prop) : Prop :=
  Met G.1 M.2.1 (ab_ws M) (ab_rm d mc ms) (ab_Pc G fr as h) (ab_Q G fr (h.length + mc) post) mc ms (ab_A G)
theorem ab_good {n : Nat} {M : ab_MD} (ok : ab_OK M n) : GoodIn ab_T (ab_ws M) := by
  intro w hw
  have hw : w ∈ ab_T := by
    rcases List.mem_cons.mp hw with rfl | hw
    · exact ok.2.1
    · exact hw
  exact ⟨hw, good_of_word (List.mem_filter.mp hw).2⟩
theorem ab_blind (G : ab_G) (fr : Bool) (as : List Value) (h : ab_H) : FrameBlind (ab_Pc G fr as h) := fun a U g mk q => ⟨q.1, ab_K_same (s := U) (U := U.calling g mk a) rfl q.2.1, q.2.2⟩
section ABC
variable {G : ab_G} {M : ab_MD} {fr : Bool} {n0 : Nat} {p : Program} {e : Env} {R : Room} {s : State} {m : MethodId} {args : Array Value} {below : List Frame} {meth : Method} {c : Code} {Q : State → Prop} {cells slots pc : Nat} {L L' : List (Option Value)} {st st' : List Value} {h h' : ab_H}
theorem ab_size {H : Heap} {locs : List Loc} {T : State} (J : ab_J G fr n0 s H locs cells h) (hT : T.heap = H) (X : Stand p G.1 e R s m args below meth c T locs cells slots) (hf : fr = true) : (∀ k, ab_ad G k = ab_ad G 0 + k) ∧ H.size = ab_ad G 0 + h.length := by
  obtain ⟨hP, hD, hS, hB, hfr⟩ := J
  obtain ⟨f0, f1, f2⟩ := hfr hf
  refine ⟨f0, ?_⟩
  have up := X.heapSize
  rw [hT] at up
  have lo : ab_ad G 0 + h.length ≤ H.size := by
    by_cases hz : h.length = 0
    · have := hS.1
      omega
    · have hlt : h.length - 1 < h.length := by omega
      have h1 : h[h.length - 1]? = some h[h.length - 1] := List.getElem?_eq_getElem hlt
      have h2 := (hP _ _ (ab_at h1)).lt
      have h3 : ab_ad G 0 + (h.length - 1) < H.size := by have := f0 (h.length - 1); omega
      omega
  omega
/-- A CONTRACT out of the walk of its body -/
theorem ab_ct {n d mc ms : Nat} {as : List Value} {post : Option Value → ab_H → Prop} (ok : ab_OK M n) (hent : (lg_sl (as.map (ab_v (ab_ad G)))).length ≤ M.2.2.2.1)
    (body : ∀ (p : Program) (e : Env) (s : State) (m : MethodId) (args : Array Value) (below : List Frame) (meth : Method) (c : Code), ab_C G M p s m args meth c → meth.sig.returnType = M.2.2.2.2.1 → meth.locks = false →
      ab_R G M fr h.length p e (ab_rm d mc ms) s m args below meth c (MQ below (ab_Q G fr (h.length + mc) post) args s mc ms (ab_A G)) 0 0 0 (ab_pad M.2.2.2.1 (ab_exp as)) [] h) : ab_CT G d M fr as h mc ms post := by
  refine Met.ofW (cc := M.2.2.1) (maxL := M.2.2.2.1) (ret := M.2.2.2.2.1) ok.2.2.2.1 rfl ?_
  intro p e s m args below meth c s₁ B hml hv
  obtain ⟨rfl, hK, hP, hD, hB, hfr⟩ := hv
  have hts := atoms_spec (ws := ab_ws M) B.pre
  have hown : s.vm.findClass M.2.1.cls = some m.cls := findClass_of_methodNamed B.named
  rw [lg_entry_eq]
  have hl := lv_entry (as.map (ab_v (ab_ad G))) (n := M.2.2.2.1) hent
  refine body p e s m _ below meth c ⟨B.exec, B.bytes, fun w hw => hts w (List.mem_cons_of_mem _ hw), ok.1.2.1 ▸ hown, hml, (name_of_methodNamed B.named B.method).1, hK, ok.1⟩ B.returns B.notSynchronized s.heap [] _ ⟨hP, hD, va_S.rf, hB, fun q => ⟨(hfr q).1, (hfr q).2, rfl⟩⟩ ⟨hl.1, hl.2.1, fun i v hi => ?_⟩
  have h1 := ab_exp_args (ab_ad G) as 0 i v (ab_lg_pad _ _ _ _ hi)
  rw [Nat.zero_add] at h1
  exact hl.2.2 _ h1
/-! returns -/
theorem ab_end {mc ms : Nat} {post : Option Value → ab_H → Prop} {H : Heap} {locs : List Loc} {T : State} {r : Option Value} (J : ab_J G fr n0 s H locs mc h) (hT : T.heap = H) (X : Stand p G.1 e R s m args below meth c T locs mc ms) (hp : post r h) :
    ∀ t : State, t.heap = H → s.WarmedH t.vm → ab_Q G fr (n0 + mc) post args s (.returned (r.map (ab_v (ab_ad G)))) t := by
  intro t ht _
  have hsz := ab_size J hT X
  obtain ⟨hP, hD, hS, hB, hfr⟩ := J
  refine ⟨⟨r, h, rfl, hp, ⟨by rw [ht]; exact hP, hD, hB, fun q => by rw [ht]; exact hsz q⟩, fun q => (hfr q).2.2.symm⟩, hS.F ht⟩
theorem ab_retI {mc ms : Nat} {post : Option Value → ab_H → Prop} {x : Int32} {ty : FieldType} (C : ab_C G M p s m args meth c) (hr : meth.sig.returnType = M.2.2.2.2.1) (hl : meth.locks = false) (row : ab_lk M.2.2.2.2.2.2 pc = some (.ireturn, 1)) (hty : M.2.2.2.2.1 = some ty) (hn : narrow ty (.int x) = .int x) (hp : post (some (.int x)) h) :
    ab_R G M fr n0 p e R s m args below meth c (MQ below (ab_Q G fr (n0 + mc) post) args s mc ms (ab_A G)) mc ms pc L [.int x] h := by
  intro H locs ls J hlv T hT X
  exact W.zret C.1 C.2.1 (hr.trans hty) hn (ab_end (r := some (.int x)) J hT X hp) J.2.2.1.2.2 (C.2.2.2.2.2.2.2.2.2.2 _ (ab_lk_mem row)).1 hl T hT X
theorem ab_retL {mc ms : Nat} {post : Option Value → ab_H → Prop} {x : Int64} (C : ab_C G M p s m args meth c) (hr : meth.sig.returnType = M.2.2.2.2.1) (hl : meth.locks = false) (row : ab_lk M.2.2.2.2.2.2 pc = some (.lreturn, 1)) (hty : M.2.2.2.2.1 = some .long) (hp : post (some (.long x)) h) :
    ab_R G M fr n0 p e R s m args below meth c (MQ below (ab_Q G fr (n0 + mc) post) args s mc ms (ab_A G)) mc ms pc L [.long x] h := by
  intro H locs ls J hlv T hT X
  exact W.lret C.1 C.2.1 (hr.trans hty) (ab_end (r := some (.long x)) J hT X hp) J.2.2.1.2.2 (C.2.2.2.2.2.2.2.2.2.2 _ (ab_lk_mem row)).1 hl T hT X
theorem ab_retV {mc ms : Nat} {post : Option Value → ab_H → Prop} (C : ab_C G M p s m args meth c) (hr : meth.sig.returnType = M.2.2.2.2.1) (hl : meth.locks = false) (row : ab_lk M.2.2.2.2.2.2 pc = some (.return_, 1)) (hty : M.2.2.2.2.1 = none) (hp : post none h) :
    ab_R G M fr n0 p e R s m args below meth c (MQ below (ab_Q G fr (n0 + mc) post) args s mc ms (ab_A G)) mc ms pc L [] h := by
  intro H locs ls J hlv T hT X
  exact W.vret C.1 C.2.1 (hr.trans hty) (ab_end (r := none) J hT X hp) J.2.2.1.2.2 (C.2.2.2.2.2.2.2.2.2.2 _ (ab_lk_mem row)).1 hl T hT X
/-! calls -/
theorem ab_after {mc ms : Nat} {post : Option Value → ab_H → Prop} {a : Array Value} {rest : List Value} {st0 : List Value} {H : Heap} {locs : List Loc} {ls : Array Slot}
    (hr : va_Run p G.1 e R s m args below meth c H locs cells slots mc ms (F0 m pc ls st0) (rest.map (ab_v (ab_ad G))) (ab_Q G fr (h.length + mc) post a) (ab_A G)) (J : ab_J G fr n0 s H locs cells h) (hlv : ab_lv (ab_ad G) ls M.2.2.2.1 L)
    (k : ∀ (r : Option Value) (h' : ab_H), post r h' → ab_R G M fr n0 p e R s m args below meth c Q (cells + mc) (slots + ms) (pc + 3) L (r.toList ++ rest) h') : W p G.1 e R s m args below meth c H locs cells slots Q (F0 m pc ls st0) := by
  intro T hT X
  obtain ⟨v, st₀, t, T', L1, e0, X', hL, e1, e2, ⟨⟨r, h', hv, hp, ⟨hP', hD', hB', hfr'⟩, hn'⟩, hF⟩, stp⟩ := hr T hT X
  obtain ⟨hP, hD, hS, hB, hfr⟩ := J
  cases hv
  rw [← e1] at hP'
  have hF1 : H.size ≤ T'.heap.size ∧ ∀ q : Nat, q < H.size → ¬ ab_A G q → T'.heap[q]? = H[q]? := by
    rw [e1, ← e0]
    exact hF
  have J' : ab_J G fr n0 s T'.heap (locs ++ L1) (cells + mc) h' := by
    refine ⟨hP', hD', ⟨Nat.le_trans hS.1 hF1.1, fun q h1 h2 => (hF1.2 q (Nat.lt_of_lt_of_le h1 hS.1) h2).trans (hS.2.1 q h1 h2), fun q hq => ?_⟩, hB, fun q => ⟨(hfr q).1, (hfr q).2.1, by rw [hn' q, ← (hfr q).2.2]; omega⟩⟩
    rcases List.mem_append.mp hq with h | h
    · exact hS.2.2 q h
    · exact hL q h
  obtain ⟨t2, a1, b1⟩ := k r h' hp T'.heap (locs ++ L1) ls J' hlv T' rfl X'
  refine ⟨t2, stp t2 ?_, b1⟩
  have es : (r.map (ab_v (ab_ad G))).toList ++ rest.map (ab_v (ab_ad G)) = (r.toList ++ rest).map (ab_v (ab_ad G)) := by cases r <;> simp
  rw [es]
  exact a1
theorem ab_cat_sum (ad : Nat → Nat) (l : List Value) : ((l.map (ab_v ad)).map fun v => v.category).sum = (l.map fun v => v.category).sum := by
  induction l with
  | nil => rfl
  | cons v t ih => simp only [List.map_cons, List.sum_cons, ab_cat, ih]
theorem ab_inv {H : Heap} {locs : List Loc} {T : State} (J : ab_J G fr n0 s H locs cells h) (hT : T.heap = H) (X : Stand p G.1 e R s m args below meth c T locs cells slots) : ab_I G fr h H := ⟨J.1, J.2.1, J.2.2.2.1, ab_size J hT X⟩
theorem ab_callS {M' : ab_MD} {n d mc ms idx : Nat} {as rest : List Value} {post : Option Value → ab_H → Prop} (C : ab_C G M p s m args meth c) (row : ab_lk M.2.2.2.2.2.2 pc = some (.invokestatic idx, 3)) (hm : ab_lk M.1.2.2.2.1 idx = some M'.2.1) (ok : ab_OK M' n) (hk : Cond.static M'.2.1 ∈ ab_T)
    (ct : ab_CT G d M' fr as h mc ms post) (hst : st = as.reverse ++ rest) (hn : as.length = n) (hsum : (rest.map fun v => v.category).sum ≤ 8) (hR : d + 1 ≤ R.frames ∧ 64 * d + 64 ≤ R.locals ∧ cells + mc ≤ R.cells ∧ slots + ms ≤ R.slots)
    (k : ∀ (r : Option Value) (h' : ab_H), post r h' → ab_R G M fr n0 p e R s m args below meth c Q (cells + mc) (slots + ms) (pc + 3) L (r.toList ++ rest) h') : ab_R G M fr n0 p e R s m args below meth c Q cells slots pc L st h := by
  intro H locs ls J hlv T hT X
  have I := ab_inv J hT X
  obtain ⟨hx, hb, hts, hown, hml, hnm, hK, hOM⟩ := C
  refine ab_after (st0 := st.map (ab_v (ab_ad G))) (va_runS (cc := M.2.2.1) (nL := M.2.2.2.1) (Ts := ab_T) (own := M.1.1) (As := as.map (ab_v (ab_ad G))) (ret := M'.2.2.2.2.1) ⟨hx, hb, hml, hown, hts⟩ ct ⟨callB_of (ws' := ab_T) n hts (ab_good ok) rfl rfl rfl (hts _ ok.2.2.1) (hts _ (hOM.1.2.1 _ (ab_lk_mem hm))) ok.2.2.2.2.1 ⟨hR.1, ?_⟩, hts _ hk⟩ ⟨ab_blind G fr as h, fun U hU hW => ⟨rfl, ab_K_warm hW hK, by rw [hU]; exact I⟩⟩ rfl (by rw [List.length_map]; exact hn) hlv.1 ?_ (lv_room (by rw [ab_cat_sum]; exact hsum)) (hOM.2.2.2 _ (ab_lk_mem row)).1 hR.2.2) J hlv k T hT X
  · have := ok.2.2.2.2.2
    show 8 + (M'.2.2.2.1 + 11) + 64 * d ≤ R.locals
    omega
  · show st.map (ab_v (ab_ad G)) = _
    rw [hst, List.map_append, List.map_reverse]
theorem ab_callV {M' : ab_MD} {n d mc ms idx ci a : Nat} {fs : List Value} {as rest : List Value} {post : Option Value → ab_H → Prop} (C : ab_C G M p s m args meth c) (row : ab_lk M.2.2.2.2.2.2 pc = some (.invokevirtual idx, 3)) (hm : ab_lk M.1.2.2.2.1 idx = some M'.2.1) (ok : ab_OK M' n) (hk : ab_kV M' ci)
    (ct : ab_CT G d M' fr (.ref a :: as) h mc ms post) (he : h[a]? = some (.inr (ci, fs))) (hst : st = as.reverse ++ .ref a :: rest) (hn : as.length = n) (hsum : (rest.map fun v => v.category).sum ≤ 8) (hR : d + 1 ≤ R.frames ∧ 64 * d + 64 ≤ R.locals ∧ cells + mc ≤ R.cells ∧ slots + ms ≤ R.slots)
    (k : ∀ (r : Option Value) (h' : ab_H), post r h' → ab_R G M fr n0 p e R s m args below meth c Q (cells + mc) (slots + ms) (pc + 3) L (r.toList ++ rest) h') : ab_R G M fr n0 p e R s m args below meth c Q cells slots pc L st h := by
  intro H locs ls J hlv T hT X
  have I := ab_inv J hT X
  obtain ⟨hx, hb, hts, hown, hml, hnm, hK, hOM⟩ := C
  obtain ⟨k1, k2, q, k3, k4⟩ := hk
  obtain ⟨cell, r1, r2, r3⟩ := va_recv hK.1 J.1 k3 (ab_at he)
  refine ab_after (st0 := st.map (ab_v (ab_ad G))) (va_runV (cc := M.2.2.1) (nL := M.2.2.2.1) (Ts := ab_T) (own := M.1.1) (C := M'.2.1.cls) (b := ab_ad G a) (As := as.map (ab_v (ab_ad G))) (ret := M'.2.2.2.2.1) ⟨hx, hb, hml, hown, hts⟩ ct ⟨callB_of (ws' := ab_T) n hts (ab_good ok) rfl rfl rfl (hts _ ok.2.2.1) (hts _ (hOM.1.2.1 _ (ab_lk_mem hm))) ok.2.2.2.2.1 ⟨hR.1, ?_⟩, hts _ k1, hts _ k2⟩ ⟨ab_blind G fr _ h, ⟨cell, r1, r2, k4 ▸ r3⟩, fun U hU hW => ⟨rfl, ab_K_warm hW hK, by rw [hU]; exact I⟩⟩ rfl (by rw [List.length_map]; exact hn) hlv.1 ?_ (lv_room (by rw [ab_cat_sum]; exact hsum)) (hOM.2.2.2 _ (ab_lk_mem row)).1 hR.2.2) J hlv k T hT X
  · have := ok.2.2.2.2.2
    show 8 + (M'.2.2.2.1 + 11) + 64 * d ≤ R.locals
    omega
  · show st.map (ab_v (ab_ad G)) = _
    rw [hst, List.map_append, List.map_reverse]
    rfl
theorem ab_callI {M' : ab_MD} {n d mc ms idx a : Nat} {as rest : List Value} {post : Option Value → ab_H → Prop} (C : ab_C G M p s m args meth c) (row : ab_lk M.2.2.2.2.2.2 pc = some (.invokespecial idx, 3)) (hm : ab_lk M.1.2.2.2.1 idx = some M'.2.1) (ok : ab_OK M' n) (hk : Cond.instanceMethod M'.2.1 ∈ ab_T) (hini : M'.2.1.name = "<init>") (hret : M'.2.2.2.2.1 = none)
    (ct : ab_CT G d M' fr (.ref a :: as) h mc ms post) (hst : st = as.reverse ++ .ref a :: rest) (hn : as.length = n) (hsum : (rest.map fun v => v.category).sum ≤ 8) (hR : d + 1 ≤ R.frames ∧ 64 * d + 64 ≤ R.locals ∧ cells + mc ≤ R.cells ∧ slots + ms ≤ R.slots)
    (k : ∀ (r : Option Value) (h' : ab_H), post r h' → ab_R G M fr n0 p e R s m args below meth c Q (cells + mc) (slots + ms) (pc + 3) L (r.toList ++ rest) h') : ab_R G M fr n0 p e R s m args below meth c Q cells slots pc L st h := by
  intro H locs ls J hlv T hT X
  have I := ab_inv J hT X
  obtain ⟨hx, hb, hts, hown, hml, hnm, hK, hOM⟩ := C
  refine ab_after (st0 := st.map (ab_v (ab_ad G))) (va_runI (cc := M.2.2.1) (nL := M.2.2.2.1) (Ts := ab_T) (own := M.1.1) (b := ab_ad G a) (As := as.map (ab_v (ab_ad G))) ⟨hx, hb, hml, hown, hts⟩ ct ⟨callB_of (bytes := M'.2.2.1) (maxL := M'.2.2.2.1) (ws' := ab_T) n hts (ab_good ok) (by show ab_ws M' = _; rw [ab_ws, hret]) rfl rfl (hts _ ok.2.2.1) (hts _ (hOM.1.2.1 _ (ab_lk_mem hm))) ok.2.2.2.2.1 ⟨hR.1, ?_⟩, hini, hts _ hk⟩ ⟨ab_blind G fr _ h, fun U hU hW => ⟨rfl, ab_K_warm hW hK, by rw [hU]; exact I⟩⟩ rfl (by rw [List.length_map]; exact hn) hlv.1 ?_ (lv_room (by rw [ab_cat_sum]; exact hsum)) (hOM.2.2.2 _ (ab_lk_mem row)).1 hR.2.2) J hlv k T hT X
  · have := ok.2.2.2.2.2
    show 8 + (M'.2.2.2.1 + 11) + 64 * d ≤ R.locals
    omega
  · show st.map (ab_v (ab_ad G)) = _
    rw [hst, List.map_append, List.map_reverse]
    rfl
/-- fewer locals -/
theorem ab_weak (hL : ∀ i v, ab_lg L' i = some v → ab_lg L i = some v) (k : ab_R G M fr n0 p e R s m args below meth c Q cells slots pc L' st h) : ab_R G M fr n0 p e R s m args below meth c Q cells slots pc L st h :=
  fun H locs ls J hlv => k H locs ls J ⟨hlv.1, hlv.2.1, fun i v q => hlv.2.2 i v (hL i v q)⟩
theorem ab_ite {cnd : Prop} {dd : Decidable cnd} {a b : Nat} (k1 : cnd → ab_R G M fr n0 p e R s m args below meth c Q cells slots a L st h) (k2 : ¬ cnd → ab_R G M fr n0 p e R s m args below meth c Q cells slots b L st h) : ab_R G M fr n0 p e R s m args below meth c Q cells slots (@ite Nat cnd dd a b) L st h := by
  by_cases q : cnd
  · rw [if_pos q]; exact k1 q
  · rw [if_neg q]; exact k2 q
end ABC
