/-! ===== contracts that want the tape's text; padded, exactly ===== -/
def sx_Z (G : ab_G) (U : State) : Prop := ∃ q v : Nat, vk_R RX10 18 sx_tx q U ∧ sx_W G q v U U.heap
theorem sx_Z.go {G : ab_G} {s U : State} {H : Heap} (hU : U.heap = H) (hW : s.WarmedH U.vm) (hq : ∀ a : Nat, a < s.heap.size → ¬ ab_A G a → H[a]? = s.heap[a]?) (z : sx_Z G s) : sx_Z G U := by
  obtain ⟨q, v, h1, h2⟩ := z
  exact ⟨q, v, h1.warm hW, h2.go hW.alike (by rw [hU]; exact hq)⟩
def xCT (G : ab_G) (d : Nat) (M : ab_MD) (fr : Bool) (as : List Value) (h : ab_H) (mc ms : Nat) (post : Option Value → ab_H → Prop) : Prop :=
  Met G.1 M.2.1 (ab_ws M) (ab_rm d mc ms) (fun a U => ab_Pc G fr as h a U ∧ sx_Z G U) (ab_Q G fr (h.length + mc) post) mc ms (ab_A G)
theorem x_blind (G : ab_G) (fr : Bool) (as : List Value) (h : ab_H) : FrameBlind (fun a U => ab_Pc G fr as h a U ∧ sx_Z G U) := fun a U g mk z => ⟨ab_blind G fr as h a U g mk z.1, by
  obtain ⟨q, v, h1, h2⟩ := z.2
  exact ⟨q, v, vk_R.same (u := U) (U := U.calling g mk a) rfl h1, sx_W.go (s := U) (U := U.calling g mk a) (Vm.Alike.refl _) (fun _ _ _ => rfl) h2⟩⟩
section XC
variable {G : ab_G} {M : ab_MD} {fr : Bool} {n0 : Nat} {p : Program} {e : Env} {R : Room} {s : State} {m : MethodId} {args : Array Value} {below : List Frame} {meth : Method} {c : Code} {Q : State → Prop} {cells slots pc : Nat} {L : List (Option Value)} {st : List Value} {h t : ab_H}
theorem x_ct {n d mc ms : Nat} {as : List Value} {post : Option Value → ab_H → Prop} (ok : ab_OK M n) (hent : (lg_sl (as.map (ab_v (ab_ad G)))).length ≤ M.2.2.2.1)
    (body : ∀ (p : Program) (e : Env) (s : State) (m : MethodId) (args : Array Value) (below : List Frame) (meth : Method) (c : Code), ab_C G M p s m args meth c → meth.sig.returnType = M.2.2.2.2.1 → meth.locks = false → sx_Z G s →
      ab_R G M fr h.length p e (ab_rm d mc ms) s m args below meth c (MQ below (ab_Q G fr (h.length + mc) post) args s mc ms (ab_A G)) 0 0 0 (ab_pad M.2.2.2.1 (ab_exp as)) [] h) : xCT G d M fr as h mc ms post := by
  refine Met.ofW (cc := M.2.2.1) (maxL := M.2.2.2.1) (ret := M.2.2.2.2.1) ok.2.2.2.1 rfl ?_
  intro p e s m args below meth c s₁ B hml hv
  obtain ⟨⟨rfl, hK, hP, hD, hB, hfr⟩, hZ⟩ := hv
  have hts := atoms_spec (ws := ab_ws M) B.pre
  have hown : s.vm.findClass M.2.1.cls = some m.cls := findClass_of_methodNamed B.named
  rw [lg_entry_eq]
  have hl := lv_entry (as.map (ab_v (ab_ad G))) (n := M.2.2.2.1) hent
  refine body p e s m _ below meth c ⟨B.exec, B.bytes, fun w hw => hts w (List.mem_cons_of_mem _ hw), ok.1.2.1 ▸ hown, hml, (name_of_methodNamed B.named B.method).1, hK, ok.1⟩ B.returns B.notSynchronized hZ s.heap [] _ ⟨hP, hD, va_S.rf, hB, fun q => ⟨(hfr q).1, (hfr q).2, rfl⟩⟩ ⟨hl.1, hl.2.1, fun i v hi => ?_⟩
  have h1 := ab_exp_args (ab_ad G) as 0 i v (ab_lg_pad _ _ _ _ hi)
  rw [Nat.zero_add] at h1
  exact hl.2.2 _ h1
theorem x_callI {M' : ab_MD} {n d mc ms idx a : Nat} {as rest : List Value} {post : Option Value → ab_H → Prop} (C : ab_C G M p s m args meth c) (hZ : sx_Z G s) (row : ab_lk M.2.2.2.2.2.2 pc = some (.invokespecial idx, 3)) (hm : ab_lk M.1.2.2.2.1 idx = some M'.2.1) (ok : ab_OK M' n) (hk : Cond.instanceMethod M'.2.1 ∈ ab_T) (hini : M'.2.1.name = "<init>") (hret : M'.2.2.2.2.1 = none)
    (ct : xCT G d M' fr (.ref a :: as) h mc ms post) (hst : st = as.reverse ++ .ref a :: rest) (hn : as.length = n) (hsum : (rest.map fun v => v.category).sum ≤ 8) (hR : d + 1 ≤ R.frames ∧ 64 * d + 64 ≤ R.locals ∧ cells + mc ≤ R.cells ∧ slots + ms ≤ R.slots)
    (k : ∀ (r : Option Value) (h' : ab_H), post r h' → ab_R G M fr n0 p e R s m args below meth c Q (cells + mc) (slots + ms) (pc + 3) L (r.toList ++ rest) h') : ab_R G M fr n0 p e R s m args below meth c Q cells slots pc L st h := by
  intro H locs ls J hlv T hT X
  have I := ab_inv J hT X
  obtain ⟨hx, hb, hts, hown, hml, hnm, hK, hOM⟩ := C
  refine ab_after (st0 := st.map (ab_v (ab_ad G))) (va_runI (cc := M.2.2.1) (nL := M.2.2.2.1) (Ts := ab_T) (own := M.1.1) (b := ab_ad G a) (As := as.map (ab_v (ab_ad G))) ⟨hx, hb, hml, hown, hts⟩ ct ⟨callB_of (bytes := M'.2.2.1) (maxL := M'.2.2.2.1) (ws' := ab_T) n hts (ab_good ok) (by show ab_ws M' = _; rw [ab_ws, hret]) rfl rfl (hts _ ok.2.2.1) (hts _ (hOM.1.2.1 _ (ab_lk_mem hm))) ok.2.2.2.2.1 ⟨hR.1, ?_⟩, hini, hts _ hk⟩ ⟨x_blind G fr _ h, fun U hU hW => ⟨⟨rfl, ab_K_warm hW hK, by rw [hU]; exact I⟩, hZ.go hU hW J.2.2.1.2.1⟩⟩ rfl (by rw [List.length_map]; exact hn) hlv.1 ?_ (lv_room (by rw [ab_cat_sum]; exact hsum)) (hOM.2.2.2 _ (ab_lk_mem row)).1 hR.2.2) J hlv k T hT X
  · have := ok.2.2.2.2.2
    show 8 + (M'.2.2.2.1 + 11) + 64 * d ≤ R.locals
    omega
  · show st.map (ab_v (ab_ad G)) = _
    rw [hst, List.map_append, List.map_reverse]
    rfl
theorem nw_cX {M' : ab_MD} {n d mc ms idx a i : Nat} {y : ab_E} {as rest : List Value} (z : Nat → ab_E) (w : Nat → ab_H) (C : ab_C G M p s m args meth c) (hZ : sx_Z G s) (row : ab_lk M.2.2.2.2.2.2 pc = some (.invokespecial idx, 3)) (hm : ab_lk M.1.2.2.2.1 idx = some M'.2.1) (ok : ab_OK M' n) (hk : Cond.instanceMethod M'.2.1 ∈ ab_T) (hini : M'.2.1.name = "<init>") (hret : M'.2.2.2.2.1 = none)
    (ct : xCT G d M' true (.ref (h.length + i) :: as) (h.set a y ++ t) mc ms (fun r h' => r = none ∧ h' = (h.set a y ++ t).set (h.length + i) (z (h.set a y ++ t).length) ++ w (h.set a y ++ t).length)) (hst : st = as.reverse ++ .ref (h.length + i) :: rest) (hn : as.length = n) (hsum : (rest.map fun v => v.category).sum ≤ 8) (hR : d + 1 ≤ R.frames ∧ 64 * d + 64 ≤ R.locals ∧ cells + mc ≤ R.cells ∧ slots + ms ≤ R.slots)
    (k : ab_R G M true n0 p e R s m args below meth c Q (cells + mc) (slots + ms) (pc + 3) L rest (h.set a y ++ (t.set i (z (h.length + t.length)) ++ w (h.length + t.length)))) : ab_R G M true n0 p e R s m args below meth c Q cells slots pc L st (h.set a y ++ t) := by
  refine x_callI C hZ row hm ok hk hini hret ct hst hn hsum hR ?_
  rintro r h' ⟨rfl, rfl⟩
  rw [nw_setT, List.append_assoc, nw_len]
  exact k
end XC
def padF : Nat → Int32 → Int32
  | 0, y => y
  | t + 1, y => if y = 0 then y else if 33554432 ≤ y then y else padF t (y * 32)
theorem k_padded {G : ab_G} {fr : Bool} {h : ab_H} {x : Int32} : ab_CT G 1 M_X10_padded fr [.int x] h 0 0 (fun r h' => r = some (.int (padF 6 x)) ∧ h' = h) := by
  refine wp_ct o_X10_padded (Nat.le_of_ble_eq_true rfl) ?_
  generalize h.length = n0
  iterate 4 refine wp_s rfl ?_
  have key : ∀ (t j : Nat) (y : Int32), j + t = 6 → wp G 1 M_X10_padded fr n0 (fun r h' => r = some (.int (padF t y)) ∧ h' = h) 4 [some (.int x), some (.int y), some (.int (nI j))] [] h := by
    intro t
    induction t with
    | zero =>
      intro j y hj
      iterate 3 refine wp_s rfl ?_
      refine wp_ite (fun _ => ?_) (fun z => absurd (nI_le (a := 6) (b := j) (by omega) (by omega)) z)
      refine wp_s rfl ?_
      exact wp_ri rfl rfl rfl ⟨rfl, rfl⟩
    | succ t ih =>
      intro j y hj
      iterate 3 refine wp_s rfl ?_
      refine wp_ite (fun z => absurd z (nI_ge (a := j) (b := 6) (by omega) (by omega))) (fun _ => ?_)
      iterate 2 refine wp_s rfl ?_
      refine wp_ite (fun z => ?_) (fun z => ?_)
      · refine wp_s rfl ?_
        exact wp_ri rfl rfl rfl ⟨by rw [padF, if_pos z], rfl⟩
      iterate 3 refine wp_s rfl ?_
      refine wp_ite (fun z2 => ?_) (fun z2 => ?_)
      · refine wp_s rfl ?_
        exact wp_ri rfl rfl rfl ⟨by rw [padF, if_neg z, if_pos z2], rfl⟩
      iterate 6 refine wp_s rfl ?_
      have := ih (j + 1) (y * 32) (by omega)
      rw [padF, if_neg z, if_neg z2]
      rw [show nI (j + 1) = nI j + 1 from nI_succ j] at this
      exact this
  exact key 6 0 x rfl

