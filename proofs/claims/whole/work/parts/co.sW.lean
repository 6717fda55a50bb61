/-! ===== the law's own piece: three ends ===== -/
abbrev pc_ws : List Cond := Cond.codeWith yL_piece cL_piece 5 (some .int) pc_hs :: ab_T
section PCL
variable {G : ab_G} {h : ab_H}
/-- its contract out of the walk of its body -/
theorem pc_ofW {as : List Value} {post : Option Value → ab_H → Prop} (hent : (lg_sl (as.map (ab_v (ab_ad G)))).length ≤ 5)
    (body : ∀ (p : Program) (e : Env) (s : State) (m : MethodId) (args : Array Value) (below : List Frame) (meth : Method) (c : Code), ab_C G M_L_piece p s m args meth c → meth.sig.returnType = some .int → meth.locks = false → c.exceptionTable.toList.map (fun h => (h.startPc, h.endPc, h.handlerPc, h.catchType)) = pc_hs → pc_Wl s → ab_I G false h s.heap →
      ab_R G M_L_piece false h.length p e (ab_rm 8 1 6) s m args below meth c (MQ below (ab_Q G false 1 post) args s 1 6 (ab_A G)) 0 0 0 (ab_pad 5 (ab_exp as)) [] h) :
    Met G.1 yL_piece pc_ws (ab_rm 8 1 6) (fun v U => ab_Pc G false as h v U ∧ pc_Wl U) (ab_Q G false 1 post) 1 6 (ab_A G) := by
  refine MetFree.of_bodyS (code := cL_piece) (maxLocals := 5) (ret := some .int) (by decide +kernel) ?_ ?_
  · intro args s m h hn
    obtain ⟨m', meth, c, q1, h1, h2, h3, h4, -, h5, h6, -⟩ := Cond.codeWith_spec (atoms_spec (ws := pc_ws) h _ List.mem_cons_self)
    cases hn.symm.trans q1
    exact ⟨meth, c, h1, h2, h3, h4, h5, h6⟩
  · intro p e s m args below meth c s₁ B hml hv _
    obtain ⟨⟨rfl, hK, hI⟩, hP'⟩ := hv
    have hts := atoms_spec (ws := pc_ws) B.pre
    have hown : s.vm.findClass yL_piece.cls = some m.cls := findClass_of_methodNamed B.named
    have hh0 : s₁.heap = s.heap := by rw [B.state]; rfl
    obtain ⟨m', meth', c', q1, h1, h2, -, -, htab, -, -, -⟩ := Cond.codeWith_spec (hts _ List.mem_cons_self)
    cases B.named.symm.trans q1
    cases B.method.symm.trans h1
    cases (Stand.of_body B).code.symm.trans h2
    have hl := lv_entry (as.map (ab_v (ab_ad G))) (n := 5) hent
    have key := body p e s m _ below meth c ⟨B.exec, B.bytes, fun w hw => hts w (List.mem_cons_of_mem _ hw), hown, hml, (name_of_methodNamed B.named B.method).1, hK, om_L_piece⟩ B.returns B.notSynchronized htab hP' hI s.heap [] _ ⟨hI.1, hI.2.1, va_S.rf, hI.2.2.1, fun q => by cases q⟩ ⟨hl.1, hl.2.1, fun i v hi => ?_⟩
    · rw [lg_entry_eq]
      obtain ⟨t, a1, o, b1, b2, b3⟩ := key s₁ hh0 (Stand.of_body B)
      exact ⟨t, o, a1, b1, b2, b3⟩
    · have h1 := ab_exp_args (ab_ad G) as 0 i v (ab_lg_pad _ _ _ _ hi)
      rw [Nat.zero_add] at h1
      exact hl.2.2 _ h1
/-- it answers -/
theorem pc_l0 {x w : Int32} {b : Nat} {fs : List Value} {post1 post : Option Value → ab_H → Prop} (he : h[0]? = some (.inr (11, fs))) (ct : ab_CT G 2 M_X11_piece false [.ref 0, .int x, .int w] h 0 0 post1)
    (hp : ∀ r h', post1 r h' → ∃ (v : Int32) (f : Nat → Int64), r = some (.int v) ∧ h'[b]? = some (.inl (1, 1, .inr (.inl f))) ∧ post (some (.int (nI 0))) (h'.set b (.inl (1, 1, .inr (.inl (vp_updL f 0 v.toInt64)))))) :
    Met G.1 yL_piece pc_ws (ab_rm 8 1 6) (fun v U => ab_Pc G false [.ref 0, .int x, .int w, .ref b] h v U ∧ pc_Wl U) (ab_Q G false 1 post) 1 6 (ab_A G) := by
  refine pc_ofW (Nat.le_of_ble_eq_true rfl) (fun p e s m args below meth c C hr hl htab hW hI => ?_)
  iterate 5 refine ab_step C rfl ?_
  refine ab_callV (M' := M_X11_piece) C rfl rfl o_X11_piece v_X11_piece ct he (as := [.int x, .int w]) (rest := [.int 0, .ref b]) rfl rfl (Nat.le_of_ble_eq_true rfl) ⟨by decide, by decide, by decide, by decide⟩ (fun r h' q => ?_)
  obtain ⟨v, f, rfl, hb, hpost⟩ := hp r h' q
  refine ab_step C rfl ?_
  refine ab_stepG (g := vp_in (0 : Int32) 1) (pc' := 10) (L' := ab_pad 5 (ab_exp [.ref 0, .int x, .int w, .ref b])) (st' := []) (h' := h'.set b (.inl (1, 1, .inr (.inl (vp_updL f 0 v.toInt64))))) C ?_ (by unfold vp_in; decide) ?_
  · show (match h'[b]? with
      | some (.inl (1, N, .inr (.inl f))) => some (vp_in (0 : Int32) N, 10, ab_pad 5 (ab_exp [.ref 0, .int x, .int w, .ref b]), ([] : List Value), h'.set b (.inl (1, N, .inr (.inl (vp_updL f (0 : Int32).toNatClampNeg v.toInt64)))))
      | _ => none) = _
    rw [hb]
    rfl
  refine ab_step C rfl ?_
  refine ab_step C rfl ?_
  have key := ab_retI (mc := 1) (ms := 6) (e := e) (R := ab_rm 8 1 6) (below := below) (fr := false) (n0 := 0) (L := ab_pad 5 (ab_exp [.ref 0, .int x, .int w, .ref b])) (pc := 22) (h := h'.set b (.inl (1, 1, .inr (.inl (vp_updL f 0 v.toInt64))))) (x := 0) (ty := .int) (post := post) C hr hl rfl rfl rfl hpost
  intro H locs ls J hlv T hT X
  exact key H locs ls ⟨J.1, J.2.1, J.2.2.1, J.2.2.2.1, fun q => by cases q⟩ hlv T hT (stand_widen X (by decide) (by decide))
end PCL

