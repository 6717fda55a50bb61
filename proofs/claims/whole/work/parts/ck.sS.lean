/-! ===== piece: where it answers, and where it throws ===== -/
set_option maxRecDepth 100000 in
set_option maxHeartbeats 4000000 in
theorem m_X11_piece {G : ab_G} {fr : Bool} {tl : ab_H} {K : Int32 → ms_S → Prop} {S : ms_S} {i1 : Int32} {i2 : Int32}
    (h : ∀ n0 : Nat, ctI G 1 M_X11_isPiece fr [.ref 0, .int i1] lB S tl (fun v1 S1 => (v1 = 0 → False) ∧ (¬ v1 = 0 → ((i2 = nI 0 → (vp_in i1 9 ∧ (K (S1.2.2.2.1 6 i1.toNatClampNeg) S1))) ∧ (i2 = nI 1 → (vp_in i1 9 ∧ (K (S1.2.2.2.1 7 i1.toNatClampNeg) S1))) ∧ (i2 = nI 2 → (vp_in i1 9 ∧ (K (S1.2.2.2.1 8 i1.toNatClampNeg) S1))) ∧ (i2 = nI 3 → (ctI G 1 M_X1_holderOf fr [.ref 82, .int i1] lB S1 tl (fun v2 S2 => K v2 S2))) ∧ (¬ i2 = nI 0 → ¬ i2 = nI 1 → ¬ i2 = nI 2 → ¬ i2 = nI 3 → False))))) :
    ctI G 2 M_X11_piece fr [.ref 0, .int i1, .int i2] lB S tl K := by
  refine wp_ct o_X11_piece (Nat.le_of_ble_eq_true rfl) ?_
  replace h := h (hLy lB S tl).length
  revert h
  generalize (hLy lB S tl).length = n0
  intro h
  iterate 2 refine ws_b rfl ?_
  refine wp_cV rfl rfl o_X11_isPiece v_X11_isPiece h rfl rfl rfl (Nat.le_of_ble_eq_true rfl) (by decide) ?_
  clear h
  rintro r9 h9 ⟨v1, S1, rfl, rfl, h⟩
  refine ws_b rfl ?_
  refine wp_ite (fun q => ?_) (fun q => ?_)
  · replace h := h.1 q
    exact h.elim
  · replace h := h.2 q
    refine ws_b rfl ?_
    by_cases q0 : i2 = nI 0
    · refine wp_tswN (nI 0) 48 (29) rfl q0 rfl rfl rfl rfl ?_
      replace h := h.1 q0
      iterate 4 refine ws_b rfl ?_
      refine ws_g rfl h.1 ?_
      replace h := h.2
      exact wp_ri rfl rfl rfl ⟨_, _, rfl, rfl, h⟩
    replace h := h.2
    by_cases q1 : i2 = nI 1
    · refine wp_tswN (nI 1) 58 (39) rfl q1 rfl rfl rfl rfl ?_
      replace h := h.1 q1
      iterate 4 refine ws_b rfl ?_
      refine ws_g rfl h.1 ?_
      replace h := h.2
      exact wp_ri rfl rfl rfl ⟨_, _, rfl, rfl, h⟩
    replace h := h.2
    by_cases q2 : i2 = nI 2
    · refine wp_tswN (nI 2) 68 (49) rfl q2 rfl rfl rfl rfl ?_
      replace h := h.1 q2
      iterate 4 refine ws_b rfl ?_
      refine ws_g rfl h.1 ?_
      replace h := h.2
      exact wp_ri rfl rfl rfl ⟨_, _, rfl, rfl, h⟩
    replace h := h.2
    by_cases q3 : i2 = nI 3
    · refine wp_tswN (nI 3) 78 (59) rfl q3 rfl rfl rfl rfl ?_
      replace h := h.1 q3
      iterate 3 refine ws_b rfl ?_
      refine wp_cV rfl rfl o_X1_holderOf v_X1_holderOf h rfl rfl rfl (Nat.le_of_ble_eq_true rfl) (by decide) ?_
      clear h
      rintro r9 h9 ⟨v2, S2, rfl, rfl, h⟩
      exact wp_ri rfl rfl rfl ⟨_, _, rfl, rfl, h⟩
    replace h := h.2
    refine wp_tswD 87 [nI 0, nI 1, nI 2, nI 3] rfl (by decide) (by intro k9 hk9; rcases List.mem_cons.mp hk9 with rfl | hk9; exact q0; rcases List.mem_cons.mp hk9 with rfl | hk9; exact q1; rcases List.mem_cons.mp hk9 with rfl | hk9; exact q2; rcases List.mem_cons.mp hk9 with rfl | hk9; exact q3; exact nomatch hk9) rfl ?_
    replace h := h q0 q1 q2 q3
    exact h.elim
section PCQ
variable {G : ab_G} {tl : ab_H} {S : ms_S} {g : tSG} {o : Nat → Option tDQ} {V : Nat}
theorem d_piece (hQ : bQ S g o V) (p w : Int32) (h0 : (A_piece g.1 p w).2 = 0) : ctI G 2 M_X11_piece false [.ref 0, .int p, .int w] lB S tl (fun v S' => bQ S' g o (V + 5000) ∧ v = (A_piece g.1 p w).1) := by
  refine ctI.ab (fun K hK => m_X11_piece (fun n0 => u_pc hQ.1.1.2.2.1 p _ ?_))
  have q0 : bQ S g o (V + 5000) := bQ_m hQ (by omega)
  have p1 := hQ.1.1.1
  have p5 := hQ.1.1.2.2.2.2.1
  rw [x_b0]
  unfold A_piece at hK h0
  refine ⟨fun z => ?_, fun z => ?_⟩
  · rw [if_neg (by rw [z]; decide)] at h0
    exact absurd h0 (by decide)
  have z := nf_t z
  obtain ⟨j, hj, rfl⟩ := pcK_t p1 z
  have hv : vp_in (nI j) 9 := (x_vp (by omega)).mpr (by omega)
  rw [if_pos z, cl_nI (by omega)] at hK h0
  rw [show (nI j).toNatClampNeg = j from nI_clamp (by omega)]
  have f1 : S.2.2.2.1 6 j = nI (g.1.1.2.2.1 j) := (p5 j hj).1
  have f2 : S.2.2.2.1 7 j = nI (g.1.1.2.2.2.1 j) := (p5 j hj).2.2.1
  have f3 : S.2.2.2.1 8 j = nI (g.1.1.2.2.2.2.1 j) := (p5 j hj).2.2.2.2.1
  refine ⟨fun y => ⟨hv, hK _ _ ⟨q0, ?_⟩⟩, fun y => ⟨hv, hK _ _ ⟨q0, ?_⟩⟩, fun y => ⟨hv, hK _ _ ⟨q0, ?_⟩⟩, fun y => ?_, fun y1 y2 y3 y4 => ?_⟩
  · rw [if_pos y, f1]
  · rw [if_neg (fun q => absurd (y.symm.trans q) (by decide)), if_pos y, f2]
  · rw [if_neg (fun q => absurd (y.symm.trans q) (by decide)), if_neg (fun q => absurd (y.symm.trans q) (by decide)), if_pos y, f3]
  · refine ctI.tr e_CN e_CN_i e_CN_n (as' := [.ref 46, .int (nI j)]) rfl (fun G' => u_holder (G := G') (S := cN S) false hQ.1.1 hQ.2.2.2.1 j hj _ ?_)
    rw [mgS_rs]
    refine hK _ _ ⟨q0, ?_⟩
    rw [if_neg (fun q => absurd (y.symm.trans q) (by decide)), if_neg (fun q => absurd (y.symm.trans q) (by decide)), if_neg (fun q => absurd (y.symm.trans q) (by decide)), if_pos y]
  · rw [if_neg y1, if_neg y2, if_neg y3, if_neg y4] at h0
    exact absurd h0 (by decide)
end PCQ
section PCM
variable {G : ab_G} {M : ab_MD} {h : ab_H}
/-- a free theorem out of the walk of a body, whatever its end -/
theorem pc_ofR {n d mc ms : Nat} {as : List Value} {P' : State → Prop} {Qf : State → Outcome → State → Prop} (ok : ab_OK M n) (hent : (lg_sl (as.map (ab_v (ab_ad G)))).length ≤ M.2.2.2.1)
    (body : ∀ (p : Program) (e : Env) (s : State) (m : MethodId) (args : Array Value) (below : List Frame) (meth : Method) (c : Code), G.1.admits e → ab_C G M p s m args meth c → meth.locks = false → c.exceptionTable.isEmpty = true → P' s → va_P G.2.1 vwCl (ab_W G h) s.heap →
      ab_R G M false h.length p e (ab_rm d mc ms) s m args below meth c (fun t => ∃ o, t.status = .running ∧ Ended t below o ∧ Qf s o t) 0 0 0 (ab_pad M.2.2.2.1 (ab_exp as)) [] h) :
    MetFree G.1 M.2.1 (headSpec (ab_ws M) (ab_rm d mc ms)) (fun v U => ab_Pc G false as h v U ∧ P' U) (fun _ _ _ _ _ => True) (fun _ s o t => Qf s o t) := by
  refine MetFree.of_bodyS (code := M.2.2.1) (maxLocals := M.2.2.2.1) (ret := M.2.2.2.2.1) ok.2.2.2.1 ?_ ?_
  · intro args s m h hn
    obtain ⟨meth, c, h1, h2, h3, h4, h5, h6, -, -⟩ := Cond.code_spec hn (atoms_spec (ws := ab_ws M) h _ List.mem_cons_self)
    exact ⟨meth, c, h1, h2, h3, h4, h5, h6⟩
  · intro p e s m args below meth c s₁ B hml hv _
    obtain ⟨⟨rfl, hK, hP, hD, hB, hfr⟩, hP'⟩ := hv
    have hts := atoms_spec (ws := ab_ws M) B.pre
    have hown : s.vm.findClass M.2.1.cls = some m.cls := findClass_of_methodNamed B.named
    have hh0 : s₁.heap = s.heap := by rw [B.state]; rfl
    have hl := lv_entry (as.map (ab_v (ab_ad G))) (n := M.2.2.2.1) hent
    have key := body p e s m _ below meth c B.admits ⟨B.exec, B.bytes, fun w hw => hts w (List.mem_cons_of_mem _ hw), ok.1.2.1 ▸ hown, hml, (name_of_methodNamed B.named B.method).1, hK, ok.1⟩ B.notSynchronized (B.noHandlers (hts _ List.mem_cons_self)) hP' hP s.heap [] _ ⟨hP, hD, va_S.rf, hB, fun q => by cases q⟩ ⟨hl.1, hl.2.1, fun i v hi => ?_⟩
    · rw [lg_entry_eq]
      obtain ⟨t, a1, o, b1, b2, b3⟩ := key s₁ hh0 (Stand.of_body B)
      exact ⟨t, o, a1, b1, b2, b3⟩
    · have h1 := ab_exp_args (ab_ad G) as 0 i v (ab_lg_pad _ _ _ _ hi)
      rw [Nat.zero_add] at h1
      exact hl.2.2 _ h1
/-- cells of the world are no statics -/
theorem pc_st {s : State} (hA : ∀ q, ab_A G q → ∃ k, k < h.length ∧ q = ab_ad G k) (hP : va_P G.2.1 vwCl (ab_W G h) s.heap) : ∀ (q : Nat) (cell : Cell), ab_A G q → s.heap[q]? = some cell → cell.vm.isStatics = false := by
  intro q cell hq hc
  obtain ⟨k, hk, rfl⟩ := hA q hq
  have h1 : h[k]? = some h[k] := List.getElem?_eq_getElem hk
  have h2 := hP _ _ (ab_at (ad := ab_ad G) (cA := G.2.2.1) h1)
  revert h2
  cases h[k] with
  | inl x =>
    intro h2
    have h3 : s.heap[ab_ad G k]? = some (vp_cell (G.2.2.1 x.1) (ab_a (ab_ad G) x.2)) := h2
    rw [hc] at h3
    cases h3
    rcases x with ⟨x1, x2, x3⟩
    rcases x3 with x3 | x3 | x3 | x3 | x3 <;> rfl
  | inr x =>
    intro h2
    obtain ⟨r, -, cell', g1, g2, g3, -⟩ := h2
    rw [hc] at g1
    cases g1
    rw [g3]
    rfl
end PCM

