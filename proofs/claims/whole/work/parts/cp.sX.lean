/-! ===== the law's own piece where the program throws ===== -/
section PCX
variable {G : ab_G} {tl : ab_H} {S : ms_S}
theorem pc_tab {c : Code} (ht : c.exceptionTable.toList.map (fun h => (h.startPc, h.endPc, h.handlerPc, h.catchType)) = pc_hs) :
    ∃ x1 x2 : ExceptionTableEntry, c.exceptionTable.toList = [x1, x2] ∧ covers x1 5 = true ∧ covers x2 5 = true ∧ x1.catchType = 13 ∧ x2.catchType = 15 ∧ x1.handlerPc = 13 ∧ x2.handlerPc = 17 := by
  revert ht
  generalize c.exceptionTable.toList = l
  intro ht
  rcases l with _ | ⟨x1, _ | ⟨x2, _ | ⟨x3, l⟩⟩⟩
  · exact absurd ht (by simp [pc_hs])
  · exact absurd ht (by simp [pc_hs])
  · simp only [List.map_cons, List.map_nil, pc_hs, List.cons.injEq, Prod.mk.injEq, and_true] at ht
    obtain ⟨⟨a1, a2, a3, a4⟩, b1, b2, b3, b4⟩ := ht
    exact ⟨x1, x2, rfl, by simp [covers, a1, a2], by simp [covers, b1, b2], a4, b4, a3, b3⟩
  · exact absurd ht (by simp [pc_hs])
theorem pc_lT {x w : Int32} {b : Nat} {cls : String} {post : Option Value → ab_H → Prop} (k : Nat) (hk : k = 1 ∧ cls = pc_IO ∨ k = 2 ∧ cls = pc_NS) (hA : ∀ q, ab_A G q → ∃ k, k < (hLy lB S tl).length ∧ q = ab_ad G k) (hM : pc_Met G tl S x w cls) (hpost : post (some (.int (nI k))) (hLy lB S tl)) :
    Met G.1 yL_piece pc_ws (ab_rm 8 1 6) (fun v U => ab_Pc G false [.ref 0, .int x, .int w, .ref b] (hLy lB S tl) v U ∧ pc_Wl U) (ab_Q G false 1 post) 1 6 (ab_A G) := by
  have he : ∃ fs, (hLy lB S tl)[0]? = some (.inr (11, fs)) := ⟨_, rfl⟩
  revert hM hpost he
  unfold pc_Met
  intro hM hpost he
  have hM' := hM
  obtain ⟨fs, he⟩ := he
  refine pc_ofW (Nat.le_of_ble_eq_true rfl) (fun p e s m args below meth c C hr hl htab hW hI => ?_)
  have hB := fun (R : Room) (h1 : 7 ≤ R.frames) (h2 : 406 ≤ R.locals) => pc_back (p := p) (e := e) (R := R) (below := below) (s := s) (sargs := args) hM C.2.2.1 h1 h2
  revert hB hpost he hI hA
  generalize hh : hLy lB S tl = h
  intro hA hpost he hI hB
  iterate 5 refine ab_step C rfl ?_
  intro H locs ls J hlv T hT X
  have I := ab_inv J hT X
  obtain ⟨hx, hb, hts, hown, hml, hnm, hK, hOM⟩ := id C
  obtain ⟨k1, k2, q, k3, k4⟩ := v_X11_piece
  obtain ⟨cell, r1, r2, r3⟩ := va_recv hK.1 J.1 k3 (ab_at he)
  have rw9 : ∀ {i : Nat} {r : Instr × Nat}, ab_lk M_L_piece.2.2.2.2.2.2 i = some r → decode cL_piece i = .ok (r.1, r.2) := fun hr => (hOM.2.2.2 _ (ab_lk_mem hr)).1
  have hlen9 : ∀ sig, parseMethodDescriptor M_X11_piece.2.1.desc = some sig → ([.int x, .int w] : List Value).length = sig.parameters.length := by
    intro sig hs
    have h9 := o_X11_piece.2.2.2.2.1.2.2
    rw [hs] at h9
    exact (Option.some.inj h9).symm
  have hwd : ∀ vm₁, s.WarmedH vm₁ → pc_Wd (T.setVm vm₁) := by
    intro vm₁ hW₁
    refine hW.1.go (U := T.setVm vm₁) hW₁ (fun y cy hy hst => ?_)
    show T.heap[y]? = some cy
    rw [hT, J.2.2.1.2.1 y (Array.getElem?_eq_some_iff.mp hy).1 (fun hq => by have := pc_st hA hI.1 y cy hq hy; rw [hst] at this; cases this)]
    exact hy
  obtain ⟨v, vm₁, U', L, hW₁, X', hP', hF', hsz, ⟨ce, hce, hcv, hcc⟩, hL, st⟩ := pc_callVT X hx (hB (ab_rm 8 1 6) (by decide) (by decide)) (own := RL) (index := 7) hown (hts _ (hOM.1.2.1 _ (ab_lk_mem (by rfl)))) (hts _ k1) (hts _ k2) (hts _ o_X11_piece.2.1) ⟨o_X11_piece.2.2.2.2.1.1, o_X11_piece.2.2.2.2.1.2.1⟩ (b := ab_ad G 0) (by rw [hT]; exact r1) r2 (k4 ▸ r3)
    (g := F0 m 5 ls [.int w, .int x, .ref (ab_ad G 0), .int 0, .ref (ab_ad G b)]) rfl (hlv.1.trans hml.symm) (argsL := [.int x, .int w]) (rest := [.int 0, .ref (ab_ad G b)]) hlen9 rfl (show 2 * 0 + (1 + (1 + 0)) ≤ 8 by decide) (by rw [hb]; exact rw9 (i := 5) (r := (.invokevirtual 7, 3)) rfl) (show 0 + 1 ≤ 1 by decide) (show 0 + 6 ≤ 6 by decide) (fun vm₁ hW₁ => ⟨⟨rfl, ab_K_warm (U := T.setVm vm₁) hW₁ hK, by show ab_I G false h T.heap; rw [hT]; exact I⟩, hwd vm₁ hW₁⟩)
  have hcc' : s.vm.findClass cls = some ce.cls := by
    have : (T.setVm vm₁).vm.findClass cls = some ce.cls := hcc
    rw [← this]
    exact (hW₁.alike.findClass _ _).symm
  have hF : va_F (ab_A G) s U' := by
    obtain ⟨f1, f2⟩ := hF'
    have f1 : T.heap.size ≤ U'.heap.size := f1
    have f2 : ∀ q : Nat, q < T.heap.size → ¬ ab_A G q → U'.heap[q]? = T.heap[q]? := f2
    rw [hT] at f1 f2
    exact ⟨Nat.le_trans J.2.2.1.1 f1, fun z h1 h2 => (f2 z (Nat.lt_of_lt_of_le h1 J.2.2.1.1) h2).trans (J.2.2.1.2.1 z h1 h2)⟩
  have wl : ∀ w ∈ pc_w3, w.before args s = true := pc_ride (State.WarmedH.refl s) (fun _ _ hy _ => hy) pc_w3_ride hW.2.1
  have hLL : ∀ q ∈ locs ++ L, ab_A G q.base := fun q hq => (List.mem_append.mp hq).elim (J.2.2.1.2.2 q) (hL q)
  obtain ⟨x1, x2, hx12, cv1, cv2, t1, t2, p1, p2⟩ := pc_tab htab
  have fin : ∀ (k : Nat) (t : State), post (some (.int (nI k))) h → t.heap = U'.heap → ab_Q G false 1 post args s (.returned (some (.int (nI k)))) t := fun k t hp ht =>
    ⟨⟨some (.int (nI k)), h, rfl, hp, ⟨by rw [ht]; exact hP', J.2.1, (fun q => by cases q), (fun q => by cases q)⟩, (fun q => by cases q)⟩, by unfold va_F; rw [ht]; exact hF⟩
  rcases hk with ⟨rfl, rfl⟩ | ⟨rfl, rfl⟩
  · have r1 : ∀ w ∈ pc_w1, w.before args s = true := pc_ride (State.WarmedH.refl s) (fun _ _ hy _ => hy) pc_w1_ride hW.1.1
    obtain ⟨c3, c4, hc3, hc4, hasg⟩ := Cond.castable_spec (r1 (.castable pc_IO pc_IO) (List.mem_append_right _ (pc_oe 2 rfl)))
    cases Option.some.inj (hc3.symm.trans hcc')
    cases Option.some.inj (hc4.symm.trans hcc')
    obtain ⟨vm', X'', st'⟩ := pc_catch1 X' v (g := F0 m 5 ls [.int 0, .ref (ab_ad G b)]) rfl (own := RL) (n1 := pc_IO) hown x1 x2 hx12 cv1 (by rw [t1]; decide) (by rw [t1]; exact wl _ (by simp [pc_w3])) hcc' hce (by rw [hcv]; rfl) hasg
    have key : W p G.1 e (ab_rm 8 1 6) s m args below meth c U'.heap (locs ++ L) (0 + 1) (0 + 6) (MQ below (ab_Q G false 1 post) args s 1 6 (ab_A G)) (F0 m 13 ls [.ref v]) := by
      refine lv_astore hx hb (rw9 (i := 13) (r := (.astore 4, 2)) rfl) (ab_lv_has hlv) (by decide) rfl (fun ls' _ => ?_)
      refine lv_iconst hx hb (rw9 (i := 15) (r := (.iconst 1, 1)) rfl) (v := nI 1) (by decide) ?_
      exact W.zret hx hb hr rfl (fun t ht _ => fin 1 t hpost ht) hLL (rw9 (i := 16) (r := (.ireturn, 1)) rfl) hl
    obtain ⟨t, a1, b1⟩ := key (U'.setVm vm') rfl X''
    exact ⟨t, st _ (st' t (by rw [p1]; exact a1)), b1⟩
  · have r1 : ∀ w ∈ pc_w2, w.before args s = true := pc_ride (State.WarmedH.refl s) (fun _ _ hy _ => hy) pc_w2_ride hW.1.2.1
    obtain ⟨c3, c4, hc3, hc4, hasg⟩ := Cond.castable_spec (r1 (.castable pc_NS pc_NS) (List.mem_append_right _ (pc_oe 2 rfl)))
    cases Option.some.inj (hc3.symm.trans hcc')
    cases Option.some.inj (hc4.symm.trans hcc')
    obtain ⟨d1, d2, hd1, hd2, hno⟩ := hW.2.2
    cases Option.some.inj (hd2.symm.trans hcc')
    obtain ⟨vm', X'', st'⟩ := pc_catch2 X' v (g := F0 m 5 ls [.int 0, .ref (ab_ad G b)]) rfl (own := RL) (n1 := pc_IO) (n2 := pc_NS) hown x1 x2 hx12 cv1 cv2 (by rw [t1]; decide) (by rw [t2]; decide) (by rw [t1]; exact wl _ (by simp [pc_w3])) (by rw [t2]; exact wl _ (by simp [pc_w3])) hd1 hcc' hce (by rw [hcv]; rfl) hno hasg
    have key : W p G.1 e (ab_rm 8 1 6) s m args below meth c U'.heap (locs ++ L) (0 + 1) (0 + 6) (MQ below (ab_Q G false 1 post) args s 1 6 (ab_A G)) (F0 m 17 ls [.ref v]) := by
      refine lv_astore hx hb (rw9 (i := 17) (r := (.astore 4, 2)) rfl) (ab_lv_has hlv) (by decide) rfl (fun ls' _ => ?_)
      refine lv_iconst hx hb (rw9 (i := 19) (r := (.iconst 2, 1)) rfl) (v := nI 2) (by decide) ?_
      exact W.zret hx hb hr rfl (fun t ht _ => fin 2 t hpost ht) hLL (rw9 (i := 20) (r := (.ireturn, 1)) rfl) hl
    obtain ⟨t, a1, b1⟩ := key (U'.setVm vm') rfl X''
    exact ⟨t, st _ (st' t (by rw [p2]; exact a1)), b1⟩
end PCX

