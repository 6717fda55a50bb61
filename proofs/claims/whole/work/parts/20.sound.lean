/-! a walk's place: the launch, the classes' numbers, the arrays' classes, the addresses that may change, the places' addresses -/
abbrev ab_G : Type := Launch × va_G × (Nat → ClassId) × (Nat → Prop) × (Nat → Nat)
abbrev ab_ad (G : ab_G) : Nat → Nat := G.2.2.2.2
def ab_tys (cA : Nat → ClassId) : List (ClassId × FieldType) := [(cA 0, .int), (cA 1, .long), (cA 2, .boolean), (cA 3, .object "BoneEstate$Law"), (cA 4, .object "BoneEstate$Estate")]
def ab_nq : List (String × Nat × MethodName × String) := [("BoneEstate", 20, ⟨"BoneEstate$Plan", "<init>", "()V"⟩, "BoneEstate"), ("BoneEstate", 70, ⟨"BoneEstate$Notebook", "<init>", "()V"⟩, "BoneEstate"), ("BoneEstate", 77, ⟨"BoneEstate$Estate", "<init>", "()V"⟩, "BoneEstate"), ("BoneEstate$LawReader", 17, ⟨"BoneEstate$Law", "<init>", "()V"⟩, "BoneEstate"), ("BoneEstate$Plan", 47, ⟨"BoneEstate$Law", "<init>", "()V"⟩, "BoneEstate"), ("BoneEstate$PlanReader", 11, ⟨"BoneEstate$Plan", "<init>", "()V"⟩, "BoneEstate")]
def ab_K (G : ab_G) (U : State) : Prop := va_K G.2.1 vwCl (ab_tys G.2.2.1) U ∧ (∀ q ∈ ab_nq, va_Nw (.methodLinkNest q.1 q.2.1 q.2.2.1 q.2.2.2) U) ∧ va_AO "BoneEstate$Law" U ∧ va_AO "BoneEstate$Estate" U
theorem ab_K_warm {G : ab_G} {s U : State} (hW : s.WarmedH U.vm) (h : ab_K G s) : ab_K G U := ⟨va_K.moved hW.alike h.1, fun q hq => va_Nw.warmM hW (h.2.1 q hq), h.2.2.1.moved hW.alike, h.2.2.2.moved hW.alike⟩
theorem ab_K_same {G : ab_G} {s U : State} (hv : s.vm = U.vm) (h : ab_K G s) : ab_K G U := ⟨va_K.moved (by rw [hv]; exact Vm.Alike.refl _) h.1, fun q hq => va_Nw.same rfl hv (h.2.1 q hq), h.2.2.1.moved (by rw [hv]; exact Vm.Alike.refl _), h.2.2.2.moved (by rw [hv]; exact Vm.Alike.refl _)⟩
abbrev ab_A (G : ab_G) : Nat → Prop := G.2.2.2.1
abbrev ab_W (G : ab_G) (h : ab_H) : va_W := ab_w (ab_ad G) G.2.2.1 0 h
def ab_J (G : ab_G) (fr : Bool) (n0 : Nat) (s : State) (H : Heap) (locs : List Loc) (cells : Nat) (h : ab_H) : Prop :=
  va_P G.2.1 vwCl (ab_W G h) H ∧ va_D (ab_A G) (ab_W G h) ∧ va_S (ab_A G) s.heap H locs ∧ (fr = true → ∀ q, ab_A G q ↔ ab_ad G 0 ≤ q) ∧ (fr = true → (∀ k, ab_ad G k = ab_ad G 0 + k) ∧ s.heap.size = ab_ad G 0 + n0 ∧ n0 + cells = h.length)
def ab_C (G : ab_G) (M : ab_MD) (p : Program) (s : State) (m : MethodId) (args : Array Value) (meth : Method) (c : Code) : Prop :=
  p.tables.exec = Jvm.exec ∧ c.code = M.2.2.1 ∧ (∀ w ∈ ab_T, w.before args s = true) ∧ s.vm.findClass M.1.1 = some m.cls ∧ c.maxLocals = M.2.2.2.1 ∧ meth.name = M.2.1.name ∧ ab_K G s ∧ ab_OM M
def ab_R (G : ab_G) (M : ab_MD) (fr : Bool) (n0 : Nat) (p : Program) (e : Env) (R : Room) (s : State) (m : MethodId) (args : Array Value) (below : List Frame) (meth : Method) (c : Code) (Q : State → Prop) (cells slots pc : Nat) (L : List (Option Value)) (st : List Value) (h : ab_H) : Prop :=
  ∀ (H : Heap) (locs : List Loc) (ls : Array Slot), ab_J G fr n0 s H locs cells h → ab_lv (ab_ad G) ls M.2.2.2.1 L → W p G.1 e R s m args below meth c H locs cells slots Q (F0 m pc ls (st.map (ab_v (ab_ad G))))
/-! ===== a step of the abstract machine is a step of the machine ===== -/
theorem ab_a_len (ad : Nat → Nat) (x : vp_A) : (ab_a ad x).1 = x.1 := by
  unfold ab_a
  split <;> rfl
theorem ab_v_rf (ad : Nat → Nat) (r : Option Nat) : va_rf (r.map ad) = ab_v ad (va_rf r) := by cases r <;> rfl
theorem ab_fit {ty : FieldType} {tc : Nat} {v : Value} (ad : Nat → Nat) (h1 : ab_tk ty = tc) (h2 : ab_fg tc v) : narrow ty (ab_v ad v) = ab_v ad v ∧ fits ty (ab_v ad v) = true := by
  subst h1
  cases ty <;> cases v <;> simp [ab_tk, ab_fg] at h2 <;> first | exact ⟨rfl, rfl⟩ | (rcases h2 with rfl | rfl <;> exact ⟨rfl, rfl⟩)
theorem ab_sw_none {M : ab_MD} {n pc : Nat} {L : List (Option Value)} {st : List Value} {h : ab_H} {ins : Instr} (hs : ab_sw ins = true) : ab_in M n pc L st h ins = none := by
  unfold ab_sw at hs
  split at hs
  · rfl
  · rfl
  · cases hs
section ABI
variable {p : Program} {l : Launch} {e : Env} {R : Room} {s : State} {m : MethodId} {args : Array Value} {below : List Frame} {meth : Method} {c : Code} {H : Heap} {locs : List Loc} {cells slots : Nat} {Q : State → Prop} {cc : ByteArray} {pc t : Nat} {ls : Array Slot} {rest : List Value}
theorem ab_if1 {cnd : ClassFile.Cond} {o : Int} {xx : Int32} (hx : p.tables.exec = Jvm.exec) (hb : c.code = cc) (hdg : decode cc pc = .ok (.ifCond cnd o, 3)) (ht : ab_tg pc o = some t) (q : W p l e R s m args below meth c H locs cells slots Q (F0 m (ab_br cnd xx 0 t (pc + 3)) ls rest)) : W p l e R s m args below meth c H locs cells slots Q (F0 m pc ls (.int xx :: rest)) := by
  cases cnd
  · refine lv_if_eq hx hb hdg (ab_tg_ok ht) (fun hc => ?_) (fun hc => ?_) <;> first | (simp only [ab_br, if_pos hc] at q; exact q) | (simp only [ab_br, if_neg hc] at q; exact q)
  · refine lv_if_ne hx hb hdg (ab_tg_ok ht) (fun hc => ?_) (fun hc => ?_) <;> first | (simp only [ab_br, if_pos hc] at q; exact q) | (simp only [ab_br, if_neg hc] at q; exact q)
  · refine lv_if_lt hx hb hdg (ab_tg_ok ht) (fun hc => ?_) (fun hc => ?_) <;> first | (simp only [ab_br, if_pos hc] at q; exact q) | (simp only [ab_br, if_neg hc] at q; exact q)
  · refine lv_if_ge hx hb hdg (ab_tg_ok ht) (fun hc => ?_) (fun hc => ?_) <;> first | (simp only [ab_br, if_pos hc] at q; exact q) | (simp only [ab_br, if_neg hc] at q; exact q)
  · refine lv_if_gt hx hb hdg (ab_tg_ok ht) (fun hc => ?_) (fun hc => ?_) <;> first | (simp only [ab_br, if_pos hc] at q; exact q) | (simp only [ab_br, if_neg hc] at q; exact q)
  · refine lv_if_le hx hb hdg (ab_tg_ok ht) (fun hc => ?_) (fun hc => ?_) <;> first | (simp only [ab_br, if_pos hc] at q; exact q) | (simp only [ab_br, if_neg hc] at q; exact q)
theorem ab_if2 {cnd : ClassFile.Cond} {o : Int} {xx yy : Int32} (hx : p.tables.exec = Jvm.exec) (hb : c.code = cc) (hdg : decode cc pc = .ok (.if_icmp cnd o, 3)) (ht : ab_tg pc o = some t) (q : W p l e R s m args below meth c H locs cells slots Q (F0 m (ab_br cnd xx yy t (pc + 3)) ls rest)) : W p l e R s m args below meth c H locs cells slots Q (F0 m pc ls (.int yy :: .int xx :: rest)) := by
  cases cnd
  · refine lv_icmp_eq hx hb hdg (ab_tg_ok ht) (fun hc => ?_) (fun hc => ?_) <;> first | (simp only [ab_br, if_pos hc] at q; exact q) | (simp only [ab_br, if_neg hc] at q; exact q)
  · refine lv_icmp_ne hx hb hdg (ab_tg_ok ht) (fun hc => ?_) (fun hc => ?_) <;> first | (simp only [ab_br, if_pos hc] at q; exact q) | (simp only [ab_br, if_neg hc] at q; exact q)
  · refine lv_icmp_lt hx hb hdg (ab_tg_ok ht) (fun hc => ?_) (fun hc => ?_) <;> first | (simp only [ab_br, if_pos hc] at q; exact q) | (simp only [ab_br, if_neg hc] at q; exact q)
  · refine lv_icmp_ge hx hb hdg (ab_tg_ok ht) (fun hc => ?_) (fun hc => ?_) <;> first | (simp only [ab_br, if_pos hc] at q; exact q) | (simp only [ab_br, if_neg hc] at q; exact q)
  · refine lv_icmp_gt hx hb hdg (ab_tg_ok ht) (fun hc => ?_) (fun hc => ?_) <;> first | (simp only [ab_br, if_pos hc] at q; exact q) | (simp only [ab_br, if_neg hc] at q; exact q)
  · refine lv_icmp_le hx hb hdg (ab_tg_ok ht) (fun hc => ?_) (fun hc => ?_) <;> first | (simp only [ab_br, if_pos hc] at q; exact q) | (simp only [ab_br, if_neg hc] at q; exact q)
end ABI
section ABM
variable {G : ab_G} {M : ab_MD} {fr : Bool} {n0 : Nat} {p : Program} {e : Env} {R : Room} {s : State} {m : MethodId} {args : Array Value} {below : List Frame} {meth : Method} {c : Code} {Q : State → Prop} {cells slots pc : Nat} {L L' : List (Option Value)} {st st' : List Value} {h h' : ab_H}
theorem ab_J.upd {H H1 : Heap} {locs locs1 : List Loc} (J : ab_J G fr n0 s H locs cells h) {a : Nat} {ee : ab_E} (h1 : va_P G.2.1 vwCl ((ab_W G h).set a (ab_ad G a, ab_e (ab_ad G) G.2.2.1 ee)) H1) (h2 : va_D (ab_A G) ((ab_W G h).set a (ab_ad G a, ab_e (ab_ad G) G.2.2.1 ee))) (h3 : va_S (ab_A G) s.heap H1 locs1) : ab_J G fr n0 s H1 locs1 cells (h.set a ee) := by
  rw [ab_to] at h1 h2
  exact ⟨h1, h2, h3, J.2.2.2.1, fun q => by rw [List.length_set]; exact J.2.2.2.2 q⟩
set_option maxHeartbeats 4000000 in
theorem ab_mv_ok {ins : Instr} {n pc' : Nat} {g : Prop} (C : ab_C G M p s m args meth c) (hdg : decode M.2.2.1 pc = .ok (ins, n)) (hn : ab_len ins = n) (hcst : ab_cst ins = true) (ho : ab_mv M n pc L h ins st = some (g, pc', L', st', h')) (hg : g)
    (k : ab_R G M fr n0 p e R s m args below meth c Q cells slots pc' L' st' h') : ab_R G M fr n0 p e R s m args below meth c Q cells slots pc L st h := by
  obtain ⟨hx, hb, hts, hown, hml, hnm, hK0, hOC, hcls, hini, hrows⟩ := C
  have hK := hK0.1
  subst hn
  intro H locs ls J hlv
  obtain ⟨hP, hD, hS, hB, hfr⟩ := id J
  unfold ab_mv at ho
  split at ho
  -- iload
  · unfold ab_ldI at ho
    split at ho
    · cases ho
      rename_i hq
      exact lv_iload hx hb hdg (hlv.2.2 _ _ hq) (k H locs ls J hlv)
    · cases ho
  · unfold ab_ldI at ho
    split at ho
    · cases ho
      rename_i hq
      exact lv_iload_n hx hb hdg rfl (hlv.2.2 _ _ hq) (k H locs ls J hlv)
    · cases ho
  · unfold ab_ldL at ho
    split at ho
    · cases ho
      rename_i hq
      exact lv_lload hx hb hdg (hlv.2.2 _ _ hq) (k H locs ls J hlv)
    · cases ho
  · unfold ab_ldL at ho
    split at ho
    · cases ho
      rename_i hq
      exact lv_lload_n hx hb hdg rfl (hlv.2.2 _ _ hq) (k H locs ls J hlv)
    · cases ho
  · unfold ab_ldA at ho
    split at ho
    · cases ho
      rename_i hq
      exact lv_aload hx hb hdg (hlv.2.2 _ _ hq) (k H locs ls J hlv)
    · cases ho
  · unfold ab_ldA at ho
    split at ho
    · cases ho
      rename_i hq
      exact lv_aload_n hx hb hdg rfl (hlv.2.2 _ _ hq) (k H locs ls J hlv)
    · cases ho
  -- stores
  · cases hq : Nat.blt _ M.2.2.2.1 <;> rw [hq] at ho <;> cases ho
    exact lv_istore hx hb hdg (ab_lv_has hlv) (Nat.le_of_ble_eq_true hq) rfl (fun ls' h2 => k H locs ls' J (ab_lv_s1 rfl h2))
  · cases hq : Nat.blt _ M.2.2.2.1 <;> rw [hq] at ho <;> cases ho
    exact lv_istore_n hx hb hdg rfl (ab_lv_has hlv) (Nat.le_of_ble_eq_true hq) rfl (fun ls' h2 => k H locs ls' J (ab_lv_s1 rfl h2))
  · cases hq : Nat.blt _ M.2.2.2.1 <;> rw [hq] at ho <;> cases ho
    exact lv_lstore hx hb hdg (ab_lv_has hlv) (Nat.le_of_ble_eq_true hq) rfl (fun ls' h2 => k H locs ls' J (ab_lv_s2 rfl h2))
  · cases hq : Nat.blt _ M.2.2.2.1 <;> rw [hq] at ho <;> cases ho
    exact lv_lstore_n hx hb hdg rfl (ab_lv_has hlv) (Nat.le_of_ble_eq_true hq) rfl (fun ls' h2 => k H locs ls' J (ab_lv_s2 rfl h2))
  · cases hq : Nat.blt _ M.2.2.2.1 <;> rw [hq] at ho <;> cases ho
    exact lv_astore hx hb hdg (ab_lv_has hlv) (Nat.le_of_ble_eq_true hq) rfl (fun ls' h2 => k H locs ls' J (ab_lv_s1 rfl h2))
  · cases hq : Nat.blt _ M.2.2.2.1 <;> rw [hq] at ho <;> cases ho
    exact lv_astore_n hx hb hdg rfl (ab_lv_has hlv) (Nat.le_of_ble_eq_true hq) rfl (fun ls' h2 => k H locs ls' J (ab_lv_s1 rfl h2))
  -- iinc
  · split at ho
    · rename_i hv
      cases hq : Nat.blt _ M.2.2.2.1 <;> rw [hq] at ho <;> cases ho
      have hm := ab_ll_to (ab_ad G) L 0 _ _ hv
      rw [Nat.zero_add] at hm
      obtain ⟨kk, hkk⟩ := List.getElem?_of_mem hm
      exact lv_iinc hx hb hdg (ab_lv_has hlv) hkk (by rw [of_decide_eq_true hcst]) (Nat.le_of_ble_eq_true hq) rfl (fun ls' h2 => k H locs ls' J (ab_lv_s1 rfl h2))
    · cases ho
  -- goto
  · split at ho
    · rename_i ht
      cases ho
      exact lv_goto hx hb hdg (ab_tg_ok ht) (k H locs ls J hlv)
    · cases ho
  -- ifCond
  · split at ho
    · rename_i ht
      cases ho
      exact ab_if1 hx hb hdg ht (k H locs ls J hlv)
    · cases ho
  -- if_icmp
  · split at ho
    · rename_i ht
      cases ho
      exact ab_if2 hx hb hdg ht (k H locs ls J hlv)
    · cases ho
  -- constants
  · split at ho
    · rename_i hv
      cases ho
      exact lv_ldc hx hb hown (hts _ (hOC.2.2.1 _ (ab_lk_mem hv))) hdg (k H locs ls J hlv)
    · cases ho
  · split at ho
    · rename_i hv
      cases ho
      exact lv_ldcw hx hb hown (hts _ (hOC.2.2.1 _ (ab_lk_mem hv))) hdg (k H locs ls J hlv)
    · cases ho
  · split at ho
    · rename_i hv
      cases ho
      exact lv_ldc2 hx hb hown (hts _ (hOC.2.2.2 _ (ab_lk_mem hv))) hdg (k H locs ls J hlv)
    · cases ho
  -- getfield
  · unfold ab_gf at ho
    split at ho
    · rename_i ci kf ty fin ci' fs hr he
      split at ho
      · rename_i v hv
        cases hq : Nat.beq ci ci' <;> rw [hq] at ho <;> cases ho
        have hci : ci = ci' := Nat.eq_of_beq_eq_true hq
        subst hci
        obtain ⟨q, q1, q2, q3, q4, q5, q6, q7⟩ := hOC.1 _ (ab_lk_mem hr)
        exact va_get (C := q.1) (T := q.2.1) (N := q.2.2) hx hb hts q2.1 hown hK hP _ (ab_at he) q1 kf q3 (hts _ q4) (fun _ h => h) (v := ab_v (ab_ad G) v) (by rw [List.getElem?_map, hv]; rfl) hdg (k H locs ls J hlv)
      · cases ho
    · cases ho
  -- putfield
  · unfold ab_pf at ho
    split at ho
    · rename_i idx v a st9 _ _ ci kf ty fin ci' fs hr he
      cases hq : (Nat.beq ci ci' && Nat.blt kf fs.length && (!fin || (M.2.2.2.2.2.1 && Nat.beq ci M.1.2.1))) <;> rw [hq] at ho <;> cases ho
      simp only [Bool.and_eq_true] at hq
      obtain ⟨⟨hq1, hq2⟩, hq3⟩ := hq
      have hci : ci = ci' := Nat.eq_of_beq_eq_true hq1
      subst hci
      obtain ⟨q, q1, q2, q3, q4, q5, q6, q7⟩ := hOC.1 _ (ab_lk_mem hr)
      dsimp only at q1 q2 q3 q4 q5 q6 q7
      obtain ⟨f1, f2⟩ := ab_fit (ab_ad G) q6 hg
      have hlen : kf < (fs.map (ab_v (ab_ad G))).length := by rw [List.length_map]; exact Nat.le_of_ble_eq_true hq2
      have fin2 : ∀ (H1 : Heap) (locs1 : List Loc), va_P G.2.1 vwCl ((ab_W G h).set a (ab_ad G a, .inr (ci, (fs.map (ab_v (ab_ad G))).set kf (ab_v (ab_ad G) v)))) H1 → va_D (ab_A G) ((ab_W G h).set a (ab_ad G a, .inr (ci, (fs.map (ab_v (ab_ad G))).set kf (ab_v (ab_ad G) v)))) → va_S (ab_A G) s.heap H1 locs1 → W p G.1 e R s m args below meth c H1 locs1 cells slots Q (F0 m (pc + 3) ls (st'.map (ab_v (ab_ad G)))) := by
        intro H1 locs1 a1 a2 a3
        refine k H1 locs1 ls (J.upd (ee := .inr (ci, fs.set kf v)) ?_ ?_ a3) hlv
        · rw [show ab_e (ab_ad G) G.2.2.1 (.inr (ci, fs.set kf v)) = .inr (ci, (fs.map (ab_v (ab_ad G))).set kf (ab_v (ab_ad G) v)) by simp [ab_e, List.map_set]]; exact a1
        · rw [show ab_e (ab_ad G) G.2.2.1 (.inr (ci, fs.set kf v)) = .inr (ci, (fs.map (ab_v (ab_ad G))).set kf (ab_v (ab_ad G) v)) by simp [ab_e, List.map_set]]; exact a2
      cases fin with
      | false => exact va_put (C := q.1) (T := q.2.1) (N := q.2.2) hx hb hts q2.1 (ab_ty ci) q2.2.1 q2.2.2 hown hK hP hD hS _ (ab_at he) q1 kf q3 (hts _ q4) (fun _ h => h) q5 (q2.2.1 kf q3) f1 f2 hlen hdg fin2
      | true =>
        simp only [Bool.not_true, Bool.false_or, Bool.and_eq_true] at hq3
        exact va_putF (C := q.1) (T := q.2.1) (N := q.2.2) hx hb hts q2.1 (ab_ty ci) q2.2.1 q2.2.2 hown hK hP hD hS _ (ab_at he) q1 kf q3 (hts _ q4) (fun _ h => h) q5 (hnm.trans (hini hq3.1)) (q7 (Nat.eq_of_beq_eq_true hq3.2)) (q2.2.1 kf q3) f1 f2 hlen hdg fin2
    · cases ho
  -- arrays: loads
  · split at ho
    · rename_i he
      cases ho
      exact va_iald hx hb hK hP _ 0 (ab_at he) rfl hg hdg (k H locs ls J hlv)
    · cases ho
  · split at ho
    · rename_i he
      cases ho
      exact va_lald hx hb hK hP _ 1 (ab_at he) rfl hg hdg (k H locs ls J hlv)
    · cases ho
  · split at ho
    · rename_i he
      cases ho
      exact va_zald hx hb hK hP _ 2 (ab_at he) rfl hg hdg (k H locs ls J hlv)
    · cases ho
  · split at ho
    · rename_i he
      cases ho
      refine va_aldq hx hb hK hP _ 3 (ab_at he) rfl hg hdg ?_
      rw [ab_v_rf]
      exact k H locs ls J hlv
    · rename_i he
      cases ho
      refine va_aldq hx hb hK hP _ 4 (ab_at he) rfl hg hdg ?_
      rw [ab_v_rf]
      exact k H locs ls J hlv
    · cases ho
  -- arrays: stores
  · split at ho
    · rename_i he
      cases ho
      exact va_iast hx hb hK hP hD hS _ 0 (ab_at he) rfl hg hdg (fun H1 locs1 a1 a2 a3 => k H1 locs1 ls (J.upd a1 a2 a3) hlv)
    · cases ho
  · split at ho
    · rename_i he
      cases ho
      exact va_last hx hb hK hP hD hS _ 1 (ab_at he) rfl hg hdg (fun H1 locs1 a1 a2 a3 => k H1 locs1 ls (J.upd a1 a2 a3) hlv)
    · cases ho
  · split at ho
    · rename_i he
      cases ho
      exact va_zast hx hb hK hP hD hS _ 2 (ab_at he) rfl hg hdg (fun H1 locs1 a1 a2 a3 => k H1 locs1 ls (J.upd a1 a2 a3) hlv)
    · cases ho
  -- arraylength
  · split at ho
    · rename_i he
      cases ho
      exact va_alen hx hb hK hP _ 0 (ab_at he) rfl (by rw [ab_a_len]; rfl) hdg (k H locs ls J hlv)
    · rename_i he
      cases ho
      exact va_alen hx hb hK hP _ 1 (ab_at he) rfl (by rw [ab_a_len]; rfl) hdg (k H locs ls J hlv)
    · rename_i he
      cases ho
      exact va_alen hx hb hK hP _ 2 (ab_at he) rfl (by rw [ab_a_len]; rfl) hdg (k H locs ls J hlv)
    · cases ho
  · cases ho
/-- ONE STEP, with what it asks (an index in its row, a divisor that isn't 0) -/
theorem ab_stepG {pc' : Nat} {g : Prop} (C : ab_C G M p s m args meth c) (ho : ab_st M pc L st h = some (g, pc', L', st', h')) (hg : g)
    (k : ab_R G M fr n0 p e R s m args below meth c Q cells slots pc' L' st' h') : ab_R G M fr n0 p e R s m args below meth c Q cells slots pc L st h := by
  unfold ab_st at ho
  split at ho
  · rename_i r hr
    obtain ⟨ins, n⟩ := r
    obtain ⟨d1, d2, d3⟩ := C.2.2.2.2.2.2.2.2.2.2 _ (ab_lk_mem hr)
    dsimp only at d1 d2 d3 ho
    rcases d2 with d2 | d2
    · unfold ab_in at ho
      split at ho
      · rename_i r2 hr2
        obtain ⟨g2, st2⟩ := r2
        cases ho
        intro H locs ls J hlv
        exact ab_op_ok (ab_ad G) C.1 C.2.1 d1 d2 d3 hr2 hg (k H locs ls J hlv)
      · exact ab_mv_ok C d1 d2 d3 ho hg k
    · rw [ab_sw_none d2] at ho
      cases ho
  · cases ho
theorem ab_step {pc' : Nat} (C : ab_C G M p s m args meth c) (ho : ab_st M pc L st h = some (True, pc', L', st', h'))
    (k : ab_R G M fr n0 p e R s m args below meth c Q cells slots pc' L' st' h') : ab_R G M fr n0 p e R s m args below meth c Q cells slots pc L st h := ab_stepG C ho trivial k
end ABM
