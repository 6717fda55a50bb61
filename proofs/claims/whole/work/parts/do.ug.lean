/-! ===== the script beside the world; the law's opening; the claim (printed by wip/tools/mkdo.py) ===== -/
/-- no reference to place 1000 -/
def okV : Value → Bool
  | .ref k => !Nat.beq k 1000
  | _ => true
def okE : ab_E → Prop
  | .inl (_, _, .inr (.inr (.inr (.inr f)))) => ∀ j : Nat, f j ≠ some 1000
  | .inl _ => True
  | .inr (_, fs) => fs.all okV = true
theorem ad_v {ad ad' : Nat → Nat} (ha : ∀ k, k ≠ 1000 → ad k = ad' k) (v : Value) (h : okV v = true) : ab_v ad v = ab_v ad' v := by
  cases v with
  | ref k =>
    have h : (!Nat.beq k 1000) = true := h
    show Value.ref (ad k) = Value.ref (ad' k)
    rw [ha k (fun z => by rw [z] at h; cases h)]
  | _ => rfl
theorem ad_e {ad ad' : Nat → Nat} {cA : Nat → ClassId} (ha : ∀ k, k ≠ 1000 → ad k = ad' k) : ∀ x : ab_E, okE x → ab_e ad cA x = ab_e ad' cA x
  | .inl (k, n, .inl f), _ => rfl
  | .inl (k, n, .inr (.inl f)), _ => rfl
  | .inl (k, n, .inr (.inr (.inl f))), _ => rfl
  | .inl (k, n, .inr (.inr (.inr (.inl f)))), _ => rfl
  | .inl (k, n, .inr (.inr (.inr (.inr f)))), h => by
    have h : ∀ j : Nat, f j ≠ some 1000 := h
    show Sum.inl (cA k, n, Sum.inr (Sum.inr (Sum.inr (Sum.inr (fun j => (f j).map ad))))) = Sum.inl (cA k, n, Sum.inr (Sum.inr (Sum.inr (Sum.inr (fun j => (f j).map ad')))))
    have e : (fun j => (f j).map ad) = (fun j => (f j).map ad') := by
      funext j
      cases q : f j with
      | none => rfl
      | some k => show some (ad k) = some (ad' k); rw [ha k (fun z => h j (by rw [q, z]))]
    rw [e]
  | .inr (ci, fs), h => by
    have h : fs.all okV = true := h
    show Sum.inr (ci, fs.map (ab_v ad)) = Sum.inr (ci, fs.map (ab_v ad'))
    rw [List.map_congr_left (fun v hv => ad_v ha v (List.all_eq_true.mp h v hv))]
theorem ad_w {ad ad' : Nat → Nat} {cA : Nat → ClassId} (ha : ∀ k, k ≠ 1000 → ad k = ad' k) : ∀ (h : ab_H) (k : Nat), (∀ x ∈ h, okE x) → k + h.length ≤ 1000 → ab_w ad cA k h = ab_w ad' cA k h
  | [], _, _, _ => rfl
  | x :: t, k, h1, h2 => by
    have h2 : k + (t.length + 1) ≤ 1000 := h2
    show (ad k, ab_e ad cA x) :: ab_w ad cA (k + 1) t = (ad' k, ab_e ad' cA x) :: ab_w ad' cA (k + 1) t
    rw [ha k (by omega), ad_e ha x (h1 x List.mem_cons_self), ad_w ha t (k + 1) (fun y hy => h1 y (List.mem_cons_of_mem _ hy)) (by omega)]
def okQ (q : Nat × Nat) : Bool := !(Nat.beq q.1 2 && Nat.beq q.2 1000)
def okD : ms_D → Prop
  | .inl _ => True
  | .inr (.inl (_, fs)) => fs.all okQ = true
  | .inr (.inr (_, _, f)) => ∀ j : Nat, f j ≠ some 1000
def okL : List ms_D → Prop
  | [] => True
  | d :: t => okD d ∧ okL t
theorem ok_lws {a b c : Nat} (ha : a ≠ 1000) (hb : b ≠ 1000) (hc : c ≠ 1000) : ∀ j : Nat, lwsF a b c j ≠ some 1000
  | 0 => fun z => ha (Option.some.inj z)
  | 1 => fun z => hb (Option.some.inj z)
  | 2 => fun z => hc (Option.some.inj z)
  | n + 3 => fun z => by cases z
theorem ok_pa : ∀ j : Nat, paF 95 j ≠ some 1000 := by
  intro j z
  unfold paF at z
  cases q : Nat.blt j 20 with
  | false => rw [q] at z; cases z
  | true =>
    rw [q] at z
    have z : some (95 + 4 * j) = some 1000 := z
    have z := Option.some.inj z
    have q : j < 20 := Nat.le_of_ble_eq_true q
    omega
set_option maxRecDepth 100000 in
theorem ok_lB : okL lB := ⟨rfl, rfl, trivial, trivial, rfl, trivial, trivial, trivial, trivial, trivial, trivial, trivial, trivial, trivial, trivial, trivial, ok_lws (by decide) (by decide) (by decide), rfl, trivial, trivial, trivial, rfl, trivial, trivial, trivial, rfl, trivial, trivial, trivial, rfl, rfl, trivial, trivial, trivial, trivial, trivial, trivial, trivial, trivial, trivial, trivial, trivial, ok_lws (by decide) (by decide) (by decide), rfl, trivial, trivial, trivial, rfl, trivial, trivial, trivial, rfl, trivial, trivial, trivial, rfl, trivial, rfl, trivial, trivial, trivial, rfl, trivial, trivial, trivial, trivial, trivial, rfl, trivial, trivial, trivial, trivial, rfl, rfl, trivial, trivial, rfl, trivial, trivial, trivial, trivial, trivial, rfl, trivial, trivial, trivial, rfl, trivial, trivial, trivial, rfl, trivial, trivial, trivial, ok_pa, rfl, trivial, trivial, trivial, rfl, trivial, trivial, trivial, rfl, trivial, trivial, trivial, rfl, trivial, trivial, trivial, rfl, trivial, trivial, trivial, rfl, trivial, trivial, trivial, rfl, trivial, trivial, trivial, rfl, trivial, trivial, trivial, rfl, trivial, trivial, trivial, rfl, trivial, trivial, trivial, rfl, trivial, trivial, trivial, rfl, trivial, trivial, trivial, rfl, trivial, trivial, trivial, rfl, trivial, trivial, trivial, rfl, trivial, trivial, trivial, rfl, trivial, trivial, trivial, rfl, trivial, trivial, trivial, rfl, trivial, trivial, trivial, rfl, trivial, trivial, trivial, rfl, trivial, trivial, trivial, trivial⟩
set_option maxRecDepth 100000 in
theorem ok_lM : okL lMs := ⟨rfl, trivial, trivial, trivial, trivial, trivial, trivial, trivial, trivial, trivial, trivial, trivial, trivial, trivial, trivial, trivial, trivial, trivial, trivial, trivial, trivial, trivial, trivial, trivial, trivial, trivial, trivial, trivial, trivial, trivial, trivial, trivial, trivial, trivial, trivial, trivial, trivial, trivial, trivial, trivial, trivial, trivial⟩
theorem ok_f {S : ms_S} (hS : ∀ a k, S.2.2.1 a k ≠ 1000) (a : Nat) : ∀ (fs : List (Nat × Nat)) (j : Nat), fs.all okQ = true → (ms_f S a j fs).all okV = true
  | [], _, _ => rfl
  | q :: t, j, h => by
    simp only [List.all_cons, Bool.and_eq_true] at h
    show (okV (ms_fv S a j q) && (ms_f S a (j + 1) t).all okV) = true
    rw [ok_f hS a t (j + 1) h.2, Bool.and_true]
    obtain ⟨x, y⟩ := q
    have h1 := h.1
    match x, h1 with
    | 0, _ => rfl
    | 1, _ => rfl
    | 2, h1 => exact h1
    | 3, _ =>
      show (!Nat.beq (S.2.2.1 a j) 1000) = true
      cases z : Nat.beq (S.2.2.1 a j) 1000 with
      | false => rfl
      | true => exact absurd (Nat.eq_of_beq_eq_true z) (hS a j)
    | n + 4, _ => rfl
theorem ok_c {S : ms_S} (hS : ∀ a k, S.2.2.1 a k ≠ 1000) (a : Nat) : ∀ d : ms_D, okD d → okE (ms_c S a d)
  | .inl (0, n), _ => trivial
  | .inl (1, n), _ => trivial
  | .inl (k + 2, n), _ => trivial
  | .inr (.inl (ci, fs)), h => ok_f hS a fs 0 h
  | .inr (.inr (k, n, f)), h => h
theorem ok_h {S : ms_S} (hS : ∀ a k, S.2.2.1 a k ≠ 1000) : ∀ (l : List ms_D) (a : Nat), okL l → ∀ x ∈ ms_h S a l, okE x
  | [], _, _, x, hx => by cases hx
  | d :: t, a, h, x, hx => by
    rcases List.mem_cons.mp hx with z | z
    · rw [z]; exact ok_c hS a d h.1
    · exact ok_h hS t (a + 1) h.2 x z
def adL (n b : Nat) : Nat → Nat := fun k => cond (Nat.beq k 1000) b (n + k)
theorem adL_n {n b k : Nat} (h : k ≠ 1000) : n + k = adL n b k := by
  unfold adL
  cases z : Nat.beq k 1000 with
  | false => rfl
  | true => exact absurd (Nat.eq_of_beq_eq_true z) h
theorem ok_H {Sm : ms_S} {f : Nat → Int64} : ∀ x ∈ lpH s0B Sm f, okE x := by
  intro x hx
  have hx : x ∈ ms_h s0B 0 lB ++ (mT Sm ++ [.inl (1, 1, .inr (.inl f))]) := hx
  rcases List.mem_append.mp hx with z | z
  · exact ok_h (fun a k => by show (57 : Nat) ≠ 1000; decide) lB 0 ok_lB x z
  · rcases List.mem_append.mp z with z | z
    · exact ok_h (S := glU ms_0 Sm) (fun a k => by show (0 : Nat) ≠ 1000; decide) lMs 175 ok_lM x z
    · rw [List.mem_singleton.mp z]
      trivial
theorem lpH_len (S Sm : ms_S) (f : Nat → Int64) : (lpH S Sm f).length = 217 := by
  show (ms_h S 0 lB ++ (mT Sm ++ ([.inl (1, 1, .inr (.inl f))] : ab_H))).length = _
  rw [List.length_append, List.length_append, hB_len, mT_len]
  rfl
set_option maxRecDepth 100000 in
set_option maxHeartbeats 4000000 in
theorem whole_start {p : Program} {e : Env} {s : State} {m : MethodId} {below : List Frame} {meth : Method} {c : Code} (l : Launch) (hfl : l.flags = flags0) (hnm : meth.name = "law") {b L : Nat} {xs : Nat → Int32} (hL : L ≤ 384) (C0 : lw_At p s m meth c b L xs) : W p l e room_1 s m #[Value.ref b] below meth c s.heap [] 0 0 (lw_Z below #[Value.ref b] s) (entryFrame m ([Value.ref b] : List Value).toArray 7) := by
  obtain ⟨hx, hb, hr, hml, hown, hts, hX, hbl, hlocks, hgv⟩ := C0
  obtain ⟨D, cA, hK⟩ := ls_K hts
  have hWl := ls_W hts hgv
  have hC : ∀ (A : Nat → Prop) (ad : Nat → Nat), ab_C (l, D, cA, A, ad) M_L_law p s m #[Value.ref b] meth c := fun A ad => ⟨hx, hb, ls_T hts, hown, hml, hnm, hK l A ad, om_L_law⟩
  rw [lg_entry_eq]
  have hl := lv_entry [Value.ref b] (n := 7) (Nat.le_of_ble_eq_true rfl)
  revert hl
  generalize hls : (lg_sl [Value.ref b] ++ List.replicate (7 - (lg_sl [Value.ref b]).length) Slot.unset).toArray = ls0
  intro hl
  have C1 := hC (fun q => s.heap.size ≤ q) (fun k => s.heap.size + k)
  have Z1 : sx_Z (l, D, cA, (fun q => s.heap.size ≤ q), (fun k => s.heap.size + k)) s := ls_Z hts hgv (fun a h1 h2 => Nat.lt_irrefl _ (Nat.lt_of_lt_of_le h1 h2))
  suffices key : ab_F (l, D, cA, (fun q => s.heap.size ≤ q), (fun k => s.heap.size + k)) true 0 p e room_1 s m #[Value.ref b] below meth c (lw_Z below #[Value.ref b] s) 0 0 0 ls0 [] [] from
    key s.heap [] ⟨fun k q h => by simp [ab_W, ab_w] at h, ⟨fun i j q1 q2 h1 => by simp [ab_W, ab_w] at h1, fun k q h => by simp [ab_W, ab_w] at h⟩, va_S.rf, fun _ q => Iff.rfl, fun _ => ⟨fun k => rfl, rfl, rfl⟩⟩
  generalize hG1 : ((l, D, cA, (fun q => s.heap.size ≤ q), (fun k => s.heap.size + k)) : ab_G) = G1 at C1 Z1 ⊢
  refine F_new (ci := 11) (q := (RX11, TX11, 17)) C1 rfl rfl rfl (cl_all 11 _ rfl) CL_L_8 IS_X11 IN_X11 ⟨by decide, by decide⟩ ?_
  refine F_dup C1 rfl ?_
  refine F_callX (M := M_L_law) (M' := M_X11_init) (n := 0) (d := 8) (mc := 174) (ms := 12229) (idx := 17) (a := 0) (as := []) (rest := [.ref 0]) hl.1 C1 Z1 rfl rfl o_X11_init i_X11_init rfl rfl (k_X11 rfl) rfl rfl (Nat.le_of_ble_eq_true rfl) ⟨by decide, by decide, by decide, by decide⟩ ?_
  rintro r9 h9 ⟨rfl, rfl⟩
  refine F_eq (h1 := hLy lB s0B []) (show hLy lB s0B [] = .inr (11, kXf 1) :: kXt 1 from kz_B.symm) ?_
  refine F_ast (i := 1) (lv' := [(1, .ref (ab_ad G1 0)), (0, .ref b)]) C1 rfl rfl hl (by decide) rfl (fun ls1 hl1 => ?_)
  have hl9 : (hLy lB s0B []).length = 175 := by
    show (ms_h s0B 0 lB ++ []).length = _
    rw [List.append_nil]
    exact hB_len _
  refine F_new (ci := 12) (q := (RX12, TX12, 86)) C1 rfl rfl rfl (cl_all 12 _ rfl) CL_L_18 IS_X12 IN_X12 ⟨by decide, by decide⟩ ?_
  rw [hl9]
  refine F_eq (h1 := hLy lB s0B [.inr (12, ab_df 12 86)]) (by show ms_h s0B 0 lB ++ [.inr (12, ab_df 12 86)] = (ms_h s0B 0 lB ++ []) ++ [.inr (12, ab_df 12 86)]; rw [List.append_nil]) ?_
  refine F_dup C1 rfl ?_
  refine F_callI (M := M_L_law) (M' := M_X12_init) (n := 0) (d := 4) (mc := 40) (ms := 35027) (idx := 20) (a := 175) (as := []) (rest := [.ref 175]) hl1.1 C1 rfl rfl o_X12_init i_X12_init rfl rfl k_X12 rfl rfl (Nat.le_of_ble_eq_true rfl) ⟨by decide, by decide, by decide, by decide⟩ ?_
  rintro r9 h9 ⟨rfl, Sm, hE, rfl⟩
  refine F_ast (i := 2) (lv' := [(2, .ref (ab_ad G1 175)), (1, .ref (ab_ad G1 0)), (0, .ref b)]) C1 rfl rfl hl1 (by decide) rfl (fun ls2 hl2 => ?_)
  refine F_ic (v := 1) C1 rfl (by decide) ?_
  have hl8 : (hLy lB s0B (mT Sm)).length = 216 := by
    show (ms_h s0B 0 lB ++ mT Sm).length = _
    rw [List.length_append, hB_len, mT_len]
  refine F_newa (at9 := .long) (kd := 1) (N := 1) (a0 := (1, .inr (.inl (fun _ => 0)))) C1 rfl rfl AC_l rfl (fun cA => rfl) (by decide) (by decide) (by decide) rfl ⟨by decide, by decide⟩ ?_
  rw [hl8]
  refine F_eq (h1 := lpH s0B Sm (fun _ => 0)) (by show ms_h s0B 0 lB ++ (mT Sm ++ [.inl (1, 1, .inr (.inl (fun _ => 0)))]) = (ms_h s0B 0 lB ++ mT Sm) ++ [.inl (1, 1, .inr (.inl (fun _ => 0)))]; rw [List.append_assoc]) ?_
  refine F_ast (i := 3) (lv' := [(3, .ref (ab_ad G1 216)), (2, .ref (ab_ad G1 175)), (1, .ref (ab_ad G1 0)), (0, .ref b)]) C1 rfl rfl hl2 (by decide) rfl (fun ls3 hl3 => ?_)
  refine F_ic (v := nI 0) C1 rfl (by decide) ?_
  refine F_ist (i := 4) (x := nI 0) (lv' := [(4, .int (nI 0)), (3, .ref (ab_ad G1 216)), (2, .ref (ab_ad G1 175)), (1, .ref (ab_ad G1 0)), (0, .ref b)]) C1 rfl hl3 (by decide) rfl (fun ls4 hl4 => ?_)
  intro H locs J
  subst hG1
  obtain ⟨jP, jD, jS, -, -⟩ := J
  refine va_forget (fun q hq => jS.2.2 q hq) ?_
  have C2 := hC (fun q => s.heap.size ≤ q ∧ q < s.heap.size + 217) (adL s.heap.size b)
  have ew : ab_w (fun k => s.heap.size + k) cA 0 (lpH s0B Sm (fun _ => 0)) = ab_w (adL s.heap.size b) cA 0 (lpH s0B Sm (fun _ => 0)) := ad_w (fun k hk => adL_n hk) _ 0 ok_H (by rw [lpH_len]; decide)
  have E : lpC (l, D, cA, (fun q => s.heap.size ≤ q ∧ q < s.heap.size + 217), adL s.heap.size b) p s m #[Value.ref b] meth c b L xs := ⟨C2, hX, hbl, fun z => Nat.lt_irrefl _ (Nat.lt_of_lt_of_le hbl z.1), rfl, hL⟩
  refine l_loop (n0 := 0) (e := e) (below := below) E hr hlocks hfl hWl (fun q hq => ⟨q - s.heap.size, by have := hq.2; have := hq.1; omega, ?_⟩) (fun q hq => hq.1) 65 0 rfl (Nat.zero_le _) s0B Sm g0G o0G (fun _ => 0) none none 217 47360 ⟨s0_bQ, hE.1, ⟨fun q => Nat.zero_le _, fun x hx => (by cases hx), fun k hk => absurd hk (Nat.not_lt_zero _)⟩⟩ (Nat.le_refl _) (Nat.le_refl _) H [] ls4 ⟨?_, ?_, ⟨jS.1, fun q h1 h2 => jS.2.1 q h1 (fun z => Nat.lt_irrefl _ (Nat.lt_of_lt_of_le h1 z)), fun q hq => by cases hq⟩, (fun q => by cases q), (fun q => by cases q)⟩ ⟨hl4.1, hl4.2.1, ?_⟩
  · have h1 := hq.1
    have h2 := hq.2
    show q = adL s.heap.size b (q - s.heap.size)
    rw [← adL_n (by omega)]
    omega
  · show va_P D vwCl (ab_w (adL s.heap.size b) cA 0 (lpH s0B Sm (fun _ => 0))) H
    rw [← ew]
    exact jP
  · show va_D (fun q => s.heap.size ≤ q ∧ q < s.heap.size + 217) (ab_w (adL s.heap.size b) cA 0 (lpH s0B Sm (fun _ => 0)))
    rw [← ew]
    refine ⟨jD.1, fun k q hk => ?_⟩
    rw [ab_w_get, Option.map_eq_some_iff] at hk
    obtain ⟨x, h1, rfl⟩ := hk
    have h2 := (List.getElem?_eq_some_iff.mp h1).1
    rw [lpH_len] at h2
    show s.heap.size ≤ s.heap.size + (0 + k) ∧ s.heap.size + (0 + k) < s.heap.size + 217
    omega
  · intro i v hv
    match i, hv with
    | 0, hv => cases hv; exact hl4.2.2 (0, .ref b) (List.mem_of_getElem? (i := 4) rfl)
    | 1, hv => cases hv; exact hl4.2.2 (1, .ref (s.heap.size + 0)) (List.mem_of_getElem? (i := 3) rfl)
    | 2, hv => cases hv; exact hl4.2.2 (2, .ref (s.heap.size + 175)) (List.mem_of_getElem? (i := 2) rfl)
    | 3, hv => cases hv; exact hl4.2.2 (3, .ref (s.heap.size + 216)) (List.mem_of_getElem? (i := 1) rfl)
    | 4, hv => cases hv; exact hl4.2.2 (4, .int (nI 0)) (List.mem_of_getElem? (i := 0) rfl)
    | 5, hv => cases hv
    | 6, hv => cases hv
    | n + 7, hv => cases hv
set_option maxHeartbeats 4000000 in
theorem lw_walk (l : Launch) (hfl : l.flags = flags0) (b : Addr) (xs : List Int32) : MetFree l x (headSpec (Jvm.Cond.code x code maxLocals ret :: tables_1) room_1) (lw_P b xs) (fun _ _ _ _ _ => True) lw_Q := by
  refine MetFree.of_bodyS (code := code) (maxLocals := maxLocals) (ret := ret) (by decide) ?_ ?_
  · intro args s m h hn
    obtain ⟨meth, c, h1, h2, h3, h4, h5, h6, -, -⟩ := Cond.code_spec hn (atoms_spec (ws := Jvm.Cond.code x code maxLocals ret :: tables_1) h _ List.mem_cons_self)
    exact ⟨meth, c, h1, h2, h3, h4, h5, h6⟩
  · intro p e s m args below meth c s₁ B hml0 hP _
    obtain ⟨rfl, hx, hbd, hgv⟩ := hP
    obtain ⟨scr, harrAt, hlist, hof, hsmall⟩ := hx
    obtain ⟨hcb, hkn, -, -⟩ := State.arrayAt?_spec harrAt
    have hown : s.vm.findClass R_law = some m.cls := findClass_of_methodNamed B.named
    have hts0 : ∀ c ∈ (Jvm.Cond.code x code maxLocals ret :: tables_1), c.before #[Value.ref b] s = true := atoms_spec (ws := Jvm.Cond.code x code maxLocals ret :: tables_1) B.pre
    have hts : ∀ w ∈ lw_tbl, w.before #[Value.ref b] s = true := k2_hts_sels lw_privs (fun w hw => hts0 w (List.mem_cons_of_mem _ hw)) lw_privs_ok
    have hml : c.maxLocals = 7 := B.maxLocals_eq (hts0 _ List.mem_cons_self)
    have X₀ : Stand p l e room_1 s m #[Value.ref b] below meth c s₁ [] 0 0 := Stand.of_body B
    have hh0 : s₁.heap = s.heap := by rw [B.state]; rfl
    have hsz : scr.slots.size = xs.length := by rw [← Array.length_toList, hlist, List.length_map]
    have hval : ∀ j : Nat, j < xs.length → scr.slots[j]? = some (.int (xs.getD j 0)) := fun j hj => by
      rw [← Array.getElem?_toList, hlist]
      simp [hj]
    have hbl : b < s.heap.size := (Array.getElem?_eq_some_iff.mp hcb).1
    have hX : va_X b xs.length (fun j => xs.getD j 0) s s.heap := ⟨scr, hcb, hof, hkn, hsz, hval⟩
    have K : W p l e room_1 s m #[Value.ref b] below meth c s₁.heap [] 0 0 (lw_Z below #[Value.ref b] s) (entryFrame m ([Value.ref b] : List Value).toArray 7) := by
      rw [hh0]
      exact whole_start l hfl (name_of_methodNamed B.named B.method).1 hbd ⟨B.exec, B.bytes, B.returns, hml, hown, hts, hX, hbl, B.notSynchronized, hgv⟩
    obtain ⟨t, a1, o, b1, b2, b3⟩ := K s₁ rfl X₀
    exact ⟨t, o, a1, b1, b2, b3⟩
theorem lw_pre_spec {args : Array Value} {s : State} (h : (Jvm.Cond.and given_1 narrow_1).before args s = true) (hr : rest_1_c.before args s = true) : ∃ (b : Addr) (xs : List Int32), lw_P b xs args s := by
  have hs := flat_of_before _ h
  have hq := flat_of_before _ hr
  have hc : (Cond.count 1).before args s = true := hs _ (by decide +kernel)
  have harr : (Cond.arrayOf (.arg 0) .int).before args s = true := hs _ (by decide +kernel)
  have hle : (Cond.le (.length (.arg 0)) (.int 384)).before args s = true := hs _ (by decide +kernel)
  have hlen : (Cond.isInt (.length (.arg 0))).before args s = true := hq _ (by decide +kernel)
  have hall : (Cond.all (.arg 0) (.isInt (.elem (.arg 0) (.index 0)))).before args s = true := hq _ (by decide +kernel)
  obtain ⟨b, xs, hb, hx⟩ := State.ints_of_pre rfl harr hlen hall
  have hsm : xs.length < 2 ^ 31 := hx.choose_spec.2.2.2
  have hev : (Term.length (.arg 0)).eval args s none [] s = some (.int xs.length.toInt32) := hx.length_eval hb
  have hv := Cond.le_ints hev (show (Term.int 384).eval args s none [] s = some (.int 384) from rfl)
  have hd : xs.length.toInt32 ≤ 384 := by
    simpa [Cond.before, Cond.holds, hv] using hle
  have hN : xs.length ≤ 384 := (Int32.ofNat_le_ofNat hsm (by decide)).mp (show Int32.ofNat xs.length ≤ Int32.ofNat 384 from hd)
  exact ⟨b, xs, Cond.one_arg hc (show args[0]? = some (.ref b) from hb), hx, hN, h⟩
theorem lw_comes (l : Launch) (hfl : l.flags = flags0) : Comes l x (Jvm.Cond.code x code maxLocals ret :: tables_1) room_1 (fun tb e args s => Calls_1 tb e args s ∧ rest_1 tb e args s ∧ Pre_1 tb e args s)
    (fun _ _ args s o t => lw_Q args s o t) := by
  intro p e ha hc hk s m args below hf hfit hheap happ hpre
  obtain ⟨b, xs, hP⟩ := lw_pre_spec hpre.2.2 hpre.2.1
  obtain ⟨k, o, h1, h2, h3, hQ⟩ := lw_walk l hfl b xs p e ha hc hk s m args below hf ((Spec.applies_iff_loose hf).mp happ).1 hP trivial
  exact ⟨k, o, h1, h2, h3, hQ⟩
theorem lw_frame {s t : State} {o : Outcome} {args : Array Value} (h : Framed s o t [] 600128 7301098) :
    Framed s o t (fieldLocs frame_1_writes args s ++ arrayLocs frame_1_arrays args s ++ staticLocs frame_1_statics s) 600128 7301098 := h
theorem lw_limb (L : Cond) (hL : ∀ (args : Array Value) (s t : State), L.after args s (.returned (some (.int 1))) t = true) :
    ArmFor flags0 classFile x code maxLocals ret World_1 tables_1 room_1 Calls_1 rest_1 Pre_1
      (fun tb e a s o t => postC L tb e a s o t ∧ Framed s o t (fieldLocs frame_1_writes a s ++ arrayLocs frame_1_arrays a s ++ staticLocs frame_1_statics s) 600128 7301098) := by
  intro l hfl _ _ p e ha hc hk s m args below hf hfit hheap happ hpre
  obtain ⟨k, o, h1, h2, h3, rfl, hF⟩ := lw_comes l hfl p e ha hc hk s m args below hf hfit hheap happ hpre
  exact ⟨k, _, h1, h2, h3, hL args s _, lw_frame hF⟩
theorem i_vc : Claimed_1_1 ∧ Claimed_1_2 := ⟨lw_limb limb_1_1 (fun args s t => by simp [limb_1_1, Cond.after, Cond.holds, Cond.value]), lw_limb limb_1_2 (fun args s t => Cond.after_iff.mpr (by
  first | (rw [show limb_1_2 = Cond.eq .result (.int 1) from rfl, Cond.eq_ints (x := 1) (y := 1) rfl rfl]; simp; done) | (simp [limb_1_2, Cond.value, Term.eval]; done)))⟩

