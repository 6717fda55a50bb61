/-! ===== how often heirs have laid; the reference's answers in one form; the law's own steps ===== -/
def lbG (g : tSG) (V : Nat) : Prop := (∀ h, g.1.2.2.2.1.2.2.1 h ≤ V) ∧ (∀ x, g.2.2.1 = some x → ∀ h, x.1.2.2 h ≤ V) ∧ ∀ k, k < g.2.1.1 → ∀ h, (g.2.1.2 k).2.2 h ≤ V
section LBG
variable {g : tSG} {V : Nat}
theorem lb_m (h : lbG g V) : lbG g (V + 5000) := ⟨fun q => Nat.le_trans (h.1 q) (by omega), fun x hx q => Nat.le_trans (h.2.1 x hx q) (by omega), fun k hk q => Nat.le_trans (h.2.2 k hk q) (by omega)⟩
theorem lb_pu {U : tU} {s : tES} (hU : ∀ k, k < U.1 → ∀ h, (U.2 k).2.2 h ≤ V) (hs : ∀ h, s.2.2.1 h ≤ V) : ∀ k, k < (pushU U s).1 → ∀ h, ((pushU U s).2 k).2.2 h ≤ V := by
  intro k hk h
  by_cases z : U.1 = 20
  · unfold pushU at hk ⊢
    rw [if_pos z] at hk ⊢
    have hk : k < 20 := hk
    show (if k = 19 then rwS s else U.2 (k + 1)).2.2 h ≤ V
    by_cases y : k = 19
    · rw [if_pos y]; exact hs h
    · rw [if_neg y]; exact hU (k + 1) (by omega) h
  · unfold pushU at hk ⊢
    rw [if_neg z] at hk ⊢
    have hk : k < U.1 + 1 := hk
    show (if k = U.1 then rwS s else U.2 k).2.2 h ≤ V
    by_cases y : k = U.1
    · rw [if_pos y]; exact hs h
    · rw [if_neg y]; exact hU k (by omega) h
theorem lb_undo (h : lbG g V) : lbG (N_undo g) (V + 5000) := by
  unfold N_undo
  split
  · exact lb_m h
  · rename_i z
    exact lb_m ⟨fun q => h.2.2 (g.2.1.1 - 1) (by omega) q, h.2.1, fun k hk q => h.2.2 k (by have hk : k < g.2.1.1 - 1 := hk; omega) q⟩
theorem lb_keep (h : lbG g V) : lbG (N_keep g) (V + 5000) := lb_m (g := N_keep g) ⟨h.1, fun x hx q => by cases hx; exact h.1 q, h.2.2⟩
theorem lb_back (h : lbG g V) : lbG (N_back g) (V + 5000) := by
  unfold N_back
  split
  · exact lb_m h
  · rename_i x hx
    exact lb_m ⟨fun q => h.2.1 x hx q, h.2.1, fun k hk => absurd hk (Nat.not_lt_zero _)⟩
theorem lb_give (h : lbG g V) (a c : Int32) : lbG (N_give g a c) (V + 5000) := by
  unfold N_give
  split
  · exact lb_m ⟨h.1, h.2.1, lb_pu h.2.2 h.1⟩
  · exact lb_m h
theorem lb_trade (h : lbG g V) (a c : Int32) : lbG (N_trade g a c) (V + 5000) := by
  unfold N_trade
  split
  · exact lb_m ⟨h.1, h.2.1, lb_pu h.2.2 h.1⟩
  · exact lb_m h
theorem lb_lay (h : lbG g V) (a : Int32) : lbG (N_lay g a) (V + 5000) := by
  unfold N_lay
  split
  · exact lb_m h
  · refine ⟨fun q => ?_, (lb_m h).2.1, fun k hk q => Nat.le_trans (lb_pu h.2.2 h.1 k hk q) (by omega)⟩
    show (if q = cl a then g.1.2.2.2.1.2.2.1 (cl a) + 1 else g.1.2.2.2.1.2.2.1 q) ≤ V + 5000
    have h1 := h.1 (cl a)
    have h2 := h.1 q
    split <;> omega
theorem lb_go (h : lbG g V) (n : Int32) : lbG (N_go g n) (V + 5000) := by
  unfold N_go
  split
  · rename_i z
    have hn : cl n ≤ 99 := by
      unfold goK at z
      rw [Bool.and_eq_true] at z
      have z1 := of_decide_eq_true z.1
      obtain ⟨j, hj, ej⟩ := ix_t (n := 100) (x := n) (by decide) ⟨z1.1, fun w => z1.2 (by
        rw [Int32.le_iff_toInt_le] at w
        rw [Int32.lt_iff_toInt_lt]
        have w : (100 : Int) ≤ n.toInt := w
        show (99 : Int) < n.toInt
        omega)⟩
      rw [ej, show cl (nI j) = j from nI_clamp (by omega)]
      omega
    refine ⟨fun q => ?_, (lb_m h).2.1, ?_⟩
    · have h1 := lt_le (P := g.1.1) (T := g.1.2.1) (o := chO g.1) (x := (g.1.2.2.2.1, g.1.2.2.2.2)) (h := q) (cl n)
      have h2 := h.1 q
      have h1 : (goX g (cl n)).1.2.2.1 q ≤ g.1.2.2.2.1.2.2.1 q + cl n := h1
      show (goX g (cl n)).1.2.2.1 q ≤ V + 5000
      omega
    · show ∀ k, k < (if cl n = 0 then g.2.1 else (0, g.2.1.2)).1 → ∀ q, ((if cl n = 0 then g.2.1 else (0, g.2.1.2)).2 k).2.2 q ≤ V + 5000
      split
      · exact (lb_m h).2.2
      · exact fun k hk => absurd hk (Nat.not_lt_zero _)
  · exact lb_m h
theorem lb_note (h : lbG g V) (w a c b : Int32) : lbG (N_note g w a c b) (V + 5000) := by
  unfold N_note
  split <;> exact lb_m h
theorem lb_see (h : lbG g V) (w a c b : Int32) : lbG (N_see g w a c b) (V + 5000) := by
  unfold N_see
  split <;> exact lb_m h
theorem lb_strike (h : lbG g V) (w : Int32) : lbG (N_strike g w) (V + 5000) := by
  unfold N_strike
  split <;> exact lb_m h
theorem lb_known (h : lbG g V) (w : Int32) : lbG (N_known g w) (V + 5000) := by
  unfold N_known
  split <;> exact lb_m h
theorem lb_feed (h : lbG g V) (a b c d e : Int32) : lbG (N_feed g a b c d e) (V + 5000) := by
  unfold N_feed
  split <;> exact lb_m h
theorem lb_text (h : lbG g V) (x : Int32) : lbG (N_text g x) (V + 5000) := by
  unfold N_text
  split
  · split
    · exact lb_m h
    · exact ⟨fun q => Nat.zero_le _, fun x hx => (by cases hx), fun k hk => absurd hk (Nat.not_lt_zero _)⟩
  · exact lb_m h
end LBG
section RFT
variable {G : ab_G} {fr : Bool} {S : ms_S} {tl : ab_H} {g : tSG}
theorem rf_Q {d : Nat} {M : ab_MD} {as : List Value} {v : Int32} (hI : mI S g) (c : ab_CT G d M fr as (hM S tl) 0 0 (pQ (sV S 2 (nI 0)) tl g.1 (.int v))) : ctI G d M fr as lM S tl (fun w S' => qE g S' ∧ w = v) :=
  Met_mono c (fun r h' ⟨S', e1, e2, e3, e4, e5⟩ => ⟨v, S', e5, e1, ⟨mI_Z hI e2 e3, e4⟩, rfl⟩)
theorem rf_L {d : Nat} {M : ab_MD} {as : List Value} {v : Int64} (hI : mI S g) (c : ab_CT G d M fr as (hM S tl) 0 0 (pQ (sV S 2 (nI 0)) tl g.1 (.long v))) : ctL G d M fr as lM S tl (fun w S' => qE g S' ∧ w = v) :=
  Met_mono c (fun r h' ⟨S', e1, e2, e3, e4, e5⟩ => ⟨v, S', e5, e1, ⟨mI_Z hI e2 e3, e4⟩, rfl⟩)
theorem rf_A {d : Nat} {M : ab_MD} {as : List Value} {v : Int32} {g' : tSG} (c : ab_CT G d M fr as (hM S tl) 0 0 (pA tl g' (.int v))) : ctI G d M fr as lM S tl (fun w S' => qE g' S' ∧ w = v) :=
  Met_mono c (fun r h' ⟨S', e1, e2, e3, e4⟩ => ⟨v, S', e4, e1, ⟨e2, e3⟩, rfl⟩)
theorem rf_piece (hI : mI S g) (x w : Int32) : ctI G 2 M_X12_piece fr [.ref 0, .int x, .int w] lM S tl (fun v S' => (mI S' g ∧ m_thrown S' = nI (A_piece g.1 x w).2) ∧ v = (A_piece g.1 x w).1) :=
  Met_mono (c_piece G fr S tl g.1 hI.1 x w) (fun r h' ⟨S', e1, e2, e3, e4⟩ => ⟨_, S', e4, e1, ⟨mI_Z hI e2 e3, e2.1.1 0 2 (Or.inr rfl)⟩, rfl⟩)
set_option maxRecDepth 100000 in
theorem rf_thrown : ctI G 1 M_X12_thrown fr [.ref 0] lM S tl (fun v S' => S' = S ∧ v = m_thrown S) := by
  refine ctI.eq (S9 := S) (v9 := m_thrown S) (ct_of o_X12_thrown (Nat.le_of_ble_eq_true rfl) (fun n0 post hp => ?_)) ⟨rfl, rfl⟩
  repeat refine ws_s rfl ?_
  exact wp_ri rfl rfl rfl hp
end RFT
def lpC (G : ab_G) (p : Program) (s : State) (m : MethodId) (args : Array Value) (meth : Method) (c : Code) (b Lx : Nat) (xs : Nat → Int32) : Prop := ab_C G M_L_law p s m args meth c ∧ va_X b Lx xs s s.heap ∧ b < s.heap.size ∧ ¬ ab_A G b ∧ ab_ad G 1000 = b ∧ Lx ≤ 384
def lpR (R : Room) (cells slots : Nat) : Prop := 100 ≤ R.frames ∧ 6400 ≤ R.locals ∧ cells + 1 ≤ R.cells ∧ slots + 6 ≤ R.slots
def lpI (S Sm : ms_S) (g : tSG) (o : Nat → Option tDQ) (V : Nat) : Prop := bQ S g o V ∧ mI Sm g ∧ lbG g V
abbrev lpL (i : Nat) (l5 l6 : Option Value) : List (Option Value) := [some (.ref 1000), some (.ref 0), some (.ref 175), some (.ref 216), some (.int (nI i)), l5, l6]
abbrev lpH (S Sm : ms_S) (f : Nat → Int64) : ab_H := hLy lB S (mT Sm ++ [.inl (1, 1, .inr (.inl f))])
section LPR
variable {G : ab_G} {n0 : Nat} {p : Program} {e : Env} {R : Room} {s : State} {m : MethodId} {args : Array Value} {below : List Frame} {meth : Method} {c : Code} {Q : State → Prop} {cells slots pc : Nat} {L : List (Option Value)} {st : List Value} {h : ab_H} {b Lx : Nat} {xs : Nat → Int32} {i : Nat} {l5 l6 : Option Value}
theorem l_ald {x : Int32} {k : Nat} (E : lpC G p s m args meth c b Lx xs) (row : ab_lk M_L_law.2.2.2.2.2.2 pc = some (.iaload, 1)) (hx : x = nI k) (hk : k < Lx) (kk : ab_R G M_L_law false n0 p e R s m args below meth c Q cells slots (pc + 1) L (.int (xs k) :: st) h) : ab_R G M_L_law false n0 p e R s m args below meth c Q cells slots pc L (.int x :: .ref 1000 :: st) h := by
  obtain ⟨C, hX, hb, hA, hs, hL⟩ := E
  subst hx
  intro H locs ls J hlv
  show W p G.1 e R s m args below meth c H locs cells slots Q (F0 m pc ls (.int (nI k) :: .ref (ab_ad G 1000) :: st.map (ab_v (ab_ad G))))
  rw [hs]
  refine va_sld C.1 C.2.1 hX hb hA J.2.2.1 (vp_in_nI hk (by omega)) (C.2.2.2.2.2.2.2.2.2.2 _ (ab_lk_mem row)).1 ?_
  rw [show (nI k).toNatClampNeg = k from nI_clamp (by omega)]
  exact kk H locs ls J hlv
theorem l_len (E : lpC G p s m args meth c b Lx xs) (row : ab_lk M_L_law.2.2.2.2.2.2 pc = some (.arraylength, 1)) (kk : ab_R G M_L_law false n0 p e R s m args below meth c Q cells slots (pc + 1) L (.int (nI Lx) :: st) h) : ab_R G M_L_law false n0 p e R s m args below meth c Q cells slots pc L (.ref 1000 :: st) h := by
  obtain ⟨C, hX, hb, hA, hs, hL⟩ := E
  intro H locs ls J hlv
  show W p G.1 e R s m args below meth c H locs cells slots Q (F0 m pc ls (.ref (ab_ad G 1000) :: st.map (ab_v (ab_ad G))))
  rw [hs]
  exact va_slen C.1 C.2.1 hX hb hA J.2.2.1 (C.2.2.2.2.2.2.2.2.2.2 _ (ab_lk_mem row)).1 (kk H locs ls J hlv)
theorem l_st {ins : Instr} {n : Nat} {r : ab_S} (row : ab_lk M_L_law.2.2.2.2.2.2 pc = some (ins, n)) (hr : ab_in M_L_law n pc L st h ins = some r) : ab_st M_L_law pc L st h = some r := by
  unfold ab_st
  rw [row]
  exact hr
theorem l_arg (j : Nat) {jj : Int} (E : lpC G p s m args meth c b Lx xs) (r1 : ab_lk M_L_law.2.2.2.2.2.2 pc = some (.aload_n 0, 1)) (r2 : ab_lk M_L_law.2.2.2.2.2.2 (pc + 1) = some (.iload 4, 2)) (r3 : ab_lk M_L_law.2.2.2.2.2.2 (pc + 3) = some (.iconst jj, 1)) (r4 : ab_lk M_L_law.2.2.2.2.2.2 (pc + 4) = some (.iadd, 1)) (r5 : ab_lk M_L_law.2.2.2.2.2.2 (pc + 5) = some (.iaload, 1)) (hj : ab_i jj = nI j) (hk : i + j < Lx)
    (kk : ab_R G M_L_law false n0 p e R s m args below meth c Q cells slots (pc + 6) (lpL i l5 l6) (.int (xs (i + j)) :: st) h) : ab_R G M_L_law false n0 p e R s m args below meth c Q cells slots pc (lpL i l5 l6) st h := by
  refine ab_step E.1 (l_st (r := (True, pc + 1, lpL i l5 l6, .ref 1000 :: st, h)) r1 rfl) ?_
  refine ab_step E.1 (l_st (r := (True, pc + 3, lpL i l5 l6, .int (nI i) :: .ref 1000 :: st, h)) r2 rfl) ?_
  refine ab_step E.1 (l_st (r := (True, pc + 4, lpL i l5 l6, .int (ab_i jj) :: .int (nI i) :: .ref 1000 :: st, h)) r3 rfl) ?_
  refine ab_step E.1 (l_st (r := (True, pc + 5, lpL i l5 l6, .int (nI i + ab_i jj) :: .ref 1000 :: st, h)) r4 rfl) ?_
  exact l_ald E r5 (by rw [hj, nI_add]) hk kk
theorem l_cV {M' : ab_MD} {n d idx ci a : Nat} {fs as rest : List Value} {post : Option Value → ab_H → Prop} (E : lpC G p s m args meth c b Lx xs) (hR : lpR R cells slots) (hd : d ≤ 20) (row : ab_lk M_L_law.2.2.2.2.2.2 pc = some (.invokevirtual idx, 3)) (hm : ab_lk M_L_law.1.2.2.2.1 idx = some M'.2.1) (ok : ab_OK M' n) (hk : ab_kV M' ci)
    (ct : ab_CT G d M' false (.ref a :: as) h 0 0 post) (he : h[a]? = some (.inr (ci, fs))) (hst : st = as.reverse ++ .ref a :: rest) (hn : as.length = n) (hsum : (rest.map fun v => v.category).sum ≤ 8)
    (k : ∀ (r : Option Value) (h' : ab_H), post r h' → ab_R G M_L_law false n0 p e R s m args below meth c Q cells slots (pc + 3) L (r.toList ++ rest) h') : ab_R G M_L_law false n0 p e R s m args below meth c Q cells slots pc L st h := by
  obtain ⟨h1, h2, h3, h4⟩ := hR
  exact ab_callV E.1 row hm ok hk ct he hst hn hsum ⟨by omega, by omega, by omega, by omega⟩ k
theorem l_cmp (x : Int64) : lg_cmp x x = 0 := by
  unfold lg_cmp
  rw [if_neg (fun z => Int64.lt_irrefl z), if_pos rfl]
end LPR

