/-! ===== the program: its whole state ===== -/
theorem rs_cF2 {pl : List Nat} {A : Nat → Bool} {S S' : ms_S} (f : cF A S S') : cF (fun k => A (pl.getD k 0)) (rsS pl S) (rsS pl S') := ⟨fun k q => f.1 _ q, fun k q => f.2.1 _ q, fun k q => f.2.2.1 _ q, fun k q => f.2.2.2.1 _ q, f.2.2.2.2⟩
abbrev cN (S : ms_S) : ms_S := rsS e_CN S
abbrev cT (S : ms_S) : ms_S := rsS e_CT S
/-- the estate at place a -/
def bEs (S : ms_S) (a : Nat) (P : tPL) (s : tES) (dn : Nat) : Prop := (∀ h, h < 5 → S.2.2.2.1 (a + 1) h = nI (heldN s.1 (nI h) P.1)) ∧ (∀ h, h < 5 → S.2.2.2.1 (a + 2) h = nI (s.2.1 h) ∧ s.2.1 h ≤ 99999) ∧ (∀ h, h < 5 → S.2.2.2.1 (a + 3) h = nI (s.2.2.1 h)) ∧ S.1 a 3 = nI s.2.2.2.2 ∧ s.2.2.2.2 < 2 ^ 20 ∧ S.1 a 4 = nI (bxN P s) ∧ S.1 a 5 = nI (heldN s.1 (-(nI 3)) P.1) ∧ S.1 a 6 = nI s.2.2.2.1 ∧ (S.1 a 7 = nI dn ∧ dn < 2 ^ 31) ∧ hoOk P s ∧ ∀ h, P.2.1 ≤ h → s.2.1 h = 0 ∧ s.2.2.1 h = 0
theorem bEs_N {S : ms_S} {P : tPL} {s : tES} {dn : Nat} : bES (cN S) P s dn ↔ bEs S 82 P s dn := Iff.rfl
theorem bEs_T {S : ms_S} {P : tPL} {s : tES} {dn : Nat} : bES (cT S) P s dn ↔ bEs S 86 P s dn := Iff.rfl
theorem bEs_F {S S' : ms_S} {a : Nat} {P : tPL} {s : tES} {dn : Nat} (h : bEs S a P s dn) (h0 : S'.1 a = S.1 a) (h1 : S'.2.2.2.1 (a + 1) = S.2.2.2.1 (a + 1)) (h2 : S'.2.2.2.1 (a + 2) = S.2.2.2.1 (a + 2)) (h3 : S'.2.2.2.1 (a + 3) = S.2.2.2.1 (a + 3)) : bEs S' a P s dn := by
  unfold bEs
  rw [h0, h1, h2, h3]
  exact h
abbrev xG (g : tSG) : tX := g.2.2.2.2.1
/-- the plan -/
def bQp (T : ms_S) (g : tSG) (o : Nat → Option tDQ) : Prop := bPl T g.1.1 o ∧ bTD T g.1.1 g.1.2.1 ∧ bSh T g.1.1 (xG g).2.2.2.1 ∧ (T.1 0 16 = nI 0 ∧ g.1.2.2.1 = 2 ∨ ¬ g.1.2.2.1 = 0 ∧ T.1 0 16 = nI g.1.2.2.1) ∧ g.1.2.2.1 ≤ 9 ∧ (T.1 0 17 = -(nI 1) ∧ (xG g).2.2.1 = 0 ∨ T.1 0 17 = nI (xG g).2.2.1) ∧ (xG g).2.2.1 ≤ 99999 ∧ (∀ p, p < g.1.1.1 → T.2.2.2.1 1 p = (xG g).1 p) ∧ (∀ h, h < g.1.1.2.1 → T.2.2.2.1 5 h = (xG g).2.1 h) ∧ (xG g).2.2.2.2 = szQ (o 0) + szQ (o 1) + szQ (o 2) ∧ (xG g).2.2.2.2 ≤ 64
/-- what is worked with -/
def bQw (T : ms_S) (P : tPL) (o : Nat → Option tDQ) (V : Nat) : Prop := bJd T P o ∧ (∃ v jb, v ≤ V ∧ bRT T P v jb) ∧ T.1 31 6 = bI false ∧ T.1 31 7 = bI false
/-- image, past, tape and fault -/
def bQi (S : ms_S) (P : tPL) (im : tIm) : Prop := S.1 0 14 = bI im.isSome ∧ ∀ x, im = some x → bEs S 90 P (x.1.1, x.1.2.1, x.1.2.2, x.2.1, x.2.2.1) x.2.2.2 ∧ x.2.2.1 ≤ 9000
abbrev pPa (e u k : Nat) : Nat := 95 + 4 * ((e + 20 - u + k) % 20)
def bQu (S : ms_S) (P : tPL) (U : tU) (s : tES) (dn : Nat) : Prop := U.1 ≤ 20 ∧ S.1 0 13 = nI U.1 ∧ ∃ e, e < 20 ∧ S.1 0 12 = nI e ∧ ∀ k, k < U.1 → bEs S (pPa e U.1 k) P ((U.2 k).1, (U.2 k).2.1, (U.2 k).2.2, s.2.2.2) dn
def bQt (S : ms_S) (t : tTp) : Prop := t.1 ≤ 700 ∧ S.1 1 2 = nI t.1 ∧ (∀ i, i < t.1 → S.2.2.2.1 2 i = nI (t.2.1 i) ∧ t.2.1 i < 256) ∧ (∀ k, k < 32 → S.2.2.2.1 3 k = nI (lgN k)) ∧ S.1 0 15 = t.2.2.1 ∧ S.1 0 16 = t.2.2.2
def bQ (S : ms_S) (g : tSG) (o : Nat → Option tDQ) (V : Nat) : Prop := bQp (cN S) g o ∧ bQw (cN S) g.1.1 o V ∧ bNt (cN S) g.1.1 g.2.2.2.1 ∧ bES (cN S) g.1.1 g.1.2.2.2.1 g.1.2.2.2.2 ∧ g.1.2.2.2.1.2.2.2.2 ≤ 9000 ∧ bQi S g.1.1 g.2.2.1 ∧ bQu S g.1.1 g.2.1 g.1.2.2.2.1 g.1.2.2.2.2 ∧ bQt S (tpG g)
/-! frames -/
def aWk : Nat → Bool := fun a => Nat.beq a 19 || Nat.beq a 20 || Nat.beq a 23 || Nat.beq a 24 || Nat.beq a 27 || Nat.beq a 28 || (Nat.ble 61 a && Nat.ble a 75) || (Nat.ble 86 a && Nat.ble a 89)
theorem bQp_F {A : Nat → Bool} {T T' : ms_S} {g : tSG} {o : Nat → Option tDQ} (f : cF A T T') (hA : plA A) (h1 : A 1 = false) (h5 : A 5 = false) (h6 : A 6 = false) (h7 : A 7 = false) (h8 : A 8 = false) (h9 : A 9 = false) (h10 : A 10 = false) (h11 : A 11 = false) (h : bQp T g o) : bQp T' g o := by
  obtain ⟨q1, q2, q3, q4, q5, q6, q7, q8, q9, q10⟩ := h
  refine ⟨bPl_F f hA q1, bTD_F f hA.1 h7 h8 h9 h10 h11 q2, bSh_F f h6 q3, ?_, q5, ?_, q7, ?_, ?_, q10⟩
  · rw [f.1 0 hA.1]; exact q4
  · rw [f.1 0 hA.1]; exact q6
  · rw [f.2.2.1 1 h1]; exact q8
  · rw [f.2.2.1 5 h5]; exact q9
theorem bQi_F {S S' : ms_S} {P : tPL} {im : tIm} (h : bQi S P im) (h0 : S'.1 0 = S.1 0) (h1 : ∀ a, 90 ≤ a → a ≤ 93 → S'.1 a = S.1 a) (h2 : ∀ a, 90 ≤ a → a ≤ 93 → S'.2.2.2.1 a = S.2.2.2.1 a) : bQi S' P im := by
  refine ⟨by rw [h0]; exact h.1, fun x hx => ⟨bEs_F (h.2 x hx).1 (h1 90 (by decide) (by decide)) (h2 91 (by decide) (by decide)) (h2 92 (by decide) (by decide)) (h2 93 (by decide) (by decide)), (h.2 x hx).2⟩⟩
theorem bQu_F {S S' : ms_S} {P : tPL} {U : tU} {s : tES} {dn : Nat} (h : bQu S P U s dn) (h0 : S'.1 0 12 = S.1 0 12) (h00 : S'.1 0 13 = S.1 0 13) (h1 : ∀ a, 95 ≤ a → S'.1 a = S.1 a) (h2 : ∀ a, 95 ≤ a → S'.2.2.2.1 a = S.2.2.2.1 a) : bQu S' P U s dn := by
  obtain ⟨u1, u2, e, u3, u4, u5⟩ := h
  refine ⟨u1, h00.trans u2, e, u3, h0.trans u4, fun k hk => ?_⟩
  have hp : 95 ≤ pPa e U.1 k := Nat.le_add_right _ _
  exact bEs_F (u5 k hk) (h1 _ hp) (h2 _ (by omega)) (h2 _ (by omega)) (h2 _ (by omega))
theorem bQt_F {S S' : ms_S} {t : tTp} (h : bQt S t) (h0 : S'.1 0 = S.1 0) (h1 : S'.1 1 = S.1 1) (h2 : S'.2.2.2.1 2 = S.2.2.2.1 2) (h3 : S'.2.2.2.1 3 = S.2.2.2.1 3) : bQt S' t := by
  unfold bQt
  rw [h0, h1, h2, h3]
  exact h
theorem aWk_n {a : Nat} (h : a < 19 ∨ a = 22 ∨ 76 ≤ a ∧ a ≤ 85 ∨ 90 ≤ a) : aWk a = false := by
  unfold aWk
  rw [bq_ne (show ¬ a = 19 by omega), bq_ne (show ¬ a = 20 by omega), bq_ne (show ¬ a = 23 by omega), bq_ne (show ¬ a = 24 by omega), bq_ne (show ¬ a = 27 by omega), bq_ne (show ¬ a = 28 by omega), bt_f (show ¬ (61 ≤ a ∧ a ≤ 75) by omega), bt_f (show ¬ (86 ≤ a ∧ a ≤ 89) by omega)]
  rfl
theorem bQ_W {S S' : ms_S} {g : tSG} {o : Nat → Option tDQ} {V V' : Nat} (h : bQ S g o V) (f : cF aWk S S') (w : bQw (cN S') g.1.1 o V') : bQ S' g o V' := by
  obtain ⟨h1, h2, h3, h4, h5, h6, h7, h8⟩ := h
  have f2 : cF (fun k => aWk (e_CN.getD k 0)) (cN S) (cN S') := rs_cF2 f
  exact ⟨bQp_F f2 ⟨rfl, rfl, rfl, rfl, rfl, rfl, rfl, rfl, rfl, rfl⟩ rfl rfl rfl rfl rfl rfl rfl rfl h1, w, bNt_F f2 rfl rfl rfl rfl rfl rfl h3, bES_F f2 ⟨rfl, rfl, rfl, rfl⟩ h4, h5, bQi_F h6 (f.1 0 rfl) (fun a q1 q2 => f.1 a (aWk_n (by omega))) (fun a q1 q2 => f.2.2.1 a (aWk_n (by omega))), bQu_F h7 (congrFun (f.1 0 rfl) 12) (congrFun (f.1 0 rfl) 13) (fun a q => f.1 a (aWk_n (by omega))) (fun a q => f.2.2.1 a (aWk_n (by omega))), bQt_F h8 (f.1 0 rfl) (f.1 1 rfl) (f.2.2.1 2 rfl) (f.2.2.1 3 rfl)⟩
theorem bQw_m {T : ms_S} {P : tPL} {o : Nat → Option tDQ} {V V' : Nat} (h : bQw T P o V) (hv : V ≤ V') : bQw T P o V' := by
  obtain ⟨h1, ⟨v, jb, h2, h3⟩, h4⟩ := h
  exact ⟨h1, ⟨v, jb, by omega, h3⟩, h4⟩
theorem bQ_m {S : ms_S} {g : tSG} {o : Nat → Option tDQ} {V V' : Nat} (h : bQ S g o V) (hv : V ≤ V') : bQ S g o V' := ⟨h.1, bQw_m h.2.1 hv, h.2.2⟩
theorem bQw_F {A : Nat → Bool} {T T' : ms_S} {P : tPL} {o : Nat → Option tDQ} {V : Nat} (f : cF A T T') (h32 : A 32 = false) (h33 : A 33 = false) (h25 : A 25 = false) (h26 : A 26 = false) (h27 : A 27 = false) (h28 : A 28 = false) (h6 : T'.1 31 6 = T.1 31 6) (h7 : T'.1 31 7 = T.1 31 7) (h : bQw T P o V) : bQw T' P o V := by
  obtain ⟨h1, ⟨v, jb, h2, h3⟩, h4, h5⟩ := h
  exact ⟨bJd_F f h32 h33 h1, ⟨v, jb, h2, bRT_F f h25 h26 h27 h28 h3⟩, h6.trans h4, h7.trans h5⟩
/-- core memories beside the whole one -/
theorem cN_mg {S T : ms_S} (h : T.2.2.1 = S.2.2.1) : cF (fun a => Nat.ble 50 a) T (cN (mgS e_CN S T)) := rs_cF e_CN_n h
theorem cT_mg {S T : ms_S} (h : T.2.2.1 = S.2.2.1) : cF (fun a => Nat.ble 50 a) T (cT (mgS e_CT S T)) := rs_cF e_CT_n h
/-- cells of the core that a look may change -/
def aWc : Nat → Bool := fun k => aW k || (Nat.ble 25 k && Nat.ble k 39)
theorem aWc_N : ∀ k, k < e_CN.length → aWc k = true → aWk (e_CN.getD k 0) = true := by decide
theorem wN {S T : ms_S} {A : Nat → Bool} (f : cF A (cN S) T) (hA : ∀ k, k < 50 → A k = true → aWc k = true) : cF aWk S (mgS e_CN S T) := mg_cF f (fun k hk q => aWc_N k hk (hA k hk q))
section STATE
variable {G : ab_G} {tl : ab_H} {S : ms_S} {g : tSG} {o : Nat → Option tDQ} {V : Nat}
theorem u_hr {fr : Bool} {P : tPL} (h : S.1 4 13 = nI P.2.1) (x : Int32) (K : Int32 → ms_S → Prop) (k : K (bI (hrK P x)) S) : ctI G 1 M_X11_isHeir fr [.ref 0, .int x] lB S tl K := by
  refine m_X11_isHeir (fun n0 => ?_)
  rw [h]
  unfold hrK at k
  refine ⟨fun z => ?_, fun z => ⟨fun y => ?_, fun y => ?_⟩⟩
  · rw [decide_eq_false (fun w => w.1 z)] at k; exact k
  · rw [decide_eq_false (fun w => w.2 y)] at k; exact k
  · rw [decide_eq_true ⟨z, y⟩] at k; exact k
theorem u_pc {fr : Bool} {P : tPL} (h : S.1 4 12 = nI P.1) (x : Int32) (K : Int32 → ms_S → Prop) (k : K (bI (pcK P x)) S) : ctI G 1 M_X11_isPiece fr [.ref 0, .int x] lB S tl K := by
  refine m_X11_isPiece (fun n0 => ?_)
  rw [h]
  unfold pcK at k
  refine ⟨fun z => ?_, fun z => ⟨fun y => ?_, fun y => ?_⟩⟩
  · rw [decide_eq_false (fun w => w.1 z)] at k; exact k
  · rw [decide_eq_false (fun w => w.2 y)] at k; exact k
  · rw [decide_eq_true ⟨z, y⟩] at k; exact k
theorem n7_6 {x : Int32} : nI 7 ≤ x ↔ nI 6 < x := by
  rw [Int32.le_iff_toInt_le, Int32.lt_iff_toInt_lt]
  show (7 : Int) ≤ _ ↔ (6 : Int) < _
  omega
theorem u_en {fr : Bool} {lay : List ms_D} (x : Int32) (K : Int32 → ms_S → Prop) (k : K (bI (enK x)) S) : ctI G 1 M_X11_isEnd fr [.int x] lay S tl K := by
  refine ctI.pu (v9 := bI (enK x)) (m_X11_isEnd (fun n0 => ?_)) k
  rw [n7_6]
  unfold enK
  refine ⟨fun z => ?_, fun z => ⟨fun y => ?_, fun y => ?_⟩⟩
  · rw [decide_eq_false (fun w => w.1 z)]; rfl
  · rw [decide_eq_false (fun w => w.2 y)]; rfl
  · rw [decide_eq_true ⟨z, y⟩]; rfl
theorem u_span {fr : Bool} {lay : List ms_D} (x : Int32) (K : Int32 → ms_S → Prop) (k : K (bI (inK x 0 99)) S) : ctI G 1 M_X11_isSpan fr [.int x] lay S tl K := by
  refine ctI.pu (v9 := bI (inK x 0 99)) (m_X11_isSpan (fun n0 => ?_)) k
  unfold inK
  refine ⟨fun z => ?_, fun z => ⟨fun y => ?_, fun y => ?_⟩⟩
  · rw [decide_eq_false (fun w => w.1 z)]; rfl
  · rw [decide_eq_false (fun w => w.2 y)]; rfl
  · rw [decide_eq_true ⟨z, y⟩]; rfl
theorem u_isG {fr : Bool} {lay : List ms_D} (x : Int32) (K : Int32 → ms_S → Prop) (k : K (bI (inK x 0 99999)) S) : ctI G 1 M_X11_isGold fr [.int x] lay S tl K := by
  refine ctI.pu (v9 := bI (inK x 0 99999)) (m_X11_isGold (fun n0 => ?_)) k
  rw [show (99999 : Int32) = nI 99999 from rfl]
  unfold inK
  refine ⟨fun z => ?_, fun z => ⟨fun y => ?_, fun y => ?_⟩⟩
  · rw [decide_eq_false (fun w => w.1 z)]; rfl
  · rw [decide_eq_false (fun w => w.2 y)]; rfl
  · rw [decide_eq_true ⟨z, y⟩]; rfl
theorem en_t {x : Int32} (h : enK x = true) : ∃ j, j < 7 ∧ x = nI j := by
  have h := of_decide_eq_true h
  exact ix_t (by decide) ⟨h.1, fun w => h.2 (n7_6.mp w)⟩
theorem hr_t {P : tPL} {x : Int32} (hP : P.2.1 ≤ 5) (h : hrK P x = true) : ∃ j, j < P.2.1 ∧ x = nI j := ix_t (by omega) (of_decide_eq_true h)
theorem pc_t {P : tPL} {x : Int32} (hP : P.1 ≤ 9) (h : pcK P x = true) : ∃ j, j < P.1 ∧ x = nI j := ix_t (by omega) (of_decide_eq_true h)
theorem u_joinNow (h : bQ S g o V) (hV : V + 1 < 2 ^ 30) (K : ms_S → Prop) (k : ∀ S' v, bQ S' g o (V + 1) → v ≤ V + 1 → bRT (cN S') g.1.1 v (jbC g.1) → cF aWk S S' → K S') : ctU G 5 M_X11_joinAsNow false [.ref 0] lB S tl K := by
  obtain ⟨h1, h2, h3, h4, h5, h6, h7, h8⟩ := id h
  obtain ⟨w1, ⟨v, jb, w2, w3⟩, w4, w5⟩ := h2
  have hP := h1.1
  refine m_X11_joinAsNow (fun n0 => ?_)
  rw [show S.1 82 3 = nI g.1.2.2.2.1.2.2.2.2 from h4.2.2.2.1]
  refine ctL.tr e_CN e_CN_i e_CN_n (as' := [.ref 31, .int (nI g.1.2.2.2.1.2.2.2.2)]) rfl (fun G' => u_joins (G := G') (S := cN S) hP w1 _ h4.2.2.2.2.1 false w4 _ (fun T f j => ?_))
  have g1 := wN f (by decide)
  have c1 := cN_mg (S := S) (T := T) f.2.2.2.2
  generalize mgS e_CN S T = S1 at g1 c1
  have r1 : bRT (cN S1) g.1.1 v jb := bRT_F c1 rfl rfl rfl rfl (bRT_F f rfl rfl rfl rfl w3)
  have j1 : bJd (cN S1) g.1.1 o := bJd_F c1 rfl rfl j
  have x6 : (cN S1).1 31 = (cN S).1 31 := (c1.1 31 rfl).trans (f.1 31 rfl)
  refine ctU.tr e_CN e_CN_i e_CN_n (as' := [.ref 25, .long (lN (byN (jbK g.1.1 g.1.2.2.2.1.2.2.2.2 false) 7))]) rfl (fun G' => u_use (G := G') (S := cN S1) r1 _ (fun e he => bitsN_lt _ _) (by omega) _ (fun T2 v2 f2 hv2 r2 => ?_))
  have g2 := wN f2 (by decide)
  have c2 := cN_mg (S := S1) (T := T2) f2.2.2.2.2
  generalize mgS e_CN S1 T2 = S2 at g2 c2
  have r3 : bRT (cN S2) g.1.1 v2 (jbC g.1) := bRT_F c2 rfl rfl rfl rfl r2
  have x7 : (cN S2).1 31 = (cN S).1 31 := ((c2.1 31 rfl).trans (f2.1 31 rfl)).trans x6
  refine k S2 v2 (bQ_W h (g1.tr g2) ⟨bJd_F c2 rfl rfl (bJd_F f2 rfl rfl j1), ⟨v2, _, by omega, r3⟩, ?_, ?_⟩) (by omega) r3 (g1.tr g2)
  · rw [x7]; exact w4
  · rw [x7]; exact w5
end STATE

