/-! ===== the reference: a day ===== -/
/-- trades: how many, one, other, day; draws: how many, who, day -/
abbrev tTD : Type := Nat × (Nat → Nat) × (Nat → Nat) × (Nat → Nat) × Nat × (Nat → Nat) × (Nat → Nat)
/-- draws by chance, no trades, all ends join, all may hold; who is idle; how many a row needs -/
abbrev tOP : Type := Bool × Bool × Bool × Bool × Int32 × Nat
def mTD (S : ms_S) (P : tPL) (T : tTD) : Prop := T.1 ≤ 8 ∧ T.2.2.2.2.1 ≤ 10 ∧ m_trades S = nI T.1 ∧ m_draws1 S = nI T.2.2.2.2.1 ∧ (∀ t, t < T.1 → a_tradeOne S t = nI (T.2.1 t) ∧ T.2.1 t < P.1 ∧ a_tradeOther S t = nI (T.2.2.1 t) ∧ T.2.2.1 t < P.1 ∧ a_tradeAt S t = nI (T.2.2.2.1 t) ∧ T.2.2.2.1 t ≤ 99) ∧ (∀ k, k < T.2.2.2.2.1 → a_drawWho S k = nI (T.2.2.2.2.2.1 k) ∧ T.2.2.2.2.2.1 k < P.2.1 ∧ a_drawAt S k = nI (T.2.2.2.2.2.2 k) ∧ T.2.2.2.2.2.2 k ≤ 99)
def mOP (S : ms_S) (o : tOP) : Prop := m_draws S = bI o.1 ∧ m_noTrades S = bI o.2.1 ∧ m_allJoin S = bI o.2.2.1 ∧ m_allMay S = bI o.2.2.2.1 ∧ m_idle S = o.2.2.2.2.1 ∧ m_needBy S = nI o.2.2.2.2.2 ∧ o.2.2.2.2.2 ≤ 9
theorem mTD_mB {bb : Nat} {S S' : ms_S} {P : tPL} {T : tTD} (h : mB fB aR bb S S') (hT : mTD S P T) : mTD S' P T := by
  obtain ⟨t1, t2, t3, t4, t5, t6⟩ := hT
  have a11 := h.2.2.2.1 11 rfl rfl
  have a12 := h.2.2.2.1 12 rfl rfl
  have a13 := h.2.2.2.1 13 rfl rfl
  have a14 := h.2.2.2.1 14 rfl rfl
  have a15 := h.2.2.2.1 15 rfl rfl
  refine ⟨t1, t2, (h.1 0 14 (Or.inr rfl)).trans t3, (h.1 0 15 (Or.inr rfl)).trans t4, fun t ht => ?_, fun k hk => ?_⟩
  · obtain ⟨o1, o2, o3, o4, o5, o6⟩ := t5 t ht
    exact ⟨(congrFun a11 t).trans o1, o2, (congrFun a12 t).trans o3, o4, (congrFun a13 t).trans o5, o6⟩
  · obtain ⟨o1, o2, o3, o4⟩ := t6 k hk
    exact ⟨(congrFun a14 k).trans o1, o2, (congrFun a15 k).trans o3, o4⟩
theorem mOP_mB {bb : Nat} {S S' : ms_S} {o : tOP} (h : mB fB aR bb S S') (hO : mOP S o) : mOP S' o := by
  obtain ⟨o1, o2, o3, o4, o5, o6, o7⟩ := hO
  exact ⟨(h.1 0 58 (Or.inr rfl)).trans o1, (h.1 0 59 (Or.inr rfl)).trans o2, (h.1 0 60 (Or.inr rfl)).trans o3, (h.1 0 61 (Or.inr rfl)).trans o4, (h.1 0 62 (Or.inr rfl)).trans o5, (h.1 0 63 (Or.inr rfl)).trans o6, o7⟩
theorem dec_bI {x : Int32} {b : Bool} (h : x = bI b) : decide (¬ x = 0) = b := by
  subst h
  cases b <;> rfl
theorem mRT_F {F A : Nat → Bool} {S S' : ms_S} {P : tPL} {jb : Nat → Nat} (h : mE F A S S') (hA : A 32 = false) (hT : mRT S P jb) : mRT S' P jb := fun set h1 f h2 => (congrFun (h.2.2.2.1 32 hA) _).trans (hT set h1 f h2)
theorem mRW_F {F A : Nat → Bool} {S S' : ms_S} {P : tPL} (h : mE F A S S') (hF : F 68 = false) (hA : A 32 = false) (hA2 : A 33 = false) (hW : mRW S P) : mRW S' P := by
  have f68 := h.1 0 68 (Or.inr hF)
  rcases hW with w | ⟨w1, jw, w2, w3⟩
  · exact Or.inl (f68.trans w)
  · exact Or.inr ⟨f68.trans w1, jw, fun e he => ⟨(congrFun (h.2.2.2.1 33 hA2) e).trans (w2 e he).1, (w2 e he).2⟩, mRT_F h hA w3⟩
/-- one is refused -/
abbrev rfS (s : tES) : tES := (s.1, s.2.1, s.2.2.1, s.2.2.2.1 + 1, s.2.2.2.2)
def dyT1 (P : tPL) (T : tTD) (am : Bool) (t : Nat) (s : tES) : tES := if T.2.2.2.1 t = s.2.2.2.2 then (if trK P s am (T.2.1 t) (T.2.2.1 t) = true then trS s (T.2.1 t) (T.2.2.1 t) else rfS s) else s
def dyT (P : tPL) (T : tTD) (am : Bool) (s : tES) : Nat → tES
  | 0 => s
  | t + 1 => dyT1 P T am t (dyT P T am s t)
def dyD1 (P : tPL) (T : tTD) (o : tOP) (k : Nat) (x : tES × Nat) : tES × Nat := if T.2.2.2.2.2.2 k = x.1.2.2.2.2 ∧ ¬ nI (T.2.2.2.2.2.1 k) = o.2.2.2.2.1 then (if dwB P x.1 o.1 o.2.2.2.1 x.2 (T.2.2.2.2.2.1 k) = true then dwS P x.1 o.1 o.2.2.2.1 x.2 (T.2.2.2.2.2.1 k) else rfS x.1, dwN P x.1 o.1 x.2) else x
def dyD (P : tPL) (T : tTD) (o : tOP) (x : tES × Nat) : Nat → tES × Nat
  | 0 => x
  | k + 1 => dyD1 P T o k (dyD P T o x k)
def dyL1 (P : tPL) (o : tOP) (jb : Nat → Nat) (h : Nat) (x : tES × Nat) : tES × Nat := if manyK P x.1 h < o.2.2.2.2.2 then x else (match dOut P x.1 jb h 7 with | none => x | some q => (spS P x.1 h q.1, x.2 ||| 2 ^ h))
def dyL (P : tPL) (o : tOP) (jb : Nat → Nat) (x : tES × Nat) : Nat → tES × Nat
  | 0 => x
  | h + 1 => dyL1 P o jb h (dyL P o jb x h)
/-- the joins of a day -/
abbrev jbK (P : tPL) (dy : Nat) (aj : Bool) : Nat → Nat := fun x => bitsN (jnK P dy aj x) 7
abbrev dgA (P : tPL) (T : tTD) (o : tOP) (s : tES) : tES := if o.2.1 = true then s else dyT P T o.2.2.2.1 s T.1
abbrev dgB (P : tPL) (T : tTD) (o : tOP) (s : tES) (dn : Nat) : tES × Nat := dyD P T o (dgA P T o s, dn) T.2.2.2.2.1
abbrev dgC (P : tPL) (T : tTD) (o : tOP) (s : tES) (dn : Nat) : tES × Nat := dyL P o (jbK P s.2.2.2.2 o.2.2.1) ((dgB P T o s dn).1, 0) P.2.1
/-- the estate behind a day -/
def dgS (P : tPL) (T : tTD) (o : tOP) (s : tES) (dn : Nat) : tES := ((dgC P T o s dn).1.1, (dgC P T o s dn).1.2.1, (dgC P T o s dn).1.2.2.1, (dgC P T o s dn).1.2.2.2.1, (dgC P T o s dn).1.2.2.2.2 + 1)
theorem hoOk_T1 {P : tPL} {T : tTD} {am : Bool} {t : Nat} {s : tES} (h1 : T.2.1 t < P.1) (h2 : T.2.2.1 t < P.1) (h : hoOk P s) : hoOk P (dyT1 P T am t s) := by
  unfold dyT1
  split
  · split
    · intro p hp
      show upd (upd s.1 _ _) _ _ p = _ ∨ upd (upd s.1 _ _) _ _ p = _ ∨ ∃ q, q < P.2.1 ∧ upd (upd s.1 _ _) _ _ p = _
      unfold upd
      split
      · exact h _ h1
      · split
        · exact h _ h2
        · exact h p hp
    · exact h
  · exact h
theorem hoOk_D1 {P : tPL} {T : tTD} {o : tOP} {k : Nat} {x : tES × Nat} (h1 : T.2.2.2.2.2.1 k < P.2.1) (h : hoOk P x.1) : hoOk P (dyD1 P T o k x).1 := by
  unfold dyD1
  split
  · dsimp only
    split
    · rename_i hb
      unfold dwS
      rw [if_pos hb]
      intro p hp
      show upd x.1.1 _ _ p = _ ∨ upd x.1.1 _ _ p = _ ∨ ∃ q, q < P.2.1 ∧ upd x.1.1 _ _ p = _
      unfold upd
      split
      · exact Or.inr (Or.inr ⟨_, h1, rfl⟩)
      · exact h p hp
    · exact h
  · exact h
theorem hoOk_L1 {P : tPL} {o : tOP} {jb : Nat → Nat} {k : Nat} {x : tES × Nat} (h : hoOk P x.1) : hoOk P (dyL1 P o jb k x).1 := by
  unfold dyL1
  split
  · exact h
  · split
    · exact h
    · intro p hp
      show (if p < P.1 ∧ x.1.1 p = nI k then -(nI 3) else x.1.1 p) = _ ∨ (if p < P.1 ∧ x.1.1 p = nI k then -(nI 3) else x.1.1 p) = _ ∨ ∃ q, q < P.2.1 ∧ (if p < P.1 ∧ x.1.1 p = nI k then -(nI 3) else x.1.1 p) = _
      split
      · exact Or.inr (Or.inl rfl)
      · exact h p hp
theorem hoOk_T {P : tPL} {T : tTD} {am : Bool} {s : tES} (hT : ∀ t, t < T.1 → T.2.1 t < P.1 ∧ T.2.2.1 t < P.1) (h : hoOk P s) : ∀ t, t ≤ T.1 → hoOk P (dyT P T am s t)
  | 0, _ => h
  | t + 1, ht => hoOk_T1 (hT t (by omega)).1 (hT t (by omega)).2 (hoOk_T hT h t (by omega))
theorem hoOk_D {P : tPL} {T : tTD} {o : tOP} {x : tES × Nat} (hT : ∀ t, t < T.2.2.2.2.1 → T.2.2.2.2.2.1 t < P.2.1) (h : hoOk P x.1) : ∀ t, t ≤ T.2.2.2.2.1 → hoOk P (dyD P T o x t).1
  | 0, _ => h
  | t + 1, ht => hoOk_D1 (hT t (by omega)) (hoOk_D hT h t (by omega))
theorem hoOk_L {P : tPL} {o : tOP} {jb : Nat → Nat} {x : tES × Nat} (h : hoOk P x.1) : ∀ t, hoOk P (dyL P o jb x t).1
  | 0 => h
  | t + 1 => hoOk_L1 (hoOk_L h t)
theorem dyT_day (P : tPL) (T : tTD) (am : Bool) (s : tES) : ∀ t, (dyT P T am s t).2.2.2.2 = s.2.2.2.2
  | 0 => rfl
  | t + 1 => by
    have ih := dyT_day P T am s t
    unfold dyT dyT1
    split
    · split <;> exact ih
    · exact ih
theorem dgA_day (P : tPL) (T : tTD) (o : tOP) (s : tES) : (dgA P T o s).2.2.2.2 = s.2.2.2.2 := by
  unfold dgA
  split
  · rfl
  · exact dyT_day _ _ _ _ _
theorem dwS_day (P : tPL) (s : tES) (dr am : Bool) (dn h : Nat) : (dwS P s dr am dn h).2 = s.2 := by
  unfold dwS
  split <;> rfl
theorem dyD_day (P : tPL) (T : tTD) (o : tOP) (x : tES × Nat) : ∀ t, (dyD P T o x t).1.2.2.2.2 = x.1.2.2.2.2
  | 0 => rfl
  | t + 1 => by
    have ih := dyD_day P T o x t
    unfold dyD dyD1
    split
    · dsimp only
      split
      · rw [dwS_day]
        exact ih
      · exact ih
    · exact ih
theorem dyL_day (P : tPL) (o : tOP) (jb : Nat → Nat) (x : tES × Nat) : ∀ t, (dyL P o jb x t).1.2.2.2.2 = x.1.2.2.2.2
  | 0 => rfl
  | t + 1 => by
    have ih := dyL_day P o jb x t
    unfold dyL dyL1
    split
    · exact ih
    · split <;> exact ih
theorem dgC_day (P : tPL) (T : tTD) (o : tOP) (s : tES) (dn : Nat) : (dgC P T o s dn).1.2.2.2.2 = s.2.2.2.2 := by
  rw [dyL_day, dyD_day]
  exact dgA_day _ _ _ _
theorem hoOk_dg {P : tPL} {T : tTD} {o : tOP} {s : tES} {dn : Nat} (h1 : ∀ t, t < T.1 → T.2.1 t < P.1 ∧ T.2.2.1 t < P.1) (h2 : ∀ t, t < T.2.2.2.2.1 → T.2.2.2.2.2.1 t < P.2.1) (h : hoOk P s) : hoOk P (dgS P T o s dn) := by
  refine hoOk_L (x := ((dgB P T o s dn).1, 0)) (hoOk_D (x := (dgA P T o s, dn)) h2 ?_ _ (Nat.le_refl _)) _
  show hoOk P (if o.2.1 = true then s else dyT P T o.2.2.2.1 s T.1)
  split
  · exact h
  · exact hoOk_T h1 h _ (Nat.le_refl _)
theorem dyD_lt (P : tPL) (T : tTD) (o : tOP) (x : tES × Nat) (h : x.2 < 2 ^ 31) : ∀ t, (dyD P T o x t).2 < 2 ^ 31
  | 0 => h
  | t + 1 => by
    have ih := dyD_lt P T o x h t
    unfold dyD dyD1
    split
    · exact dwN_lt _ _ _ _ ih
    · exact ih
/-- what holds through a day -/
def dyI (S : ms_S) (P : tPL) (bb : Nat) (X : ms_S) (s : tES) (dn : Nat) : Prop := mB fB aR bb S X ∧ mES X bb s ∧ m_drawn X = lN dn ∧ mRW X P
theorem dyI.st {S X Y : ms_S} {P : tPL} {bb : Nat} {s s' : tES} {dn dn' : Nat} (h : dyI S P bb X s dn) (hm : mB fL aL bb X Y) (hs : mES Y bb s') (hd : m_drawn Y = lN dn') : dyI S P bb Y s' dn' := ⟨h.1.tr hm.LB, hs, hd, mRW_mB hm h.2.2.2⟩
theorem mES_re {S : ms_S} {bb : Nat} {s : tES} (h : mES S bb s) : mES (sA S 29 bb (nI (s.2.2.2.1 + 1))) bb (rfS s) := by
  refine ⟨h.1, h.2.1, h.2.2.1, ?_, h.2.2.2.2.1, h.2.2.2.2.2⟩
  show upd (S.2.2.2.1 29) bb _ bb = _
  exact if_pos rfl
theorem dyI.re {S X : ms_S} {P : tPL} {bb : Nat} {s : tES} {dn : Nat} (h : dyI S P bb X s dn) : dyI S P bb (sA X 29 bb (nI (s.2.2.2.1 + 1))) (rfS s) dn := h.st mB.re (mES_re h.2.1) h.2.2.1
set_option maxRecDepth 100000 in
set_option maxHeartbeats 4000000 in
theorem c_dayGoes (G : ab_G) (fr : Bool) (S : ms_S) (tl : ab_H) (P : tPL) (T : tTD) (o : tOP) (s : tES) (bb dn : Nat) (hP : mPL S P) (hT : mTD S P T) (hO : mOP S o) (hs : mES S bb s) (hho : hoOk P s) (hW : mRW S P) (hbb : bb < 2) (hdn : dn < 2 ^ 31) (hd : m_drawn S = lN dn) (hdy : s.2.2.2.2 + 1 < 2 ^ 20) :
    ab_CT G 7 M_X12_dayGoes fr [.ref 0, .int (nI bb)] (hM S tl) 0 0 (fun r h' => ∃ S', h' = hM S' tl ∧ mB fB aR bb S S' ∧ mES S' bb (dgS P T o s dn) ∧ m_drawn S' = lN (dgB P T o s dn).2 ∧ m_layers S' = nI (dgC P T o s dn).2 ∧ mRW S' P ∧ r = none) := by
  refine wp_ct o_X12_dayGoes (Nat.le_of_ble_eq_true rfl) ?_
  generalize hpost : (fun (r : Option Value) (h' : ab_H) => ∃ S', h' = hM S' tl ∧ mB fB aR bb S S' ∧ mES S' bb (dgS P T o s dn) ∧ m_drawn S' = lN (dgB P T o s dn).2 ∧ m_layers S' = nI (dgC P T o s dn).2 ∧ mRW S' P ∧ r = none) = post
  generalize (hM S tl).length = n0
  obtain ⟨q1, q2, q3, q4, q5, q6⟩ := id hP
  obtain ⟨t1, t2, t3, t4, t5, t6⟩ := id hT
  obtain ⟨o1, o2, o3, o4, o5, o6, o7⟩ := id hO
  have hA1 : hoOk P (dgA P T o s) := by
    show hoOk P (if o.2.1 = true then s else dyT P T o.2.2.2.1 s T.1)
    split
    · exact hho
    · exact hoOk_T (fun t ht => ⟨(t5 t ht).2.1, (t5 t ht).2.2.2.1⟩) hho _ (Nat.le_refl _)
  have day1 := dgA_day P T o s
  have K219 : ∀ (X : ms_S) (i2 i3 : Int32), dyI S P bb X (dgC P T o s dn).1 (dgB P T o s dn).2 → m_layers X = nI (dgC P T o s dn).2 → wp G 7 M_X12_dayGoes fr n0 post 219 [some (.ref 0), some (.int (nI bb)), some (.int i2), some (.int i3)] [] (hM X tl) := by
    intro X i2 i3 hI hl
    obtain ⟨x1, x2, x3, x4⟩ := hI
    have hdd := dgC_day P T o s dn
    repeat refine ws_s rfl ?_
    refine ws_ld (k := bb) rfl (by first | rfl | (simp only [pk_mul, nI_add]; done)) (by omega) (by decide) (x2.2.2.2.2.1) ?_
    repeat refine ws_s rfl ?_
    refine ws_sa (k := bb) rfl (by first | rfl | (simp only [pk_mul, nI_add]; done)) (by omega) (by decide) (nI_add _ 1) ?_
    refine wp_rv rfl rfl ?_
    rw [← hpost]
    refine ⟨_, rfl, x1.tr mB.da, ⟨x2.1, x2.2.1, x2.2.2.1, x2.2.2.2.1, if_pos rfl, ?_⟩, x3, hl, mRW_mB (bb := bb) mB.da x4, rfl⟩
    show (dgC P T o s dn).1.2.2.2.2 + 1 < 2 ^ 20
    omega
  have K141 : ∀ (X : ms_S) (i2 : Int32), dyI S P bb X (dgB P T o s dn).1 (dgB P T o s dn).2 → m_layers X = nI 0 → wp G 7 M_X12_dayGoes fr n0 post 141 [some (.ref 0), some (.int (nI bb)), some (.int i2), none] [] (hM X tl) := by
    intro X i2 hI hl
    iterate 4 refine ws_s rfl ?_
    refine wp_downX (X := ms_S × Bool) P.2.1 (fun h9 X => dyI S P bb X.1 (dyL P o (jbK P s.2.2.2.2 o.2.2.1) ((dgB P T o s dn).1, 0) h9).1 (dgB P T o s dn).2 ∧ m_layers X.1 = nI (dyL P o (jbK P s.2.2.2.2 o.2.2.1) ((dgB P T o s dn).1, 0) h9).2 ∧ (X.2 = true → mRT X.1 P (jbK P s.2.2.2.2 o.2.2.1))) (fun h9 X => [some (.ref 0), some (.int (nI bb)), some (.int (bI X.2)), some (.int (nI h9))]) (fun X => hM X.1 tl) ?_ ?_ (X, false) ⟨hI, hl, fun q => by cases q⟩
    · rintro ⟨X1, fl⟩ ⟨x1, x2, x3⟩
      have eh : X1.1 0 13 = nI P.2.1 := (x1.1.1 0 13 (Or.inr rfl)).trans q4
      repeat refine ws_s rfl ?_
      refine wp_le (eh) (rfl) (by first | omega | decide) (by first | omega | decide) (fun z => ?_) (fun z => absurd z (by omega))
      exact K219 X1 _ _ x1 x2
    · rintro h9 ⟨X1, fl⟩ hh9 ⟨x1, x2, x3⟩ kn
      have eh : X1.1 0 13 = nI P.2.1 := (x1.1.1 0 13 (Or.inr rfl)).trans q4
      have hday : (dyL P o (jbK P s.2.2.2.2 o.2.2.1) ((dgB P T o s dn).1, 0) h9).1.2.2.2.2 = s.2.2.2.2 := by
        rw [dyL_day, dyD_day]
        exact day1
      have edy : dyL P o (jbK P s.2.2.2.2 o.2.2.1) ((dgB P T o s dn).1, 0) (h9 + 1) = dyL1 P o (jbK P s.2.2.2.2 o.2.2.1) h9 (dyL P o (jbK P s.2.2.2.2 o.2.2.1) ((dgB P T o s dn).1, 0) h9) := rfl
      dsimp only at x1 x2 x3 ⊢
      have hX1 := x1
      generalize hcur : dyL P o (jbK P s.2.2.2.2 o.2.2.1) ((dgB P T o s dn).1, 0) h9 = cur at x1 x2 edy hday hX1
      obtain ⟨y1, y2, y3, y4⟩ := x1
      have hP1 := mPL_mB y1 hP
      have hO1 := mOP_mB y1 hO
      have hbx : heldN (fun p => a_holder X1 (9 * bb + p)) (nI h9) P.1 = heldN cur.1.1 (nI h9) P.1 := heldN_congr (fun i hi => y2.1 i (by omega))
      have hlt := heldN_lt cur.1.1 (nI h9) P.1
      have hl9 : heldN cur.1.1 (nI h9) P.1 < 2 ^ 9 := Nat.lt_of_lt_of_le hlt (Nat.pow_le_pow_right (by decide) q1)
      have hpl := pop_le (heldN cur.1.1 (nI h9) P.1) 9
      have ct1 := c_heldBy G fr X1 tl bb P.1 (nI h9) hbb q1 hP1.2.2.1
      rw [hbx] at ct1
      have K213 : ∀ (Y : ms_S) (fl' : Bool), dyI S P bb Y (dyL P o (jbK P s.2.2.2.2 o.2.2.1) ((dgB P T o s dn).1, 0) (h9 + 1)).1 (dgB P T o s dn).2 → m_layers Y = nI (dyL P o (jbK P s.2.2.2.2 o.2.2.1) ((dgB P T o s dn).1, 0) (h9 + 1)).2 → (fl' = true → mRT Y P (jbK P s.2.2.2.2 o.2.2.1)) → wp G 7 M_X12_dayGoes fr n0 post 213 [some (.ref 0), some (.int (nI bb)), some (.int (bI fl')), some (.int (nI h9))] [] (hM Y tl) := by
        intro Y fl' a1 a2 a3
        repeat refine ws_s rfl ?_
        refine ws_b rfl ?_
        exact wp_eqL (by rw [← nI_add h9 1]; rfl) (kn (Y, fl') ⟨a1, a2, a3⟩)
      have K181 : ∀ (Y : ms_S) (i2 : Int32), dyI S P bb Y cur.1 (dgB P T o s dn).2 → m_layers Y = nI cur.2 → mRT Y P (jbK P s.2.2.2.2 o.2.2.1) → ¬ manyK P cur.1 h9 < o.2.2.2.2.2 → wp G 7 M_X12_dayGoes fr n0 post 181 [some (.ref 0), some (.int (nI bb)), some (.int i2), some (.int (nI h9))] [] (hM Y tl) := by
        intro Y i2 a1 a2 a3 hmany
        repeat refine ws_s rfl ?_
        refine wp_cV rfl rfl o_X12_isDear v_X12_isDear (c_isDear G fr Y tl P cur.1 (jbK P s.2.2.2.2 o.2.2.1) bb h9 (mPL_mB a1.1 hP) a1.2.1 hbb (by omega) a3) rfl rfl rfl (Nat.le_of_ble_eq_true rfl) (by decide) ?_
        rintro r h' ⟨Y2, rfl, hm2, hr2, rfl⟩
        have b1 : mB fB aR bb S Y2 := a1.1.tr ((hm2.B aLQ).mono (fun k q => fDR k (fRB k q)) aLR)
        have b2 := mES_mE hm2.DR a1.2.1
        have b3 : m_drawn Y2 = lN (dgB P T o s dn).2 := by rw [← a1.2.2.1]; exact congrFun (congrFun hm2.2.1 0) 57
        have b4 := mRW_F hm2 rfl rfl rfl a1.2.2.2
        have b5 : m_layers Y2 = nI cur.2 := (hm2.1 0 64 (Or.inr rfl)).trans a2
        have b6 := mRT_F hm2 rfl a3
        have edy2 : dyL1 P o (jbK P s.2.2.2.2 o.2.2.1) h9 cur = (match dOut P cur.1 (jbK P s.2.2.2.2 o.2.2.1) h9 7 with | none => cur | some q => (spS P cur.1 h9 q.1, cur.2 ||| 2 ^ h9)) := by
          unfold dyL1
          rw [if_neg hmany]
        cases hdo : dOut P cur.1 (jbK P s.2.2.2.2 o.2.2.1) h9 7 with
        | none =>
          rw [hdo] at edy2
          iterate 2 refine ws_s rfl ?_
          exact K213 Y2 true (by rw [edy, edy2]; exact ⟨b1, b2, b3, b4⟩) (by rw [edy, edy2]; exact b5) (fun _ => b6)
        | some q =>
          rw [hdo] at edy2 hr2
          repeat refine ws_s rfl ?_
          refine wp_cV rfl rfl o_X12_spends v_X12_spends (c_spends G fr Y2 tl P cur.1 bb h9 q.1 (mPL_mB b1 hP) b2 hbb (by omega) hr2.1 hr2.2.2.2) rfl rfl rfl (Nat.le_of_ble_eq_true rfl) (by decide) ?_
          rintro r h' ⟨Y3, rfl, hm3, hs3, hw3, rfl⟩
          have d1 : dyI S P bb Y3 (spS P cur.1 h9 q.1) (dgB P T o s dn).2 := dyI.st ⟨b1, b2, b3, b4⟩ hm3 hs3 ((congrFun (congrFun hw3 0) 57).trans b3)
          have d2 : m_layers Y3 = nI cur.2 := (hm3.1 0 64 (Or.inr rfl)).trans b5
          iterate 8 refine ws_s rfl ?_
          rw [show Y3.1 0 64 = nI cur.2 from d2, nu_set (show h9 < 31 by omega)]
          have m6 := mRT_mB hm3 b6
          refine K213 _ true ?_ ?_ (fun _ => m6)
          · rw [edy, edy2]
            exact ⟨d1.1.tr (mB.sV rfl), d1.2.1, d1.2.2.1, d1.2.2.2⟩
          · rw [edy, edy2]
            rfl
      repeat refine ws_s rfl ?_
      refine wp_le (eh) (rfl) (by first | omega | decide) (by first | omega | decide) (fun z => absurd z (by omega)) (fun z => ?_)
      repeat refine ws_s rfl ?_
      refine wp_V (ct1) rfl rfl o_X12_heldBy v_X12_heldBy rfl rfl rfl (Nat.le_of_ble_eq_true rfl) (by decide) ?_
      refine wp_S (c_manyOf G fr _ (hM X1 tl) (by omega)) rfl rfl o_X12_manyOf s_X12_manyOf rfl rfl (Nat.le_of_ble_eq_true rfl) (by decide) ?_
      repeat refine ws_s rfl ?_
      refine wp_le (hO1.2.2.2.2.2.1) (rfl) (by first | omega | decide) (by first | omega | decide) (fun hm => ?_) (fun hm => ?_)
      · repeat refine ws_s rfl ?_
        refine wp_bn rfl (fun hf => ?_) (fun hf => ?_)
        · repeat refine ws_s rfl ?_
          refine wp_cV rfl rfl o_X12_layRows v_X12_layRows (c_layRows G fr X1 tl P cur.1 bb hP1 y2 hbb y4) rfl rfl rfl (Nat.le_of_ble_eq_true rfl) (by decide) ?_
          rintro r h' ⟨Y2, rfl, hm2, hj2, hr2, hw2, rfl⟩
          rw [hday, dec_bI hO1.2.2.1] at hr2
          exact K181 Y2 _ ⟨y1.tr ((hm2.B aRQ).mono fRB (fun _ q => q)), mES_mE hm2 y2, (congrFun (congrFun hm2.2.1 0) 57).trans y3, hw2⟩ ((hm2.1 0 64 (Or.inr rfl)).trans x2) hr2 (Nat.not_lt.mpr hm)
        · exact K181 X1 _ ⟨y1, y2, y3, y4⟩ x2 (x3 hf) (Nat.not_lt.mpr hm)
      · have edy2 : dyL1 P o (jbK P s.2.2.2.2 o.2.2.1) h9 cur = cur := by
          unfold dyL1
          rw [if_pos hm]
        iterate 1 refine ws_s rfl ?_
        exact K213 X1 fl (by rw [edy, edy2]; exact hX1) (by rw [edy, edy2]; exact x2) x3
  have K73 : ∀ (X : ms_S) (i2 : Int32), dyI S P bb X (dgA P T o s) dn → m_layers X = nI 0 → wp G 7 M_X12_dayGoes fr n0 post 73 [some (.ref 0), some (.int (nI bb)), some (.int i2), none] [] (hM X tl) := by
    intro X i2 hI hl
    iterate 2 refine ws_s rfl ?_
    refine wp_downX (X := ms_S) T.2.2.2.2.1 (fun k9 X => dyI S P bb X (dyD P T o (dgA P T o s, dn) k9).1 (dyD P T o (dgA P T o s, dn) k9).2 ∧ m_layers X = nI 0) (fun k9 X => [some (.ref 0), some (.int (nI bb)), some (.int (nI k9)), none]) (fun X => hM X tl) ?_ ?_ X ⟨hI, hl⟩
    · rintro X1 ⟨x1, x2⟩
      have eh : X1.1 0 15 = nI T.2.2.2.2.1 := (x1.1.1 0 15 (Or.inr rfl)).trans t4
      repeat refine ws_s rfl ?_
      refine wp_le (eh) (rfl) (by first | omega | decide) (by first | omega | decide) (fun z => ?_) (fun z => absurd z (by omega))
      exact K141 X1 _ x1 x2
    · rintro k9 X1 hk9 ⟨x1, x2⟩ kn
      have eh : X1.1 0 15 = nI T.2.2.2.2.1 := (x1.1.1 0 15 (Or.inr rfl)).trans t4
      have hday : (dyD P T o (dgA P T o s, dn) k9).1.2.2.2.2 = s.2.2.2.2 := by
        rw [dyD_day]
        exact day1
      have hdl := dyD_lt P T o (dgA P T o s, dn) hdn k9
      have edy : dyD P T o (dgA P T o s, dn) (k9 + 1) = dyD1 P T o k9 (dyD P T o (dgA P T o s, dn) k9) := rfl
      generalize hcur : dyD P T o (dgA P T o s, dn) k9 = cur at x1 x2 edy hday hdl
      have hX1 := x1
      obtain ⟨y1, y2, y3, y4⟩ := x1
      obtain ⟨u1, u2, u3, u4⟩ := (mTD_mB y1 hT).2.2.2.2.2 k9 hk9
      have hO1 := mOP_mB y1 hO
      have K135 : ∀ (Y : ms_S), dyI S P bb Y (dyD P T o (dgA P T o s, dn) (k9 + 1)).1 (dyD P T o (dgA P T o s, dn) (k9 + 1)).2 → m_layers Y = nI 0 → wp G 7 M_X12_dayGoes fr n0 post 135 [some (.ref 0), some (.int (nI bb)), some (.int (nI k9)), none] [] (hM Y tl) := by
        intro Y a1 a2
        repeat refine ws_s rfl ?_
        refine ws_b rfl ?_
        exact wp_eqL (by rw [← nI_add k9 1]; rfl) (kn Y ⟨a1, a2⟩)
      repeat refine ws_s rfl ?_
      refine wp_le (eh) (rfl) (by first | omega | decide) (by first | omega | decide) (fun z => absurd z (by omega)) (fun z => ?_)
      repeat refine ws_s rfl ?_
      refine ws_ld (k := k9) rfl (by first | rfl | (simp only [pk_mul, nI_add]; done)) (by omega) (by decide) (u3) ?_
      repeat refine ws_s rfl ?_
      refine ws_ld (k := bb) rfl (by first | rfl | (simp only [pk_mul, nI_add]; done)) (by omega) (by decide) (y2.2.2.2.2.1) ?_
      repeat refine ws_s rfl ?_
      refine wp_eq (rfl) (rfl) (by first | omega | decide) (by first | omega | decide) (fun hat => ?_) (fun hat => ?_)
      · repeat refine ws_s rfl ?_
        refine ws_ld (k := k9) rfl (by first | rfl | (simp only [pk_mul, nI_add]; done)) (by omega) (by decide) (u1) ?_
        repeat refine ws_s rfl ?_
        rw [show X1.1 0 62 = o.2.2.2.2.1 from hO1.2.2.2.2.1]
        refine wp_ite (fun hid => ?_) (fun hid => ?_)
        · exact K135 X1 (by
            rw [edy]
            unfold dyD1
            rw [if_neg (fun z => z.2 hid)]
            exact hX1) x2
        · have edy2 : dyD1 P T o k9 cur = (if dwB P cur.1 o.1 o.2.2.2.1 cur.2 (T.2.2.2.2.2.1 k9) = true then dwS P cur.1 o.1 o.2.2.2.1 cur.2 (T.2.2.2.2.2.1 k9) else rfS cur.1, dwN P cur.1 o.1 cur.2) := by
            unfold dyD1
            rw [if_pos ⟨hat, hid⟩]
          repeat refine ws_s rfl ?_
          refine ws_ld (k := k9) rfl (by first | rfl | (simp only [pk_mul, nI_add]; done)) (by omega) (by decide) (u1) ?_
          refine wp_cV rfl rfl o_X12_drawsOne v_X12_drawsOne (c_drawsOne G fr X1 tl P cur.1 bb (T.2.2.2.2.2.1 k9) cur.2 o.1 o.2.2.2.1 (mPL_mB y1 hP) y2 hbb (by omega) hdl y3 hO1.1 hO1.2.2.2.1) rfl rfl rfl (Nat.le_of_ble_eq_true rfl) (by decide) ?_
          rintro r h' ⟨Y2, rfl, hm2, hs2, hd2, rfl⟩
          have hI2 := dyI.st hX1 hm2 hs2 hd2
          have hl2 : m_layers Y2 = nI 0 := (hm2.1 0 64 (Or.inr rfl)).trans x2
          repeat refine ws_s rfl ?_
          refine wp_bn rfl (fun hf => ?_) (fun hf => ?_)
          · have edw : dwS P cur.1 o.1 o.2.2.2.1 cur.2 (T.2.2.2.2.2.1 k9) = cur.1 := by
              unfold dwS
              rw [hf]
              rfl
            rw [edw] at hI2
            repeat refine ws_s rfl ?_
            refine ws_ld (k := bb) rfl (by first | rfl | (simp only [pk_mul, nI_add]; done)) (by omega) (by decide) (hI2.2.1.2.2.2.1) ?_
            repeat refine ws_s rfl ?_
            refine ws_sa (k := bb) rfl (by first | rfl | (simp only [pk_mul, nI_add]; done)) (by omega) (by decide) (nI_add _ 1) ?_
            refine K135 _ ?_ hl2
            rw [edy, edy2, hf]
            exact hI2.re
          · refine K135 Y2 ?_ hl2
            rw [edy, edy2, hf]
            exact hI2
      · exact K135 X1 (by
          rw [edy]
          unfold dyD1
          rw [if_neg (fun z => hat z.1)]
          exact hX1) x2
  have hI0 : dyI S P bb (sV S 64 (nI 0)) s dn := ⟨mB.sV rfl, hs, hd, hW⟩
  cases hnt : o.2.1 with
  | true =>
    rw [hnt] at o2
    have eA : dgA P T o s = s := by
      show (if o.2.1 = true then s else dyT P T o.2.2.2.1 s T.1) = s
      rw [hnt]
      rfl
    rw [eA] at K73
    iterate 9 refine ws_s rfl ?_
    refine wp_le (t3) (rfl) (by first | omega | decide) (by first | omega | decide) (fun z => ?_) (fun z => ?_)
    · exact K73 _ _ hI0 rfl
    · repeat refine ws_s rfl ?_
      refine wp_bn o2 (fun q => by cases q) (fun _ => ?_)
      exact K73 _ _ hI0 rfl
  | false =>
    rw [hnt] at o2
    have eA : dgA P T o s = dyT P T o.2.2.2.1 s T.1 := by
      show (if o.2.1 = true then s else dyT P T o.2.2.2.1 s T.1) = _
      rw [hnt]
      rfl
    rw [eA] at K73
    iterate 5 refine ws_s rfl ?_
    refine wp_downX (X := ms_S) T.1 (fun k9 X => dyI S P bb X (dyT P T o.2.2.2.1 s k9) dn ∧ m_layers X = nI 0) (fun k9 X => [some (.ref 0), some (.int (nI bb)), some (.int (nI k9)), none]) (fun X => hM X tl) ?_ ?_ (sV S 64 (nI 0)) ⟨hI0, rfl⟩
    · rintro X1 ⟨x1, x2⟩
      have eh : X1.1 0 14 = nI T.1 := (x1.1.1 0 14 (Or.inr rfl)).trans t3
      repeat refine ws_s rfl ?_
      refine wp_le (eh) (rfl) (by first | omega | decide) (by first | omega | decide) (fun z => ?_) (fun z => absurd z (by omega))
      exact K73 X1 _ x1 x2
    · rintro k9 X1 hk9 ⟨x1, x2⟩ kn
      have eh : X1.1 0 14 = nI T.1 := (x1.1.1 0 14 (Or.inr rfl)).trans t3
      have hday := dyT_day P T o.2.2.2.1 s k9
      have hhc := hoOk_T (am := o.2.2.2.1) (fun t ht => ⟨(t5 t ht).2.1, (t5 t ht).2.2.2.1⟩) hho k9 (by omega)
      have edy : dyT P T o.2.2.2.1 s (k9 + 1) = dyT1 P T o.2.2.2.1 k9 (dyT P T o.2.2.2.1 s k9) := rfl
      generalize hcur : dyT P T o.2.2.2.1 s k9 = cur at x1 x2 edy hday hhc
      have hX1 := x1
      obtain ⟨y1, y2, y3, y4⟩ := x1
      obtain ⟨u1, u2, u3, u4, u5, u6⟩ := (mTD_mB y1 hT).2.2.2.2.1 k9 hk9
      have hO1 := mOP_mB y1 hO
      have K67 : ∀ (Y : ms_S), dyI S P bb Y (dyT P T o.2.2.2.1 s (k9 + 1)) dn → m_layers Y = nI 0 → wp G 7 M_X12_dayGoes fr n0 post 67 [some (.ref 0), some (.int (nI bb)), some (.int (nI k9)), none] [] (hM Y tl) := by
        intro Y a1 a2
        repeat refine ws_s rfl ?_
        refine ws_b rfl ?_
        exact wp_eqL (by rw [← nI_add k9 1]; rfl) (kn Y ⟨a1, a2⟩)
      repeat refine ws_s rfl ?_
      refine wp_le (eh) (rfl) (by first | omega | decide) (by first | omega | decide) (fun z => absurd z (by omega)) (fun z => ?_)
      repeat refine ws_s rfl ?_
      refine wp_bn (hO1.2.1.trans (by rw [hnt])) (fun _ => ?_) (fun q => by cases q)
      repeat refine ws_s rfl ?_
      refine ws_ld (k := k9) rfl (by first | rfl | (simp only [pk_mul, nI_add]; done)) (by omega) (by decide) (u5) ?_
      repeat refine ws_s rfl ?_
      refine ws_ld (k := bb) rfl (by first | rfl | (simp only [pk_mul, nI_add]; done)) (by omega) (by decide) (y2.2.2.2.2.1) ?_
      repeat refine ws_s rfl ?_
      refine wp_eq (rfl) (rfl) (by first | omega | decide) (by first | omega | decide) (fun hat => ?_) (fun hat => ?_)
      · repeat refine ws_s rfl ?_
        refine ws_ld (k := k9) rfl (by first | rfl | (simp only [pk_mul, nI_add]; done)) (by omega) (by decide) (u1) ?_
        repeat refine ws_s rfl ?_
        refine ws_ld (k := k9) rfl (by first | rfl | (simp only [pk_mul, nI_add]; done)) (by omega) (by decide) (u3) ?_
        have ct := c_tradesOne G fr X1 tl P cur bb (T.2.1 k9) (T.2.2.1 k9) (mPL_mB y1 hP) y2 hbb u2 u4 hhc
        rw [dec_bI hO1.2.2.2.1] at ct
        have edy2 : dyT1 P T o.2.2.2.1 k9 cur = (if trK P cur o.2.2.2.1 (T.2.1 k9) (T.2.2.1 k9) = true then trS cur (T.2.1 k9) (T.2.2.1 k9) else rfS cur) := by
          unfold dyT1
          rw [if_pos hat]
        refine wp_cV rfl rfl o_X12_tradesOne v_X12_tradesOne (ct) rfl rfl rfl (Nat.le_of_ble_eq_true rfl) (by decide) ?_
        rintro r h' ⟨Y2, rfl, hm2, hs2, hw2, rfl⟩
        have hI2 := dyI.st hX1 hm2 hs2 ((congrFun (congrFun hw2 0) 57).trans y3)
        have hl2 : m_layers Y2 = nI 0 := (hm2.1 0 64 (Or.inr rfl)).trans x2
        repeat refine ws_s rfl ?_
        refine wp_bn rfl (fun hf => ?_) (fun hf => ?_)
        · rw [if_neg (by rw [hf]; decide)] at hI2
          repeat refine ws_s rfl ?_
          refine ws_ld (k := bb) rfl (by first | rfl | (simp only [pk_mul, nI_add]; done)) (by omega) (by decide) (hI2.2.1.2.2.2.1) ?_
          repeat refine ws_s rfl ?_
          refine ws_sa (k := bb) rfl (by first | rfl | (simp only [pk_mul, nI_add]; done)) (by omega) (by decide) (nI_add _ 1) ?_
          refine K67 _ ?_ hl2
          rw [edy, edy2, hf]
          exact hI2.re
        · refine K67 Y2 ?_ hl2
          rw [edy, edy2, if_pos hf]
          rw [if_pos hf] at hI2
          exact hI2
      · exact K67 X1 (by
          rw [edy]
          unfold dyT1
          rw [if_neg hat]
          exact hX1) x2
