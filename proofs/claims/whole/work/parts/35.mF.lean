/-! ===== the reference: who may hold, which ends join ===== -/
theorem heldN_congr {f g : Nat → Int32} {x : Int32} : ∀ {n : Nat}, (∀ i, i < n → f i = g i) → heldN f x n = heldN g x n
  | 0, _ => rfl
  | n + 1, h => by
    unfold heldN
    rw [heldN_congr (fun i hi => h i (by omega)), h n (by omega)]
/-- the seven names -/
def env (a b c d e f g : Nat) : Nat → Int64 := fun i => (nI (match i with | 0 => a | 1 => b | 2 => c | 3 => d | 4 => e | 5 => f | _ => g)).toInt64
abbrev absd (x y : Nat) : Nat := if x ≤ y then y - x else x - y
theorem apart_nI {x y : Nat} (hx : x < 2 ^ 31) (hy : y < 2 ^ 31) : (if nI x ≤ nI y then nI y - nI x else nI x - nI y) = nI (absd x y) := by
  unfold absd
  by_cases h : x ≤ y
  · rw [if_pos h, if_pos ((nI_leI hx hy).mpr h), pk_sub h]
  · rw [if_neg h, if_neg (fun q => h ((nI_leI hx hy).mp q)), pk_sub (by omega)]
/-- how many heir h holds -/
abbrev manyK (P : tPL) (s : tES) (h : Nat) : Nat := pop (heldN s.1 (nI h) P.1) 9
/-- an answer of a law as yes or no: an error is yes -/
abbrev yesL (v : Option Int64) : Bool := match v with | none => true | some x => decide (¬ x = 0)
abbrev envM (P : tPL) (s : tES) (h p : Nat) : Nat → Int64 := env (P.2.2.1 p) (P.2.2.2.1 p) (P.2.2.2.2.1 p) (absd (P.2.2.1 p) (P.2.2.2.1 p)) (manyK P s h) (s.2.1 h) s.2.2.2.2
/-- heir h may hold piece p -/
def mayK (P : tPL) (s : tES) (am : Bool) (h p : Nat) : Bool := !P.2.2.2.2.2.1 1 || am || yesL (P.2.2.2.2.2.2 1 (envM P s h p))
theorem lh_names {S : ms_S} {P : tPL} {s : tES} {bb hh : Nat} {x y z w : Int32} {a b c d : Nat} (hs : mES S bb s) (hhh : hh < 5) (hn : P.1 ≤ 9) (ex : x = nI a) (ey : y = nI b) (ez : z = nI c) (ew : w = nI d) : ∀ i, i < 7 → a_names (lhS (sL (sL (sL (sL (sL (sL S 24 0 x.toInt64) 24 1 y.toInt64) 24 2 z.toInt64) 24 3 w.toInt64) 24 4 (lN 0)) 24 5 (lN 0)) bb hh P.1) i = env a b c d (manyK P s hh) (s.2.1 hh) s.2.2.2.2 i := by
  intro i hi
  subst ex ey ez ew
  have e1 : heldN (fun p => a_holder S (9 * bb + p)) (nI hh) P.1 = heldN s.1 (nI hh) P.1 := heldN_congr (fun i hi => hs.1 i (by omega))
  have e2 := (hs.2.1 hh hhh).1
  have e3 := hs.2.2.2.2.1
  match i, hi with
  | 0, _ => rfl
  | 1, _ => rfl
  | 2, _ => rfl
  | 3, _ => rfl
  | 4, _ =>
    show (nI (pop (heldN (fun p => a_holder S (9 * bb + p)) (nI hh) P.1) 9)).toInt64 = _
    rw [e1]
    rfl
  | 5, _ =>
    show (a_gold S (5 * bb + hh)).toInt64 = _
    rw [e2]
    rfl
  | 6, _ =>
    show (a_day S bb).toInt64 = _
    rw [e3]
    rfl
  | n + 7, h => omega
theorem lhS_mE (S : ms_S) (bb hh n : Nat) : mE fL aL S (lhS S bb hh n) := ((mE.sL rfl).tr (mE.sL rfl)).tr (mE.sL rfl)
theorem lnS_mE (S : ms_S) (x y z w : Int64) : mE fL aL S (sL (sL (sL (sL (sL (sL S 24 0 x) 24 1 y) 24 2 z) 24 3 w) 24 4 (lN 0)) 24 5 (lN 0)) := (((((mE.sL rfl).tr (mE.sL rfl)).tr (mE.sL rfl)).tr (mE.sL rfl)).tr (mE.sL rfl)).tr (mE.sL rfl)
set_option maxRecDepth 100000 in
set_option maxHeartbeats 4000000 in
theorem c_may (G : ab_G) (fr : Bool) (S : ms_S) (tl : ab_H) (P : tPL) (s : tES) (bb hh p9 : Nat) (hP : mPL S P) (hs : mES S bb s) (hbb : bb < 2) (hhh : hh < 5) (hp9 : p9 < P.1) :
    ab_CT G 4 M_X12_may fr [.ref 0, .int (nI bb), .int (nI hh), .int (nI p9)] (hM S tl) 0 0 (fun r h' => ∃ S', h' = hM S' tl ∧ mE fL aL S S' ∧ r = some (.int (bI (mayK P s (decide (¬ m_allMay S = 0)) hh p9)))) := by
  refine wp_ct o_X12_may (Nat.le_of_ble_eq_true rfl) ?_
  obtain ⟨q1, q2, q3, q4, q5, q6⟩ := id hP
  obtain ⟨o1, o2, o3, o4, o5, o6⟩ := q5 p9 hp9
  obtain ⟨t1, t2⟩ := q6 1 (by omega)
  have ep : (nI p9).toNatClampNeg = p9 := nI_clamp (by omega)
  have gp : vp_in (nI p9) 18 := vp_in_nI (by omega) (by decide)
  have E1 : S.2.2.2.1 6 (nI p9).toNatClampNeg = nI (P.2.2.1 p9) := by rw [ep]; exact o1
  have E2 : S.2.2.2.1 7 (nI p9).toNatClampNeg = nI (P.2.2.2.1 p9) := by rw [ep]; exact o3
  have E3 : S.2.2.2.1 8 (nI p9).toNatClampNeg = nI (P.2.2.2.2.1 p9) := by rw [ep]; exact o5
  generalize ham : decide (¬ m_allMay S = 0) = am
  repeat refine ws_s rfl ?_
  refine ws_g rfl (vp_in_nI (by decide) (by decide)) ?_
  rw [show S.2.2.2.1 16 (nI 1).toNatClampNeg = bI (P.2.2.2.2.2.1 1) from t1]
  cases ht : P.2.2.2.2.2.1 1 with
  | false =>
    repeat refine ws_s rfl ?_
    exact wp_ri rfl rfl rfl ⟨S, rfl, mE.rf, by unfold mayK; rw [ht]; rfl⟩
  | true =>
    repeat refine ws_s rfl ?_
    refine wp_ite (fun hq => ?_) (fun hq => ?_)
    · have hb : am = false := by rw [← ham]; exact decide_eq_false (fun z => z hq)
      subst hb
      repeat refine ws_s rfl ?_
      refine ws_g rfl gp ?_
      rw [E1]
      repeat refine ws_s rfl ?_
      refine ws_g rfl gp ?_
      rw [E2]
      repeat refine ws_s rfl ?_
      refine ws_g rfl gp ?_
      rw [E3]
      repeat refine ws_s rfl ?_
      refine ws_g rfl gp ?_
      rw [E1]
      repeat refine ws_s rfl ?_
      refine ws_g rfl gp ?_
      rw [E2]
      refine wp_S (c_apartOf G fr (nI (P.2.2.1 p9)) (nI (P.2.2.2.1 p9)) (hM S tl)) rfl rfl o_X12_apartOf s_X12_apartOf rfl rfl (by show (1 + (1 + (1 + (1 + 0)))) ≤ 8; decide) (by decide) ?_
      rw [apart_nI (by omega) (by omega)]
      refine wp_V (c_layNames G fr S tl (nI (P.2.2.1 p9)) (nI (P.2.2.2.1 p9)) (nI (P.2.2.2.2.1 p9)) (nI (absd (P.2.2.1 p9) (P.2.2.2.1 p9)))) rfl rfl o_X12_layNames v_X12_layNames rfl rfl rfl (by decide) (by decide) ?_
      repeat refine ws_s rfl ?_
      refine wp_V (c_layHeir G fr _ tl bb hh P.1 hbb hhh q1 q3) rfl rfl o_X12_layHeir v_X12_layHeir rfl rfl rfl (by decide) (by decide) ?_
      repeat refine ws_s rfl ?_
      have hm := (lnS_mE S (nI (P.2.2.1 p9)).toInt64 (nI (P.2.2.2.1 p9)).toInt64 (nI (P.2.2.2.2.1 p9)).toInt64 (nI (absd (P.2.2.1 p9) (P.2.2.2.1 p9))).toInt64).tr (lhS_mE _ bb hh P.1)
      refine wp_cV rfl rfl o_X12_lawOf v_X12_lawOf (c_law G fr _ tl 1 (P.2.2.2.2.2.2 1) (by decide) (lwE_mE hm.LR (t2 ht)) (envM P s hh p9) (lh_names hs hhh q1 rfl rfl rfl rfl)) rfl rfl rfl (by decide) (by decide) ?_
      rintro r h' ⟨S', rfl, hm2, her, rfl⟩
      have hmm := hm.tr hm2
      repeat refine ws_s rfl ?_
      rw [show S'.1 0 51 = _ from her]
      cases hv : P.2.2.2.2.2.2 1 (envM P s hh p9) with
      | none =>
        repeat refine ws_s rfl ?_
        exact wp_ri rfl rfl rfl ⟨S', rfl, hmm, by unfold mayK; rw [ht, hv]; rfl⟩
      | some v =>
        repeat refine ws_s rfl ?_
        refine wp_ite (fun hq2 => ?_) (fun hq2 => ?_)
        · have hb : decide (¬ v = 0) = false := decide_eq_false (fun z => z ((lg_cmp_eq _ _).mp hq2))
          repeat refine ws_s rfl ?_
          exact wp_ri rfl rfl rfl ⟨S', rfl, hmm, by unfold mayK; rw [ht, hv]; show _ = some (Value.int (bI (decide (¬ v = 0)))); rw [hb]; rfl⟩
        · have hb : decide (¬ v = 0) = true := decide_eq_true (mt (lg_cmp_eq _ _).mpr hq2)
          repeat refine ws_s rfl ?_
          exact wp_ri rfl rfl rfl ⟨S', rfl, hmm, by unfold mayK; rw [ht, hv]; show _ = some (Value.int (bI (decide (¬ v = 0)))); rw [hb]; rfl⟩
    · have hb : am = true := by rw [← ham]; exact decide_eq_true hq
      subst hb
      repeat refine ws_s rfl ?_
      exact wp_ri rfl rfl rfl ⟨S, rfl, mE.rf, by unfold mayK; rw [ht]; rfl⟩
