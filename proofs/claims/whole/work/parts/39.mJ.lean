/-! ===== the reference: the dearest row ===== -/
theorem neg_toInt {k : Nat} (hk : k < 2 ^ 31) : (-(nI k)).toInt = -(k : Int) := sb_negT hk
theorem neg_lt {k n : Nat} (hk : 0 < k) (hk2 : k < 2 ^ 31) (hn : n < 2 ^ 31) : -(nI k) < nI n := by
  rw [Int32.lt_iff_toInt_lt, neg_toInt hk2, nI_toInt hn]
  omega
theorem neg_neg {k : Nat} (hk : 0 < k) (hk2 : k < 2 ^ 31) : -(nI k) < 0 := by
  rw [Int32.lt_iff_toInt_lt, neg_toInt hk2]
  show -(k : Int) < 0
  omega
theorem neg_ne {k n : Nat} (hk : 0 < k) (hk2 : k < 2 ^ 31) (hn : n < 2 ^ 31) : ¬ -(nI k) = nI n := by
  intro h
  have := congrArg Int32.toInt h
  rw [neg_toInt hk2, nI_toInt hn] at this
  omega
def fD : Nat → Bool := fun k => Nat.beq k 51 || Nat.beq k 69 || Nat.beq k 70 || Nat.beq k 71
theorem fLD (k : Nat) (h : fD k = false) : fL k = false := by
  unfold fD at h
  unfold fL
  simp only [Bool.or_eq_false_iff] at h
  exact h.1.1.1
theorem fDR (k : Nat) (h : fR k = false) : fD k = false := by
  unfold fR at h
  unfold fD
  simp only [Bool.or_eq_false_iff] at h ⊢
  exact ⟨⟨⟨h.1.1.1.1, h.1.1.2⟩, h.1.2⟩, h.2⟩
theorem mE.LD {S S' : ms_S} (h : mE fL aL S S') : mE fD aL S S' := h.mono fLD (fun _ q => q)
theorem mE.DR {S S' : ms_S} (h : mE fD aL S S') : mE fR aR S S' := h.mono fDR aLR
/-- worth in sum, pieces of two like ends -/
def wsN (P : tPL) (set : Nat) : Nat → Nat
  | 0 => 0
  | p + 1 => wsN P set p + (if set.testBit p = true then P.2.2.2.2.1 p else 0)
def dbN (P : tPL) (set : Nat) : Nat → Nat
  | 0 => 0
  | p + 1 => dbN P set p + (if set.testBit p = true then (if P.2.2.1 p = P.2.2.2.1 p then 1 else 0) else 0)
theorem wsN_le (P : tPL) (set : Nat) (hw : ∀ p, p < P.1 → P.2.2.2.2.1 p ≤ 99) : ∀ p, p ≤ P.1 → wsN P set p ≤ 99 * p
  | 0, _ => Nat.le_refl _
  | p + 1, h => by
    have := wsN_le P set hw p (by omega)
    have h2 := hw p (by omega)
    unfold wsN
    split <;> omega
theorem dbN_le (P : tPL) (set : Nat) : ∀ p, dbN P set p ≤ p
  | 0 => Nat.le_refl _
  | p + 1 => by
    have := dbN_le P set p
    unfold dbN
    split
    · split <;> omega
    · omega
/-- a value cut to 0 .. 9999 -/
def cutK (v : Int64) : Nat := if v < 0 then 0 else if 9999 < v then 9999 else v.toInt.toNat
theorem cutK_le (v : Int64) : cutK v ≤ 9999 := by
  unfold cutK
  split
  · omega
  · split
    · omega
    · rename_i h1 h2
      have h3 := Int64.le_iff_toInt_le.mp (Int64.not_lt.mp h2)
      have : (9999 : Int64).toInt = 9999 := by decide
      omega
theorem cutK_i {v : Int64} (h1 : ¬ v < 0) (h2 : ¬ 9999 < v) : v.toInt32 = nI (cutK v) := by
  have h3 := Int64.le_iff_toInt_le.mp (Int64.not_lt.mp h2)
  have h4 := Int64.le_iff_toInt_le.mp (Int64.not_lt.mp h1)
  have e1 : (9999 : Int64).toInt = 9999 := by decide
  have e2 : (0 : Int64).toInt = 0 := by decide
  unfold cutK
  rw [if_neg h1, if_neg h2]
  obtain ⟨n, hn, rfl⟩ := pk_lOf h1
  rw [pk_lT hn] at h3 h4 ⊢
  rw [lN_i]
  rfl
/-- what a row of all that heir h holds is worth, by its first and its last end -/
def wrK (P : tPL) (s : tES) (h f e : Nat) : Nat := if P.2.2.2.2.2.1 2 = true then (match P.2.2.2.2.2.2 2 (env f e (wsN P (heldN s.1 (nI h) P.1) P.1) (dbN P (heldN s.1 (nI h) P.1) P.1) (manyK P s h) (s.2.1 h) s.2.2.2.2) with | none => wsN P (heldN s.1 (nI h) P.1) P.1 | some v => cutK v) else wsN P (heldN s.1 (nI h) P.1) P.1
/-- the search: worth, first end, last end of the dearest so far -/
def dst (P : tPL) (s : tES) (jb : Nat → Nat) (h f e : Nat) (acc : Option (Nat × Nat × Nat)) : Option (Nat × Nat × Nat) := if (rowT P jb (heldN s.1 (nI h) P.1) f).testBit e = true then (match acc with | none => some (wrK P s h f e, f, e) | some q => if q.1 < wrK P s h f e then some (wrK P s h f e, f, e) else some q) else acc
def dIn (P : tPL) (s : tES) (jb : Nat → Nat) (h f : Nat) (acc : Option (Nat × Nat × Nat)) : Nat → Option (Nat × Nat × Nat)
  | 0 => acc
  | e + 1 => dst P s jb h f e (dIn P s jb h f acc e)
def dOut (P : tPL) (s : tES) (jb : Nat → Nat) (h : Nat) : Nat → Option (Nat × Nat × Nat)
  | 0 => none
  | f + 1 => dIn P s jb h f (dOut P s jb h f) 7
/-- the fields dear, dearFirst, dearLast hold it -/
def dRep (S : ms_S) : Option (Nat × Nat × Nat) → Prop
  | none => m_dear S = -(nI 1)
  | some q => m_dear S = nI q.1 ∧ m_dearFirst S = nI q.2.1 ∧ m_dearLast S = nI q.2.2 ∧ q.1 ≤ 9999
theorem dRep_mE {S S' : ms_S} {acc : Option (Nat × Nat × Nat)} (h : mE fL aL S S') (hd : dRep S acc) : dRep S' acc := by
  cases acc with
  | none => exact (h.1 0 69 (Or.inr rfl)).trans hd
  | some q => exact ⟨(h.1 0 69 (Or.inr rfl)).trans hd.1, (h.1 0 70 (Or.inr rfl)).trans hd.2.1, (h.1 0 71 (Or.inr rfl)).trans hd.2.2.1, hd.2.2.2⟩
set_option maxRecDepth 100000 in
set_option maxHeartbeats 4000000 in
theorem c_isDear (G : ab_G) (fr : Bool) (S : ms_S) (tl : ab_H) (P : tPL) (s : tES) (jb : Nat → Nat) (bb hh : Nat) (hP : mPL S P) (hs : mES S bb s) (hbb : bb < 2) (hhh : hh < 5) (hT : mRT S P jb) :
    ab_CT G 4 M_X12_isDear fr [.ref 0, .int (nI bb), .int (nI hh)] (hM S tl) 0 0 (fun r h' => ∃ S', h' = hM S' tl ∧ mE fD aL S S' ∧ dRep S' (dOut P s jb hh 7) ∧ r = some (.int (bI (dOut P s jb hh 7).isSome))) := by
  refine wp_ct o_X12_isDear (Nat.le_of_ble_eq_true rfl) ?_
  generalize hpost : (fun (r : Option Value) (h' : ab_H) => ∃ S', h' = hM S' tl ∧ mE fD aL S S' ∧ dRep S' (dOut P s jb hh 7) ∧ r = some (.int (bI (dOut P s jb hh 7).isSome))) = post
  generalize (hM S tl).length = n0
  obtain ⟨q1, q2, q3, q4, q5, q6⟩ := id hP
  have hp512 : 2 ^ P.1 ≤ 512 := Nat.pow_le_pow_right (by omega) q1
  have eh : heldN (fun p => a_holder S (9 * bb + p)) (nI hh) P.1 = heldN s.1 (nI hh) P.1 := heldN_congr (fun i hi => hs.1 i (by omega))
  have hset := heldN_lt s.1 (nI hh) P.1
  have hwl := wsN_le P (heldN s.1 (nI hh) P.1) (fun p hp => (q5 p hp).2.2.2.2.2) P.1 (Nat.le_refl _)
  have hdl := dbN_le P (heldN s.1 (nI hh) P.1) P.1
  have ho7 : ∀ p, p < P.1 → P.2.2.1 p < 7 ∧ P.2.2.2.1 p < 7 := fun p hp => ⟨(q5 p hp).2.1, (q5 p hp).2.2.2.1⟩
  have hwk : ∀ f e, wrK P s hh f e ≤ 9999 := by
    intro f e
    unfold wrK
    split
    · split
      · omega
      · exact cutK_le _
    · omega
  generalize hSet : heldN s.1 (nI hh) P.1 = set at eh hset hwl hdl
  repeat refine ws_s rfl ?_
  refine wp_V (c_heldBy G fr S tl bb P.1 (nI hh) hbb q1 q3) rfl rfl o_X12_heldBy v_X12_heldBy rfl rfl rfl (by decide) (by decide) ?_
  rw [eh]
  iterate 7 refine ws_s rfl ?_
  -- worth and doubles
  refine wp_down P.1 (fun p => [some (.ref 0), some (.int (nI bb)), some (.int (nI hh)), some (.int (nI set)), some (.int (nI (wsN P set p))), some (.int (nI (dbN P set p))), some (.int (nI p)), none, none, none, none]) (fun _ => hM S tl) ?_ (fun p hp k => ?_)
  · repeat refine ws_s rfl ?_
    refine wp_ite (fun hq => ?_) (fun hq => absurd (by show m_pieces S ≤ nI P.1; rw [q3]; exact nI_le (Nat.le_refl _) (by omega)) hq)
    iterate 5 refine ws_s rfl ?_
    -- the search
    refine wp_downX (X := ms_S × Option Value × Option Value × Option Value × Option Value) 7 (fun f X => mE fD aL S X.1 ∧ dRep X.1 (dOut P s jb hh f)) (fun f X => [some (.ref 0), some (.int (nI bb)), some (.int (nI hh)), some (.int (nI set)), some (.int (nI (wsN P set P.1))), some (.int (nI (dbN P set P.1))), some (.int (nI f)), X.2.1, X.2.2.1, X.2.2.2.1, X.2.2.2.2]) (fun X => hM X.1 tl) ?_ ?_ (sV S 69 (-(nI 1)), none, none, none, none) ⟨mE.sV rfl, rfl⟩
    · rintro ⟨S1, d7, d8, d9, d10⟩ ⟨hm, hd⟩
      dsimp only at hm hd ⊢
      iterate 6 refine ws_s rfl ?_
      cases hacc : dOut P s jb hh 7 with
      | none =>
        rw [hacc] at hd
        refine wp_ite (fun hq2 => ?_) (fun hq2 => absurd (by show S1.1 0 69 < 0; rw [show S1.1 0 69 = -(nI 1) from hd]; exact neg_neg (by decide) (by decide)) hq2)
        repeat refine ws_s rfl ?_
        refine wp_ri rfl rfl rfl ?_
        rw [← hpost]
        exact ⟨S1, rfl, hm, by rw [hacc]; exact hd, by rw [hacc]; rfl⟩
      | some q =>
        rw [hacc] at hd
        refine wp_ite (fun hq2 => absurd (show S1.1 0 69 < 0 from hq2) (by rw [show S1.1 0 69 = nI q.1 from hd.1]; exact nI_pos (by have := hd.2.2.2; omega))) (fun hq2 => ?_)
        repeat refine ws_s rfl ?_
        refine wp_ri rfl rfl rfl ?_
        rw [← hpost]
        exact ⟨S1, rfl, hm, by rw [hacc]; exact hd, by rw [hacc]; rfl⟩
    · rintro f ⟨S1, d7, d8, d9, d10⟩ hf ⟨hm, hd⟩ kf
      dsimp only at hm hd ⊢
      repeat refine ws_s rfl ?_
      refine wp_ite (fun hq2 => absurd hq2 (nI_ge hf (by decide))) (fun hq2 => ?_)
      iterate 2 refine ws_s rfl ?_
      refine wp_downX (X := ms_S × Option Value × Option Value × Option Value) 7 (fun e X => mE fD aL S X.1 ∧ dRep X.1 (dIn P s jb hh f (dOut P s jb hh f) e)) (fun e X => [some (.ref 0), some (.int (nI bb)), some (.int (nI hh)), some (.int (nI set)), some (.int (nI (wsN P set P.1))), some (.int (nI (dbN P set P.1))), some (.int (nI f)), some (.int (nI e)), X.2.1, X.2.2.1, X.2.2.2]) (fun X => hM X.1 tl) ?_ ?_ (S1, d8, d9, d10) ⟨hm, hd⟩
      · rintro ⟨S2, g8, g9, g10⟩ ⟨hm2, hd2⟩
        dsimp only at hm2 hd2 ⊢
        repeat refine ws_s rfl ?_
        refine ws_b rfl ?_
        exact wp_eqL (by rw [← nI_add f 1]; rfl) (kf (S2, some (.int (nI 7)), g8, g9, g10) ⟨hm2, hd2⟩)
      · rintro e ⟨S2, g8, g9, g10⟩ he ⟨hm2, hd2⟩ ke
        dsimp only at hm2 hd2 ⊢
        have ei : nI 7 * nI set + nI f = nI (7 * set + f) := by rw [pk_mul, nI_add]
        have eT : S2.2.2.2.1 32 (7 * set + f) = nI (rowT P jb set f) := (congrFun (hm2.2.2.2.1 32 rfl) _).trans (hT set hset f hf)
        have hTl := rowT_lt P jb set f ho7
        have K241 : ∀ (S3 : ms_S) (k8 k9 k10 : Option Value), mE fD aL S S3 → dRep S3 (dIn P s jb hh f (dOut P s jb hh f) (e + 1)) → wp G 4 M_X12_isDear fr n0 post 241 [some (.ref 0), some (.int (nI bb)), some (.int (nI hh)), some (.int (nI set)), some (.int (nI (wsN P set P.1))), some (.int (nI (dbN P set P.1))), some (.int (nI f)), some (.int (nI e)), k8, k9, k10] [] (hM S3 tl) := by
          intro S3 k8 k9 k10 hm3 hd3
          repeat refine ws_s rfl ?_
          refine ws_b rfl ?_
          exact wp_eqL (by rw [← nI_add e 1]; rfl) (ke (S3, k8, k9, k10) ⟨hm3, hd3⟩)
        repeat refine ws_s rfl ?_
        refine wp_ite (fun hq3 => absurd hq3 (nI_ge he (by decide))) (fun hq3 => ?_)
        repeat refine ws_s rfl ?_
        refine ws_g rfl (by show vp_in (nI 7 * nI set + nI f) 3584; rw [ei]; exact vp_in_nI (by omega) (by decide)) ?_
        rw [ei, nI_clamp (by omega), eT]
        iterate 1 refine ws_s rfl ?_
        refine wp_S (c_isOfN G fr (hM S2 tl) (rowT P jb set f) e (by omega) (by omega)) rfl rfl o_X12_isOf s_X12_isOf rfl rfl (by decide) (by decide) ?_
        cases hb : (rowT P jb set f).testBit e with
        | false =>
          iterate 2 refine ws_s rfl ?_
          refine K241 S2 _ _ _ hm2 ?_
          show dRep S2 (dst P s jb hh f e _)
          unfold dst
          rw [hSet, if_neg (by rw [hb]; decide)]
          exact hd2
        | true =>
          have K211 : ∀ (S3 : ms_S) (k9 k10 : Option Value), mE fD aL S S3 → dRep S3 (dIn P s jb hh f (dOut P s jb hh f) e) → wp G 4 M_X12_isDear fr n0 post 211 [some (.ref 0), some (.int (nI bb)), some (.int (nI hh)), some (.int (nI set)), some (.int (nI (wsN P set P.1))), some (.int (nI (dbN P set P.1))), some (.int (nI f)), some (.int (nI e)), some (.int (nI (wrK P s hh f e))), k9, k10] [] (hM S3 tl) := by
            intro S3 k9 k10 hm3 hd3
            have hw9 := hwk f e
            iterate 4 refine ws_s rfl ?_
            cases hacc : dIn P s jb hh f (dOut P s jb hh f) e with
            | none =>
              rw [hacc] at hd3
              refine wp_ite (fun hq4 => ?_) (fun hq4 => absurd (by show S3.1 0 69 < nI (wrK P s hh f e); rw [show S3.1 0 69 = -(nI 1) from hd3]; exact neg_lt (by decide) (by decide) (by omega)) hq4)
              iterate 9 refine ws_s rfl ?_
              refine K241 _ _ _ _ (((hm3.tr (mE.sV rfl)).tr (mE.sV rfl)).tr (mE.sV rfl)) ?_
              show dRep _ (dst P s jb hh f e _)
              unfold dst
              rw [hSet, if_pos hb, hacc]
              exact ⟨rfl, rfl, rfl, hw9⟩
            | some q =>
              rw [hacc] at hd3
              have hq9 := hd3.2.2.2
              refine wp_ite (fun hq4 => ?_) (fun hq4 => ?_)
              · have hlt : q.1 < wrK P s hh f e := by
                  have : S3.1 0 69 < nI (wrK P s hh f e) := hq4
                  rw [show S3.1 0 69 = nI q.1 from hd3.1] at this
                  exact (nI_ltI (by omega) (by omega)).mp this
                iterate 9 refine ws_s rfl ?_
                refine K241 _ _ _ _ (((hm3.tr (mE.sV rfl)).tr (mE.sV rfl)).tr (mE.sV rfl)) ?_
                show dRep _ (dst P s jb hh f e _)
                unfold dst
                rw [hSet, if_pos hb, hacc]
                dsimp only
                rw [if_pos hlt]
                exact ⟨rfl, rfl, rfl, hw9⟩
              · have hlt : ¬ q.1 < wrK P s hh f e := fun z => hq4 (by
                  show S3.1 0 69 < nI (wrK P s hh f e)
                  rw [show S3.1 0 69 = nI q.1 from hd3.1]
                  exact (nI_ltI (by omega) (by omega)).mpr z)
                iterate 1 refine ws_s rfl ?_
                refine K241 S3 _ _ _ hm3 ?_
                show dRep _ (dst P s jb hh f e _)
                unfold dst
                rw [hSet, if_pos hb, hacc]
                dsimp only
                rw [if_neg hlt]
                exact hd3
          obtain ⟨t1, t2⟩ := (mPL_mE hm2.DR hP).2.2.2.2.2 2 (by omega)
          repeat refine ws_s rfl ?_
          refine ws_g rfl (vp_in_nI (by decide) (by decide)) ?_
          rw [show S2.2.2.2.1 16 (nI 2).toNatClampNeg = bI (P.2.2.2.2.2.1 2) from t1]
          cases ht : P.2.2.2.2.2.1 2 with
          | false =>
            have ew : wrK P s hh f e = wsN P set P.1 := by unfold wrK; rw [if_neg (by rw [ht]; decide), hSet]
            iterate 1 refine ws_s rfl ?_
            have := K211 S2 g9 g10 hm2 hd2
            rw [ew] at this
            exact this
          | true =>
            repeat refine ws_s rfl ?_
            refine wp_V (c_layNames G fr S2 tl (nI f) (nI e) (nI (wsN P set P.1)) (nI (dbN P set P.1))) rfl rfl o_X12_layNames v_X12_layNames rfl rfl rfl (by decide) (by decide) ?_
            repeat refine ws_s rfl ?_
            have hP2 := mPL_mE hm2.DR hP
            have hs2 := mES_mE hm2.DR hs
            refine wp_V (c_layHeir G fr _ tl bb hh P.1 hbb hhh q1 hP2.2.2.1) rfl rfl o_X12_layHeir v_X12_layHeir rfl rfl rfl (by decide) (by decide) ?_
            repeat refine ws_s rfl ?_
            have hm3 := (lnS_mE S2 (nI f).toInt64 (nI e).toInt64 (nI (wsN P set P.1)).toInt64 (nI (dbN P set P.1)).toInt64).tr (lhS_mE _ bb hh P.1)
            refine wp_cV rfl rfl o_X12_lawOf v_X12_lawOf (c_law G fr _ tl 2 (P.2.2.2.2.2.2 2) (by decide) (lwE_mE hm3.LR (t2 ht)) (env f e (wsN P set P.1) (dbN P set P.1) (manyK P s hh) (s.2.1 hh) s.2.2.2.2) (lh_names hs2 hhh q1 rfl rfl rfl rfl)) rfl rfl rfl (by decide) (by decide) ?_
            rintro r h' ⟨S3, rfl, hm4, her, rfl⟩
            have hm5 := hm3.tr hm4
            have hm6 : mE fD aL S S3 := hm2.tr hm5.LD
            have hd3 := dRep_mE hm5 hd2
            repeat refine ws_s rfl ?_
            rw [show S3.1 0 51 = _ from her]
            cases hv : P.2.2.2.2.2.2 2 (env f e (wsN P set P.1) (dbN P set P.1) (manyK P s hh) (s.2.1 hh) s.2.2.2.2) with
            | none =>
              have ew : wrK P s hh f e = wsN P set P.1 := by unfold wrK; rw [if_pos ht, hSet, hv]
              iterate 3 refine ws_s rfl ?_
              have K := fun k9 k10 => K211 S3 k9 k10 hm6 hd3
              rw [ew] at K
              exact K _ _
            | some v =>
              have ew : wrK P s hh f e = cutK v := by unfold wrK; rw [if_pos ht, hSet, hv]
              have K := fun k9 k10 => K211 S3 k9 k10 hm6 hd3
              rw [ew] at K
              repeat refine ws_s rfl ?_
              refine wp_ite (fun hq4 => ?_) (fun hq4 => ?_)
              · have hv0 : ¬ v < 0 := Int64.not_lt.mpr ((lg_cmp_ge _ _).mp hq4)
                repeat refine ws_s rfl ?_
                refine wp_ite (fun hq5 => ?_) (fun hq5 => ?_)
                · have hv9 : ¬ 9999 < v := Int64.not_lt.mpr ((lg_cmp_le _ _).mp hq5)
                  iterate 3 refine ws_s rfl ?_
                  rw [← cutK_i hv0 hv9] at K
                  exact K _ _
                · have hv9 : 9999 < v := Int64.not_le.mp (mt (lg_cmp_le _ _).mpr hq5)
                  iterate 3 refine ws_s rfl ?_
                  have ec : cutK v = 9999 := by unfold cutK; rw [if_neg hv0, if_pos hv9]
                  rw [ec] at K
                  exact K _ _
              · have hv0 : v < 0 := Int64.not_le.mp (mt (lg_cmp_ge _ _).mpr hq4)
                iterate 3 refine ws_s rfl ?_
                have ec : cutK v = 0 := by unfold cutK; rw [if_pos hv0]
                rw [ec] at K
                exact K _ _
  · obtain ⟨o1, o2, o3, o4, o5, o6⟩ := q5 p hp
    have ep : (nI p).toNatClampNeg = p := nI_clamp (by omega)
    have gp : vp_in (nI p) 18 := vp_in_nI (by omega) (by decide)
    have E1 : S.2.2.2.1 6 (nI p).toNatClampNeg = nI (P.2.2.1 p) := by rw [ep]; exact o1
    have E2 : S.2.2.2.1 7 (nI p).toNatClampNeg = nI (P.2.2.2.1 p) := by rw [ep]; exact o3
    have E3 : S.2.2.2.1 8 (nI p).toNatClampNeg = nI (P.2.2.2.2.1 p) := by rw [ep]; exact o5
    have K76 : ∀ v w : Int32, v = nI (wsN P set (p + 1)) → w = nI (dbN P set (p + 1)) → wp G 4 M_X12_isDear fr n0 post 76 [some (.ref 0), some (.int (nI bb)), some (.int (nI hh)), some (.int (nI set)), some (.int v), some (.int w), some (.int (nI p)), none, none, none, none] [] (hM S tl) := by
      intro v w hv hw
      subst hv hw
      repeat refine ws_s rfl ?_
      refine ws_b rfl ?_
      exact wp_eqL (by rw [← nI_add p 1]; rfl) k
    repeat refine ws_s rfl ?_
    refine wp_ite (fun hq => absurd hq (by show ¬ m_pieces S ≤ nI p; rw [q3]; exact nI_ge (by omega) (by omega))) (fun hq => ?_)
    repeat refine ws_s rfl ?_
    refine wp_S (c_isOfN G fr (hM S tl) set p (by omega) (by omega)) rfl rfl o_X12_isOf s_X12_isOf rfl rfl (by decide) (by decide) ?_
    cases hb : set.testBit p with
    | false =>
      iterate 2 refine ws_s rfl ?_
      exact K76 _ _ (by show _ = nI (_ + (if set.testBit p = true then _ else 0)); rw [if_neg (by rw [hb]; decide)]; rfl) (by show _ = nI (_ + (if set.testBit p = true then _ else 0)); rw [if_neg (by rw [hb]; decide)]; rfl)
    | true =>
      repeat refine ws_s rfl ?_
      refine ws_g rfl gp ?_
      rw [E3]
      repeat refine ws_s rfl ?_
      refine ws_g rfl gp ?_
      rw [E1]
      repeat refine ws_s rfl ?_
      refine ws_g rfl gp ?_
      rw [E2]
      iterate 1 refine ws_s rfl ?_
      refine wp_ite (fun hq2 => ?_) (fun hq2 => ?_)
      · have he : P.2.2.1 p = P.2.2.2.1 p := (nI_eq (by omega) (by omega)).mp hq2
        iterate 4 refine ws_s rfl ?_
        exact K76 _ _ (by rw [nI_add]; show _ = nI (_ + (if set.testBit p = true then _ else 0)); rw [if_pos hb]) (by rw [nI_add]; show _ = nI (_ + (if set.testBit p = true then (if P.2.2.1 p = P.2.2.2.1 p then 1 else 0) else 0)); rw [if_pos hb, if_pos he])
      · have he : ¬ P.2.2.1 p = P.2.2.2.1 p := fun z => hq2 (by rw [z])
        iterate 3 refine ws_s rfl ?_
        exact K76 _ _ (by rw [nI_add]; show _ = nI (_ + (if set.testBit p = true then _ else 0)); rw [if_pos hb]) (by rw [nI_add]; show _ = nI (_ + (if set.testBit p = true then (if P.2.2.1 p = P.2.2.2.1 p then 1 else 0) else 0)); rw [if_pos hb, if_neg he])
