/-! ===== the program: the dearest row ===== -/
theorem cut_l (v : Int64) : (if (if v < (9999 : Int64) then v else (9999 : Int64)) < lN 0 then lN 0 else (if v < (9999 : Int64) then v else (9999 : Int64))).toInt32 = nI (cutK v) := by
  unfold cutK
  by_cases h0 : v < 0
  · have h1 : v < (9999 : Int64) := by
      rw [lt_i] at h0 ⊢
      exact Int.lt_trans h0 (by decide)
    rw [if_pos h1, if_pos (show v < lN 0 from h0), if_pos h0]
    exact lN_i 0
  · rw [if_neg h0]
    obtain ⟨k, hk, rfl⟩ := pk_lOf h0
    by_cases h1 : lN k < (9999 : Int64)
    · have h2 : k < 9999 := (pk_lLT hk (by decide)).mp h1
      rw [if_pos h1, if_neg (show ¬ lN k < lN 0 from h0), if_neg (show ¬ (9999 : Int64) < lN k from fun z => absurd ((pk_lLT (a := 9999) (by decide) hk).mp z) (by omega)), pk_lT hk]
      exact lN_i k
    · have h2 : ¬ k < 9999 := fun z => h1 ((pk_lLT hk (by decide)).mpr z)
      rw [if_neg h1, if_neg (show ¬ (9999 : Int64) < lN 0 by decide)]
      by_cases h3 : (9999 : Int64) < lN k
      · rw [if_pos h3]
        rfl
      · have h4 : ¬ 9999 < k := fun z => h3 ((pk_lLT (a := 9999) (by decide) hk).mpr z)
        have h5 : k = 9999 := by omega
        subst h5
        rw [if_neg h3]
        rfl
theorem cutK_n {k : Nat} (h : k ≤ 9999) : cutK (lN k) = k := by
  unfold cutK
  rw [if_neg (show ¬ lN k < (0 : Int64) from fun z => absurd ((pk_lLT (b := 0) (by omega) (by decide)).mp z) (by omega)), if_neg (show ¬ (9999 : Int64) < lN k from fun z => absurd ((pk_lLT (a := 9999) (by decide) (by omega)).mp z) (by omega)), pk_lT (by omega)]
  rfl
def aDe : Nat → Bool := fun a => aJo a || (Nat.ble 25 a && Nat.ble a 28) || Nat.beq a 31
def aD3 : Nat → Bool := fun a => aW a || Nat.beq a 31
theorem aDe_pl : plA aDe := ⟨rfl, rfl, rfl, rfl, rfl, rfl, rfl, rfl, rfl, rfl⟩
theorem aDe_es : esA aDe := ⟨rfl, rfl, rfl, rfl⟩
theorem aD3_pl : plA aD3 := ⟨rfl, rfl, rfl, rfl, rfl, rfl, rfl, rfl, rfl, rfl⟩
theorem de_J (a : Nat) (h : aDe a = false) : aJo a = false := by
  unfold aDe at h
  simp only [Bool.or_eq_false_iff] at h
  exact h.1.1
theorem de_W (a : Nat) (h : aDe a = false) : aW a = false := aWJ a (de_J a h)
theorem de_R (a : Nat) (h : aDe a = false) : aUs a = false ∧ aRc a = false := by
  unfold aDe at h
  simp only [Bool.or_eq_false_iff] at h
  have h2 := h.1.2
  have hk : ¬ (25 ≤ a ∧ a ≤ 28) := fun z => by rw [Nat.ble_eq_true_of_le z.1, Nat.ble_eq_true_of_le z.2] at h2; cases h2
  unfold aUs aRc
  rw [bq_ne (show ¬ a = 25 by omega), bq_ne (show ¬ a = 26 by omega), bq_ne (show ¬ a = 27 by omega), bq_ne (show ¬ a = 28 by omega)]
  exact ⟨rfl, rfl⟩
theorem de_3 (a : Nat) (h : aDe a = false) : aD3 a = false := by
  have h1 := de_W a h
  unfold aDe at h
  simp only [Bool.or_eq_false_iff] at h
  unfold aD3
  rw [h1, h.2]
  rfl
theorem d3_W (a : Nat) (h : aD3 a = false) : aW a = false := by
  unfold aD3 at h
  simp only [Bool.or_eq_false_iff] at h
  exact h.1
def dRp (S : ms_S) : Option (Nat × Nat × Nat) → Prop
  | none => S.1 31 8 = -(nI 1)
  | some q => S.1 31 8 = nI q.1 ∧ S.1 31 9 = nI q.2.1 ∧ S.1 31 10 = nI q.2.2 ∧ q.1 ≤ 9999 ∧ q.2.1 < 7 ∧ q.2.2 < 7
theorem dRp_F {S S' : ms_S} {r : Option (Nat × Nat × Nat)} (h : S'.1 31 = S.1 31) (hr : dRp S r) : dRp S' r := by
  cases r with
  | none => show S'.1 31 8 = _; rw [h]; exact hr
  | some q => show S'.1 31 8 = _ ∧ S'.1 31 9 = _ ∧ S'.1 31 10 = _ ∧ _; rw [h]; exact hr
section CORE6
variable {G : ab_G} {S : ms_S} {tl : ab_H} {P : tPL} {o : Nat → Option tDQ} {s : tES} {dn v : Nat} {jb : Nat → Nat}
theorem dst_s {h f e : Nat} {acc : Option (Nat × Nat × Nat)} (ha : acc.isSome = true) : (dst P s jb h f e acc).isSome = true := by
  unfold dst
  cases acc with
  | none => cases ha
  | some q => (repeat' split) <;> first | rfl | exact ha
theorem dst_b {h f e : Nat} {acc : Option (Nat × Nat × Nat)} (hb : (rowT P jb (heldN s.1 (nI h) P.1) f).testBit e = true) : (dst P s jb h f e acc).isSome = true := by
  unfold dst
  rw [if_pos hb]
  cases acc with
  | none => rfl
  | some q => dsimp only; split <;> rfl
theorem dIn_s {h f : Nat} {acc : Option (Nat × Nat × Nat)} (ha : acc.isSome = true) : ∀ e, (dIn P s jb h f acc e).isSome = true
  | 0 => ha
  | e + 1 => dst_s (dIn_s ha e)
theorem dIn_b {h f e : Nat} {acc : Option (Nat × Nat × Nat)} (hb : (rowT P jb (heldN s.1 (nI h) P.1) f).testBit e = true) : ∀ n, e < n → (dIn P s jb h f acc n).isSome = true
  | 0, h => absurd h (Nat.not_lt_zero _)
  | n + 1, hn => by
    show (dst P s jb h f n (dIn P s jb h f acc n)).isSome = true
    by_cases z : e = n
    · rw [← z]; exact dst_b hb
    · exact dst_s (dIn_b hb n (by omega))
theorem dOut_b {h f e : Nat} (he : e < 7) (hb : (rowT P jb (heldN s.1 (nI h) P.1) f).testBit e = true) : ∀ n, f < n → (dOut P s jb h n).isSome = true
  | 0, h => absurd h (Nat.not_lt_zero _)
  | n + 1, hn => by
    show (dIn P s jb h n (dOut P s jb h n) 7).isSome = true
    by_cases z : f = n
    · rw [← z]; exact dIn_b hb 7 he
    · exact dIn_s (dOut_b he hb n (by omega)) 7
theorem dOut_n {h : Nat} (hz : ∀ f, f < 7 → rowT P jb (heldN s.1 (nI h) P.1) f = 0) : ∀ n, n ≤ 7 → dOut P s jb h n = none
  | 0, _ => rfl
  | n + 1, hn => by
    show dIn P s jb h n (dOut P s jb h n) 7 = none
    rw [dOut_n hz n (by omega)]
    have : ∀ e, dIn P s jb h n none e = none := by
      intro e
      induction e with
      | zero => rfl
      | succ e ih =>
        show dst P s jb h n e (dIn P s jb h n none e) = none
        rw [ih]
        unfold dst
        rw [hz n (by omega), Nat.zero_testBit, if_neg (by decide)]
    exact this 7
set_option maxHeartbeats 1000000 in
theorem u_dear (hP : bPl S P o) (hs : bES S P s dn) (hJ : bJd S P o) (hR : bRT S P v jb) (hv : v + 1 < 2 ^ 30) (aj : Bool) (ha : S.1 31 6 = bI aj) (h : Nat) (hh : h < P.2.1) (K : Int32 → ms_S → Prop)
    (k : ∀ S' v', cF aDe S S' → S'.1 31 6 = S.1 31 6 → S'.1 31 7 = S.1 31 7 → v' ≤ v + 1 → bJd S' P o → bRT S' P v' (jbK P s.2.2.2.2 aj) → ((dOut P s (jbK P s.2.2.2.2 aj) h 7).isSome = true → dRp S' (dOut P s (jbK P s.2.2.2.2 aj) h 7)) → K (bI (dOut P s (jbK P s.2.2.2.2 aj) h 7).isSome) S') : ctI G 5 M_X3_findDearest false [.ref 31, .ref 46, .int (nI h)] lC S tl K := by
  obtain ⟨p1, p2, p3, p4, p5, l0, l1, l2, p6⟩ := id hP
  obtain ⟨s1, s2, s3, s4, s5, s6, s7, s8, s9, s10, s11⟩ := id hs
  have hv5 : vp_in (nI h) 5 := (x_vp (by omega)).mpr (by omega)
  have hb9 := held9 (f := s.1) (x := nI h) p1
  have hbl := heldN_lt s.1 (nI h) P.1
  have hpo := pop_le (heldN s.1 (nI h) P.1) 9
  have hg := (s2 h (by omega)).2
  have hws := ws_le hP (heldN s.1 (nI h) P.1) P.1 (Nat.le_refl _)
  have hdb := db_le (P := P) (heldN s.1 (nI h) P.1) P.1
  refine m_X3_findDearest (fun n0 => ?_)
  rw [s4, nI_clamp (by omega)]
  refine u_joins hP hJ s.2.2.2.2 s5 aj ha _ (fun S1 f1 j1 => u_use (bRT_F f1 rfl rfl rfl rfl hR) (jbK P s.2.2.2.2 aj) (fun e _ => bitsN_lt _ 7) hv _ (fun S2 v' f2 hv2 r2 => ⟨hv5, ?_⟩))
  have g2 : cF aDe S S2 := (f1.mono de_J).tr (f2.mono (fun a q => (de_R a q).1))
  have hP2 := bPl_F g2 aDe_pl hP
  have j2 : bJd S2 P o := bJd_F f2 rfl rfl j1
  have q6 : S2.1 31 = S.1 31 := (f2.1 31 rfl).trans (f1.1 31 rfl)
  generalize hjb : jbK P s.2.2.2.2 aj = jn at *
  rw [g2.2.2.1 47 rfl, s1 h (by omega)]
  refine u_reach hP2 r2 _ hbl _ (fun S3 f3 r3 _ => ?_)
  have g3 : cF aDe S S3 := g2.tr (f3.mono (fun a q => (de_R a q).2))
  have hP3 := bPl_F g3 aDe_pl hP
  have j3 : bJd S3 P o := bJd_F f3 rfl rfl j2
  have q36 : S3.1 31 = S.1 31 := (f3.1 31 rfl).trans q6
  have hrl : ∀ f, f < 7 → rowT P jn (heldN s.1 (nI h) P.1) f < 128 := fun f _ => row_lt hP _ f
  have hrc : rcN P jn (heldN s.1 (nI h) P.1) < 2 ^ 56 := by_lt7 hrl
  rw [lg_cmp_eq, pk_lEQ (by omega) (by decide)]
  refine ⟨fun z => ?_, fun z => ?_⟩
  · have hz := dOut_n (s := s) (h := h) (byN_0.mp z) 7 (Nat.le_refl _)
    have k := k S3 v' g3 (congrFun q36 6) (congrFun q36 7) hv2 j3 r3 (fun y => by rw [hz] at y; cases y)
    rw [hz] at k
    exact k
  have hsome : (dOut P s jn h 7).isSome = true := by
    have : ∃ f, f < 7 ∧ ¬ rowT P jn (heldN s.1 (nI h) P.1) f = 0 := Classical.byContradiction (fun y => z (byN_0.mpr (fun f hf => Classical.byContradiction (fun w => y ⟨f, hf, w⟩))))
    obtain ⟨f, hf, hf0⟩ := this
    obtain ⟨e, he⟩ := Nat.exists_testBit_of_ne_zero hf0
    have he7 : e < 7 := Classical.byContradiction (fun y => by
      have := Nat.testBit_lt_two_pow (Nat.lt_of_lt_of_le (hrl f hf) (show 128 ≤ 2 ^ e from Nat.pow_le_pow_right (n := 2) (i := 7) (by decide) (by omega)))
      rw [this] at he
      cases he)
    exact dOut_b he7 he 7 hf
  refine u_worth false hP3 _ (by omega) _ (u_doubles false hP3 _ (by omega) _ (u_bitCount G false S3 tl _ hb9 _ ⟨hv5, ?_⟩))
  rw [g3.2.2.1 48 rfl, g3.1 46 rfl, (s2 h (by omega)).1, s4]
  refine u_scene2 G S3 tl _ _ _ _ (fun S7 f7 n7 => ?_)
  generalize hset : heldN s.1 (nI h) P.1 = set at *
  generalize hsum : wsN P set P.1 = sum at *
  generalize hdub : dbN P set P.1 = dub at *
  generalize hman : pop set 9 = man at *
  obtain ⟨t1, t2⟩ := p6 2 (by decide)
  have hwr : ∀ f e, wrK P s h f e = (match evW (o 2) (env f e sum dub man (s.2.1 h) s.2.2.2.2) with | none => sum | some v => cutK v) := by
    intro f e
    unfold wrK
    rw [t1, t2, show manyK P s h = man from by show pop (heldN s.1 (nI h) P.1) 9 = man; rw [hset, hman], hset, hsum, hdub]
    cases ho : o 2 with
    | none => rfl
    | some q => rfl
  have hwle : ∀ f e, wrK P s h f e ≤ 9999 := by
    intro f e
    rw [hwr]
    split
    · omega
    · exact cutK_le _
  -- what holds while the ends are gone through
  have KO : ∀ r f (X : ms_S), f + r = 7 → cF aD3 S3 X → X.1 31 6 = S.1 31 6 → X.1 31 7 = S.1 31 7 → nmS X 24 man (s.2.1 h) s.2.2.2.2 → dRp X (dOut P s jn h f) → L_X3_findDearest_99 G false n0 tl K X (lN (rcN P jn set)) (nI sum) (nI dub) (nI f) := by
    intro r
    induction r with
    | zero =>
      intro f X hf x1 x2 x3 x4 x5
      have hf : f = 7 := hf
      subst hf
      refine b_X3_findDearest_99 ⟨fun _ => ?_, fun y => absurd (Int32.le_refl _) y⟩
      have k := k X v' (g3.tr (x1.mono de_3)) x2 x3 hv2 (bJd_F x1 rfl rfl j3) (bRT_F x1 rfl rfl rfl rfl r3) (fun _ => x5)
      rw [hsome] at k
      exact k
    | succ r ih =>
      intro f X hf x1 x2 x3 x4 x5
      refine b_X3_findDearest_99 ?_
      rw [nI_leI (by decide) (by omega)]
      refine ⟨fun y => absurd y (by omega), fun _ => ?_⟩
      have KI : ∀ t e (Y : ms_S), e + t = 7 → cF aD3 S3 Y → Y.1 31 6 = S.1 31 6 → Y.1 31 7 = S.1 31 7 → nmS Y 24 man (s.2.1 h) s.2.2.2.2 → dRp Y (dIn P s jn h f (dOut P s jn h f) e) → L_X3_findDearest_109 G false n0 tl K Y (lN (rcN P jn set)) (nI sum) (nI dub) (nI f) (nI e) := by
        intro t
        induction t with
        | zero =>
          intro e Y he y1 y2 y3 y4 y5
          have he : e = 7 := he
          subst he
          refine b_X3_findDearest_109 ?_
          rw [nI_add]
          exact ⟨fun _ => ih (f + 1) Y (by omega) y1 y2 y3 y4 y5, fun y => absurd (Int32.le_refl _) y⟩
        | succ t iht =>
          intro e Y he y1 y2 y3 y4 y5
          have hPY := bPl_F y1 aD3_pl hP3
          have hb := byN_tb (c := fun f => rowT P jn set f) (f := f) (i := e) (by omega) (n := 7) (fun f hf => Nat.lt_trans (hrl f hf) (by decide))
          rw [decide_eq_true (show f < 7 by omega), Bool.true_and] at hb
          have hD : dIn P s jn h f (dOut P s jn h f) (e + 1) = dst P s jn h f e (dIn P s jn h f (dOut P s jn h f) e) := rfl
          refine b_X3_findDearest_109 ?_
          rw [nI_leI (by decide) (by omega), show nI f * nI 8 + nI e = nI (f * 8 + e) from by rw [pk_mul, nI_add], tb_l (x := rcN P jn set) (k := f * 8 + e) (by omega) (by omega), show (rcN P jn set).testBit (f * 8 + e) = (rowT P jn set f).testBit e from hb]
          refine ⟨fun y => absurd y (by omega), fun _ => ⟨fun tb => ?_, fun tb => ?_⟩⟩
          · refine u_work2 G Y tl (o 2) hPY.2.2.2.2.2.2.2.1 _ _ _ _ _ _ _ (by omega) (by omega) (by omega) (by omega) (by omega) (by omega) (by omega) y4 _ (fun Z f9 n9 hbd => ?_)
            have z1 : cF aD3 S3 Z := y1.tr (f9.mono d3_W)
            have zq : Z.1 31 = Y.1 31 := f9.1 31 rfl
            have z5 := dRp_F zq y5
            -- the worth
            have K170 : ∀ w0, cutK w0 = wrK P s h f e → L_X3_findDearest_170 G false n0 tl K Z (lN (rcN P jn set)) (nI sum) (nI dub) (nI f) (nI e) w0 (9999 : Int64) (lN 0) := by
              intro w0 hw0
              have hle := hwle f e
              refine b_X3_findDearest_170 ?_
              rw [cut_l, hw0]
              have KU : (dIn P s jn h f (dOut P s jn h f) (e + 1) = some (wrK P s h f e, f, e)) → L_X3_findDearest_206 G false n0 tl K (sVa (sVa (sVa Z 31 8 (nI (wrK P s h f e))) 31 9 (nI f)) 31 10 (nI e)) (lN (rcN P jn set)) (nI sum) (nI dub) (nI f) (nI e) := by
                intro hd
                refine b_X3_findDearest_206 ?_
                rw [nI_add]
                refine iht (e + 1) _ (by omega) (((z1.tr (cF.sVa rfl)).tr (cF.sVa rfl)).tr (cF.sVa rfl)) ((congrFun zq 6).trans y2) ((congrFun zq 7).trans y3) n9 ?_
                rw [hd]
                exact ⟨rfl, rfl, rfl, hle, by show f < 7; omega, by show e < 7; omega⟩
              have hdst : dIn P s jn h f (dOut P s jn h f) (e + 1) = (match dIn P s jn h f (dOut P s jn h f) e with | none => some (wrK P s h f e, f, e) | some q => if q.1 < wrK P s h f e then some (wrK P s h f e, f, e) else some q) := by
                rw [hD]
                unfold dst
                rw [hset, if_pos tb]
                cases dIn P s jn h f (dOut P s jn h f) e <;> rfl
              generalize hacc : dIn P s jn h f (dOut P s jn h f) e = acc at z5 hdst
              cases acc with
              | none =>
                have z5 : Z.1 31 8 = -(nI 1) := z5
                rw [z5]
                refine ⟨fun y => absurd (neg_neg (k := 1) (by decide) (by decide)) (fun w => ?_), fun _ => KU hdst⟩
                exact nI_pos (n := wrK P s h f e) (by omega) (Int32.lt_of_le_of_lt y w)
              | some q =>
                have z8 : Z.1 31 8 = nI q.1 := z5.1
                have zle := z5.2.2.2.1
                rw [z8, nI_leI (by omega) (by omega)]
                refine ⟨fun y => b_X3_findDearest_206 ?_, fun y => KU (by rw [hdst]; exact if_pos (by omega))⟩
                rw [nI_add]
                refine iht (e + 1) Z (by omega) z1 ((congrFun zq 6).trans y2) ((congrFun zq 7).trans y3) n9 ?_
                rw [hdst]
                show dRp Z (if q.1 < wrK P s h f e then some (wrK P s h f e, f, e) else some q)
                rw [if_neg (by omega)]
                exact z5
            have hw := hwr f e
            rw [lg_cmp_eq]
            generalize evW (o 2) (env f e sum dub man (s.2.1 h) s.2.2.2.2) = ev at hw hbd ⊢
            have hsumc : cutK (nI sum).toInt64 = sum := by rw [nI_l (by omega)]; exact cutK_n (by omega)
            cases ev with
            | none =>
              have hw : wrK P s h f e = sum := hw
              exact ⟨fun _ => K170 _ (by rw [hw, hsumc]), fun y => absurd rfl y⟩
            | some x =>
              have hw : wrK P s h f e = cutK x := hw
              have hx := hbd x rfl
              exact ⟨fun y => absurd hx (by rw [show x = NTM from y]; exact nbd_N), fun _ => K170 x hw.symm⟩
          · refine b_X3_findDearest_206 ?_
            rw [nI_add]
            refine iht (e + 1) Y (by omega) y1 y2 y3 y4 ?_
            rw [hD]
            unfold dst
            rw [hset, if_neg tb]
            exact y5
      exact KI 7 0 X rfl x1 x2 x3 x4 x5
  have f73 : cF aD3 S3 S7 := f7.mono d3_W
  have q7 : S7.1 31 = S.1 31 := (f7.1 31 rfl).trans q36
  exact KO 7 0 _ rfl (f73.tr (cF.sVa rfl)) (congrFun q7 6) (congrFun q7 7) n7 rfl
end CORE6

