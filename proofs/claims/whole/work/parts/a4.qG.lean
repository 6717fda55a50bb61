/-! ===== the program: a row is laid, pieces are traded and drawn ===== -/
def aDy : Nat → Bool := fun a => aDe a || aEs a
theorem aDy_pl : plA aDy := ⟨rfl, rfl, rfl, rfl, rfl, rfl, rfl, rfl, rfl, rfl⟩
theorem dy_D (a : Nat) (h : aDy a = false) : aDe a = false := by
  unfold aDy at h
  simp only [Bool.or_eq_false_iff] at h
  exact h.1
theorem dy_E (a : Nat) (h : aDy a = false) : aEs a = false := by
  unfold aDy at h
  simp only [Bool.or_eq_false_iff] at h
  exact h.2
/-- what holds through a day of the program -/
def bWd (S0 S : ms_S) (P : tPL) (o : Nat → Option tDQ) (v : Nat) (s : tES) (dn : Nat) : Prop := cF aDy S0 S ∧ S.1 31 6 = S0.1 31 6 ∧ S.1 31 7 = S0.1 31 7 ∧ bJd S P o ∧ (∃ jb, bRT S P v jb) ∧ bES S P s dn
def bTD (S : ms_S) (P : tPL) (T : tTD) : Prop := T.1 ≤ 8 ∧ T.2.2.2.2.1 ≤ 10 ∧ S.1 0 14 = nI T.1 ∧ S.1 0 15 = nI T.2.2.2.2.1 ∧ (∀ t, t < T.1 → S.2.2.2.1 7 t = nI (T.2.1 t) ∧ T.2.1 t < P.1 ∧ S.2.2.2.1 8 t = nI (T.2.2.1 t) ∧ T.2.2.1 t < P.1 ∧ S.2.2.2.1 9 t = nI (T.2.2.2.1 t) ∧ T.2.2.2.1 t ≤ 99) ∧ (∀ k, k < T.2.2.2.2.1 → S.2.2.2.1 10 k = nI (T.2.2.2.2.2.1 k) ∧ T.2.2.2.2.2.1 k < P.2.1 ∧ S.2.2.2.1 11 k = nI (T.2.2.2.2.2.2 k) ∧ T.2.2.2.2.2.2 k ≤ 99)
def bOP (S : ms_S) (q : tOP) : Prop := S.1 36 2 = bI q.1 ∧ S.1 36 3 = bI q.2.1 ∧ S.1 31 6 = bI q.2.2.1 ∧ S.1 31 7 = bI q.2.2.2.1 ∧ S.1 36 4 = q.2.2.2.2.1 ∧ S.1 36 5 = nI q.2.2.2.2.2 ∧ q.2.2.2.2.2 ≤ 9
def yrK (P : tPL) (s : tES) (aj : Bool) (nd h : Nat) : Option Nat := if manyK P s h < nd then none else (dOut P s (jbK P s.2.2.2.2 aj) h 7).map (fun q => q.1)
def yrS (P : tPL) (s : tES) (h : Nat) : Option Nat → tES
  | none => s
  | some d => spS P s h d
def yrA : Option Nat → Int32
  | none => -(nI 2)
  | some d => nI d
theorem sp_tb {P : tPL} {s : tES} {h d : Nat} {z : Int32} (hh : h < 2 ^ 31) : heldN (spS P s h d).1 z P.1 = if z = nI h then 0 else if z = -(nI 3) then heldN s.1 z P.1 ||| heldN s.1 (nI h) P.1 else heldN s.1 z P.1 := by
  apply Nat.eq_of_testBit_eq
  intro j
  rw [heldN_tb]
  show (decide (j < P.1) && decide ((if j < P.1 ∧ s.1 j = nI h then -(nI 3) else s.1 j) = z)) = _
  have h3 : ¬ nI h = -(nI 3) := nn_ne hh (by decide) (by decide)
  by_cases hj : j < P.1
  · rw [decide_eq_true hj, Bool.true_and]
    by_cases e1 : z = nI h
    · rw [if_pos e1, Nat.zero_testBit]
      by_cases e2 : s.1 j = nI h
      · rw [if_pos ⟨hj, e2⟩, e1]
        exact decide_eq_false (fun w => h3 w.symm)
      · rw [if_neg (fun w => e2 w.2), e1]
        exact decide_eq_false e2
    · rw [if_neg e1]
      by_cases e3 : z = -(nI 3)
      · rw [if_pos e3, Nat.testBit_or, heldN_tb, heldN_tb, decide_eq_true hj, Bool.true_and, Bool.true_and, e3]
        by_cases e2 : s.1 j = nI h
        · rw [if_pos ⟨hj, e2⟩, decide_eq_true e2, Bool.or_true]
          exact decide_eq_true rfl
        · rw [if_neg (fun w => e2 w.2), decide_eq_false (p := s.1 j = nI h) e2, Bool.or_false]
      · rw [if_neg e3, heldN_tb, decide_eq_true hj, Bool.true_and]
        by_cases e2 : s.1 j = nI h
        · rw [if_pos ⟨hj, e2⟩, e2, decide_eq_false (fun w => e3 w.symm), decide_eq_false (fun w => e1 w.symm)]
        · rw [if_neg (fun w => e2 w.2)]
  · rw [decide_eq_false hj, Bool.false_and]
    split
    · rw [Nat.zero_testBit]
    · split
      · rw [Nat.testBit_or, heldN_tb, heldN_tb, decide_eq_false hj, Bool.false_and, Bool.false_and]
        rfl
      · rw [heldN_tb, decide_eq_false hj, Bool.false_and]
section CORE7
variable {G : ab_G} {S0 S : ms_S} {tl : ab_H} {P : tPL} {o : Nat → Option tDQ} {s : tES} {dn v : Nat}
theorem bES_sp {d h : Nat} (hs : bES S P s dn) (p1 : P.1 ≤ 9) (p2 : P.2.1 ≤ 5) (hh : h < P.2.1) : bES (sA (sVa (sA (sA S 48 h (nI (min 99999 (s.2.1 h + d)))) 49 h (nI (s.2.2.1 h + 1))) 46 5 (nI (heldN s.1 (-(nI 3)) P.1 ||| heldN s.1 (nI h) P.1))) 47 h (nI 0)) P (spS P s h d) dn := by
  obtain ⟨s1, s2, s3, s4, s5, s6, s7, s8, s9, s10, s11⟩ := hs
  have e := fun z => sp_tb (P := P) (s := s) (d := d) (z := z) (show h < 2 ^ 31 by omega)
  have n2 : ¬ -(nI 2) = nI h := fun w => nn_ne (by omega) (by decide) (by decide) w.symm
  have n3 : ¬ -(nI 3) = nI h := fun w => nn_ne (by omega) (by decide) (by decide) w.symm
  refine ⟨fun i hi => ?_, fun i hi => ?_, fun i hi => ?_, s4, s5, ?_, ?_, s8, s9, hoOk_sp s10, fun i hi => ?_⟩
  · show upd (S.2.2.2.1 47) h (nI 0) i = _
    rw [e]
    by_cases z : i = h
    · rw [z, pk_us, if_pos rfl]
    · rw [pk_un z, if_neg (fun w => z ((nI_eq (by omega) (by omega)).mp w)), if_neg (nn_ne (by omega) (by decide) (by decide))]
      exact s1 i hi
  · show upd (S.2.2.2.1 48) h (nI (min 99999 (s.2.1 h + d))) i = nI (if i = h then min 99999 (s.2.1 h + d) else s.2.1 i) ∧ (if i = h then min 99999 (s.2.1 h + d) else s.2.1 i) ≤ 99999
    by_cases z : i = h
    · rw [z, pk_us, if_pos rfl]
      exact ⟨rfl, Nat.min_le_left _ _⟩
    · rw [pk_un z, if_neg z]
      exact s2 i hi
  · show upd (S.2.2.2.1 49) h (nI (s.2.2.1 h + 1)) i = nI (if i = h then s.2.2.1 h + 1 else s.2.2.1 i)
    by_cases z : i = h
    · rw [z, pk_us, if_pos rfl]
    · rw [pk_un z, if_neg z]
      exact s3 i hi
  · show S.1 46 4 = nI (heldN (spS P s h d).1 (-(nI 2)) P.1)
    rw [e, if_neg n2, if_neg n23]
    exact s6
  · show _ = nI (heldN (spS P s h d).1 (-(nI 3)) P.1)
    rw [e, if_neg n3, if_pos rfl]
    rfl
  · show (if i = h then min 99999 (s.2.1 h + d) else s.2.1 i) = 0 ∧ (if i = h then s.2.2.1 h + 1 else s.2.2.1 i) = 0
    rw [if_neg (by omega), if_neg (by omega)]
    exact s11 i hi
theorem u_layR (hP : bPl S P o) (w : bWd S0 S P o v s dn) (hv : v + 1 < 2 ^ 30) (aj : Bool) (ha : S.1 31 6 = bI aj) (nd : Nat) (hn : S.1 36 5 = nI nd) (hn9 : nd ≤ 9) (h : Nat) (hh : h < P.2.1) (K : Int32 → ms_S → Prop)
    (k : ∀ S' v', v' ≤ v + 1 → bWd S0 S' P o v' (yrS P s h (yrK P s aj nd h)) dn → K (yrA (yrK P s aj nd h)) S') : ctI G 6 M_X0_layRow false [.ref 36, .ref 46, .int (nI h)] lC S tl K := by
  obtain ⟨w1, w2, w3, w4, ⟨jb, w5⟩, hs⟩ := id w
  have p1 := hP.1
  have p2 := hP.2.1
  obtain ⟨s1, s2, s3, s4, s5, s6, s7, s8, s9, s10, s11⟩ := id hs
  have hv5 : vp_in (nI h) 5 := (x_vp (by omega)).mpr (by omega)
  have hb9 := held9 (f := s.1) (x := nI h) p1
  have hpo : pop (heldN s.1 (nI h) P.1) 9 ≤ 9 := pop_le _ 9
  refine m_X0_layRow (fun n0 => ⟨hv5, ?_⟩)
  rw [nI_clamp (show h < 2 ^ 31 by omega), s1 h (by omega)]
  refine u_bitCount G false S tl _ hb9 _ ?_
  rw [hn, nI_ltI (by omega) (by omega)]
  refine ⟨fun z => ?_, fun z => ?_⟩
  · have e : yrK P s aj nd h = none := if_pos z
    rw [e] at k
    exact k S v (by omega) w
  refine u_dear hP hs w4 w5 hv aj ha h hh _ (fun S2 v' f2 a6 a7 hv2 j2 r2 d2 => ?_)
  have e : yrK P s aj nd h = (dOut P s (jbK P s.2.2.2.2 aj) h 7).map (fun q => q.1) := if_neg z
  rw [e] at k
  have g2 : cF aDy S0 S2 := w1.tr (f2.mono dy_D)
  have hs2 : bES S2 P s dn := bES_F f2 aDe_es hs
  generalize dOut P s (jbK P s.2.2.2.2 aj) h 7 = r at k d2 ⊢
  cases r with
  | none => exact ⟨fun _ => k S2 v' hv2 ⟨g2, a6.trans w2, a7.trans w3, j2, ⟨_, r2⟩, hs2⟩, fun q => absurd rfl q⟩
  | some q =>
    obtain ⟨d8, d9, d10, dl, _⟩ := d2 rfl
    obtain ⟨t1, t2, t3, t4, t5, t6, t7, t8, t9, t10, t11⟩ := id hs2
    have hg := (s2 h (by omega)).2
    refine ⟨fun q => absurd q bI_t, fun _ => ⟨hv5, hv5, hv5, hv5, hv5, hv5, ?_⟩⟩
    rw [d8, (t2 h (by omega)).1, t3 h (by omega), t7, t1 h (by omega), nI_add (s.2.1 h) q.1, nI_add (s.2.2.1 h) 1, nu_or]
    rw [show (if nI (s.2.1 h + q.1) < (99999 : Int32) then nI (s.2.1 h + q.1) else (99999 : Int32)) = nI (min 99999 (s.2.1 h + q.1)) from by
      by_cases y : s.2.1 h + q.1 < 99999
      · rw [if_pos (show nI (s.2.1 h + q.1) < (99999 : Int32) from (nI_ltI (b := 99999) (by omega) (by decide)).mpr y), Nat.min_eq_right (by omega)]
      · rw [if_neg (show ¬ nI (s.2.1 h + q.1) < (99999 : Int32) from fun x => y ((nI_ltI (b := 99999) (by omega) (by decide)).mp x)), Nat.min_eq_left (by omega)]
        rfl]
    refine k _ v' hv2 ⟨(((g2.tr (cF.sA rfl)).tr (cF.sA rfl)).tr (cF.sVa rfl)).tr (cF.sA rfl), a6.trans w2, a7.trans w3, j2, ⟨_, r2⟩, ?_⟩
    exact bES_sp hs2 p1 p2 hh
theorem u_can (hP : bPl S P o) (hs : bES S P s dn) (am : Bool) (ha : S.1 31 7 = bI am) (p q : Nat) (hp : p < P.1) (hq : q < P.1) (K : Int32 → ms_S → Prop) (k : ∀ S', cF aW S S' → K (bI (trK P s am p q)) S') : ctI G 6 M_X0_canTrade false [.ref 36, .ref 46, .int (nI p), .int (nI q)] lC S tl K := by
  have p2 := hP.2.1
  have hho := hs.2.2.2.2.2.2.2.2.2.1
  refine m_X0_canTrade (fun n0 => u_holder false hP hs p hp _ (u_holder false hP hs q hq _ ⟨fun z => ?_, fun z1 => ⟨fun z => ?_, fun z2 => ⟨fun z => ?_, fun z3 => ?_⟩⟩⟩))
  · have e : trK P s am p q = false := by unfold trK; rw [decide_eq_false (fun y => y z)]; rfl
    rw [e] at k
    exact k S cF.rf
  · have e : trK P s am p q = false := by unfold trK; rw [decide_eq_false (p := ¬ s.1 q < 0) (fun y => y z), Bool.false_and, Bool.and_false]
    rw [e] at k
    exact k S cF.rf
  · have e : trK P s am p q = false := by unfold trK; rw [decide_eq_false (p := ¬ s.1 p = s.1 q) (fun y => y z), Bool.false_and, Bool.and_false, Bool.and_false]
    rw [e] at k
    exact k S cF.rf
  rcases hoOk_cases hho hp with y | ⟨a, ha5, ea⟩
  · exact absurd y z1
  rcases hoOk_cases hho hq with y | ⟨b, hb5, eb⟩
  · exact absurd y z2
  have e : trK P s am p q = (mayK P s am a q && mayK P s am b p) := by
    unfold trK
    rw [decide_eq_true z1, decide_eq_true z2, decide_eq_true z3, ea, eb, nI_clamp (show a < 2 ^ 31 by omega), nI_clamp (show b < 2 ^ 31 by omega)]
    rfl
  rw [e] at k
  rw [ea, eb]
  refine u_may hP hs q a hq ha5 am ha _ (fun S3 f3 => ?_)
  rw [x_b0]
  cases h1 : mayK P s am a q with
  | false =>
    rw [h1] at k
    exact ⟨fun _ => k S3 f3, fun y => absurd rfl y⟩
  | true =>
    rw [h1] at k
    refine ⟨fun y => Bool.noConfusion y, fun _ => ?_⟩
    refine u_may (bPl_F f3 ⟨rfl, rfl, rfl, rfl, rfl, rfl, rfl, rfl, rfl, rfl⟩ hP) (bES_F f3 ⟨rfl, rfl, rfl, rfl⟩ hs) p b hp hb5 am ((congrFun (f3.1 31 rfl) 7).trans ha) _ (fun S4 f4 => ?_)
    rw [x_b0]
    have k4 := k S4 (f3.tr f4)
    cases h2 : mayK P s am b p with
    | false =>
      rw [h2] at k4
      exact ⟨fun _ => k4, fun y => absurd rfl y⟩
    | true =>
      rw [h2] at k4
      exact ⟨fun y => Bool.noConfusion y, fun _ => k4⟩
/-! the first piece of a set -/
def tzE (i0 i1 : Int32) : Int32 := i1 + ((i0.toUInt32 >>> ((nI 1).toUInt32 &&& Int32.toUInt32 31)).toInt32)
def tzD (i0 i1 : Int32) : Int32 := if i0 ≤ (nI 4) then tzE i0 i1 else tzE ((i0.toUInt32 >>> ((nI 2).toUInt32 &&& Int32.toUInt32 31)).toInt32) (i1 + nI 2)
def tzC (i0 i1 : Int32) : Int32 := if i0 ≤ (nI 16) then tzD i0 i1 else tzD ((i0.toUInt32 >>> ((nI 4).toUInt32 &&& Int32.toUInt32 31)).toInt32) (i1 + nI 4)
def tzB (i0 i1 : Int32) : Int32 := if i0 ≤ (nI 256) then tzC i0 i1 else tzC ((i0.toUInt32 >>> ((nI 8).toUInt32 &&& Int32.toUInt32 31)).toInt32) (i1 + nI 8)
def tzA (t : Int32) : Int32 := if 0 < t then (if t ≤ (65536 : Int32) then tzB t (nI 1) else tzB ((t.toUInt32 >>> ((nI 16).toUInt32 &&& Int32.toUInt32 31)).toInt32) ((nI 1) + nI 16)) else t &&& nI 32
def tzF (i0 : Int32) : Int32 := tzA ((i0 ^^^ (-(nI 1))) &&& (i0 - (nI 1)))
theorem u_nz0 (G : ab_G) (fr : Bool) {lay : List ms_D} (S : ms_S) (tl : ab_H) (x : Int32) (K : Int32 → ms_S → Prop) (c : K (tzF x) S) : ctI G 1 M_J6_numberOfTrailingZeros fr [.int x] lay S tl K := by
  refine ctI.pk (m_J6_numberOfTrailingZeros (fun n0 => ?_))
  have hD : ∀ i0 i1, K (tzD i0 i1) S → L_J6_numberOfTrailingZeros_62 G fr n0 (hLy lay S tl) (fun v _ => K v S) ms_0 i0 i1 := fun i0 i1 c => b_J6_numberOfTrailingZeros_62 ⟨fun z => b_J6_numberOfTrailingZeros_74 (by unfold tzD at c; rw [if_pos z] at c; exact c), fun z => b_J6_numberOfTrailingZeros_74 (by unfold tzD at c; rw [if_neg z] at c; exact c)⟩
  have hC : ∀ i0 i1, K (tzC i0 i1) S → L_J6_numberOfTrailingZeros_49 G fr n0 (hLy lay S tl) (fun v _ => K v S) ms_0 i0 i1 := fun i0 i1 c => b_J6_numberOfTrailingZeros_49 ⟨fun z => hD _ _ (by unfold tzC at c; rw [if_pos z] at c; exact c), fun z => hD _ _ (by unfold tzC at c; rw [if_neg z] at c; exact c)⟩
  have hB : ∀ i0 i1, K (tzB i0 i1) S → L_J6_numberOfTrailingZeros_34 G fr n0 (hLy lay S tl) (fun v _ => K v S) ms_0 i0 i1 := fun i0 i1 c => b_J6_numberOfTrailingZeros_34 ⟨fun z => hC _ _ (by unfold tzB at c; rw [if_pos z] at c; exact c), fun z => hC _ _ (by unfold tzB at c; rw [if_neg z] at c; exact c)⟩
  unfold tzF tzA at c
  refine ⟨fun z => ⟨fun y => hB _ _ ?_, fun y => hB _ _ ?_⟩, fun z => ?_⟩
  · rw [if_pos z, if_pos y] at c
    exact c
  · rw [if_pos z, if_neg y] at c
    exact c
  · rw [if_neg z] at c
    exact c
theorem nz_tab : ∀ k, k < 512 → tzF (nI k) = nI (if k = 0 then 32 else ntP k 9 0 0) := by decide +kernel
theorem u_nz (G : ab_G) (fr : Bool) {lay : List ms_D} (S : ms_S) (tl : ab_H) (k : Nat) (hk : k < 512) (K : Int32 → ms_S → Prop) (c : K (nI (if k = 0 then 32 else ntP k 9 0 0)) S) : ctI G 1 M_J6_numberOfTrailingZeros fr [.int (nI k)] lay S tl K := u_nz0 G fr S tl _ K (by rw [nz_tab k hk]; exact c)
/-- the lowest ones are left out -/
def zlN (b : Nat) : Nat → Nat
  | 0 => b
  | n + 1 => zlN b n &&& (zlN b n - 1)
theorem zl_i : ∀ c, c < 512 → nI c &&& (nI c - nI 1) = nI (c &&& (c - 1)) ∧ c &&& (c - 1) < 512 := by decide +kernel
theorem zl_lt {b : Nat} (h : b < 512) : ∀ n, zlN b n < 512
  | 0 => h
  | n + 1 => (zl_i _ (zl_lt h n)).2
theorem zl_tab : ∀ b, b < 512 → ∀ n, n < 9 → n < pop b 9 → ¬ zlN b n = 0 ∧ ntP (zlN b n) 9 0 0 = ntP b 9 n 0 := by decide +kernel
theorem bES_rf (hs : bES S P s dn) : bES (sVa S 46 6 (S.1 46 6 + nI 1)) P (rfS s) dn := by
  obtain ⟨s1, s2, s3, s4, s5, s6, s7, s8, s9, s10, s11⟩ := hs
  refine ⟨s1, s2, s3, s4, s5, s6, s7, ?_, s9, s10, s11⟩
  show S.1 46 6 + nI 1 = nI (s.2.2.2.1 + 1)
  rw [s8, nI_add]
theorem bWd.rf (w : bWd S0 S P o v s dn) : bWd S0 (sVa S 46 6 (S.1 46 6 + nI 1)) P o v (rfS s) dn := ⟨w.1.tr (cF.sVa rfl), w.2.1, w.2.2.1, bJd_F (A := aEs) (cF.sVa rfl) rfl rfl w.2.2.2.1, w.2.2.2.2.1.elim (fun jb r => ⟨jb, bRT_F (A := aEs) (cF.sVa rfl) rfl rfl rfl rfl r⟩), bES_rf w.2.2.2.2.2⟩
theorem bWd.W {S' : ms_S} (w : bWd S0 S P o v s dn) (f : cF aW S S') : bWd S0 S' P o v s dn := ⟨w.1.tr (f.mono (fun a q => de_W a (dy_D a q))), (congrFun (f.1 31 rfl) 6).trans w.2.1, (congrFun (f.1 31 rfl) 7).trans w.2.2.1, bJd_F f rfl rfl w.2.2.2.1, w.2.2.2.2.1.elim (fun jb r => ⟨jb, bRT_F f rfl rfl rfl rfl r⟩), bES_F f ⟨rfl, rfl, rfl, rfl⟩ w.2.2.2.2.2⟩
theorem bWd.E {S' : ms_S} {s' : tES} {dn' : Nat} (w : bWd S0 S P o v s dn) (f : cF aEs S S') (h : bES S' P s' dn') : bWd S0 S' P o v s' dn' := ⟨w.1.tr (f.mono dy_E), (congrFun (f.1 31 rfl) 6).trans w.2.1, (congrFun (f.1 31 rfl) 7).trans w.2.2.1, bJd_F f rfl rfl w.2.2.2.1, w.2.2.2.2.1.elim (fun jb r => ⟨jb, bRT_F f rfl rfl rfl rfl r⟩), h⟩
theorem bWd.pl (hP : bPl S0 P o) (w : bWd S0 S P o v s dn) : bPl S P o := bPl_F w.1 aDy_pl hP
theorem u_draw (hP : bPl S0 P o) (w : bWd S0 S P o v s dn) (dr am : Bool) (hdr : S0.1 36 2 = bI dr) (ham : S0.1 31 7 = bI am) (h : Nat) (hh : h < P.2.1) (K : ms_S → Prop)
    (k : ∀ S', bWd S0 S' P o v (if dwB P s dr am dn h = true then dwS P s dr am dn h else rfS s) (dwN P s dr dn) → K S') : ctU G 6 M_X0_drawOrRefuse false [.ref 36, .ref 46, .int (nI h)] lC S tl K := by
  have p1 := hP.1
  have p2 := hP.2.1
  have hs := w.2.2.2.2.2
  have s6 : S.1 46 4 = nI (bxN P s) := hs.2.2.2.2.2.1
  have hb : bxN P s < 512 := held9 p1
  have hbl : bxN P s < 2 ^ P.1 := heldN_lt _ _ _
  have hpl := pop_le (bxN P s) 9
  -- from the place on
  have KP : ∀ {n0 : Nat} (X : ms_S) (n : Nat), bWd S0 X P o v s (dwN P s dr dn) → (n = if 1 < pop (bxN P s) 9 ∧ dr = true then numN dn / 65536 % pop (bxN P s) 9 else 0) → L_X0_drawOrRefuse_30 G false n0 tl K X (nI h) (nI (pop (bxN P s) 9)) (nI n) := by
    intro n0 X n x1 hn
    have xs := x1.2.2.2.2.2
    have xP := x1.pl hP
    have x6 : X.1 46 4 = nI (bxN P s) := xs.2.2.2.2.2.1
    have hnl : n < 9 := by
      by_cases z : 1 < pop (bxN P s) 9
      · have := dw_n (c := 1 < pop (bxN P s) 9 ∧ dr = true) (dc := inferInstance) (numN dn / 65536) (pop (bxN P s) 9) (by omega)
        rw [← hn] at this
        omega
      · rw [if_neg (fun y => z y.1)] at hn
        omega
    have hdp : dwP P s dr dn = ntP (bxN P s) 9 n 0 := by
      unfold dwP
      rw [← hn]
    refine b_X0_drawOrRefuse_30 ?_
    rw [x6]
    suffices KL : ∀ t i, i + t = n → L_X0_drawOrRefuse_41 G false n0 tl K X (nI h) (nI (pop (bxN P s) 9)) (nI n) (nI (zlN (bxN P s) i)) (nI i) from KL n 0 (Nat.zero_add _)
    intro t
    induction t with
    | succ t ih =>
      intro i hi
      refine b_X0_drawOrRefuse_41 ?_
      rw [nI_leI (by omega) (by omega), (zl_i _ (zl_lt hb i)).1, nI_add]
      exact ⟨fun z => absurd z (by omega), fun _ => ih (i + 1) (by omega)⟩
    | zero =>
      intro i hi
      have hi : i = n := hi
      subst hi
      refine b_X0_drawOrRefuse_41 ?_
      rw [nI_leI (by omega) (by omega)]
      refine ⟨fun _ => u_nz G false X tl _ (zl_lt hb i) _ ?_, fun z => absurd (Nat.le_refl _) z⟩
      have hrf : ∀ Y, dwB P s dr am dn h = false → bWd S0 Y P o v s (dwN P s dr dn) → L_X0_drawOrRefuse_112 G false n0 tl K Y := by
        intro Y hd y1
        refine b_X0_drawOrRefuse_112 (b_X0_drawOrRefuse_122 (k _ ?_))
        rw [hd]
        exact y1.rf
      rw [show (nI (pop (bxN P s) 9) ≤ 0 ↔ pop (bxN P s) 9 ≤ 0) from nI_leI (b := 0) (by omega) (by decide)]
      refine ⟨fun z => hrf X ?_ x1, fun z => ?_⟩
      · have : bxN P s = 0 := Classical.byContradiction (fun y => absurd (pop_pos hb y) (by omega))
        unfold dwB
        rw [this]
        rfl
      have h0 : ¬ bxN P s = 0 := fun y => by rw [y] at z; exact z (by decide)
      have hni : i < pop (bxN P s) 9 := by
        rw [hn]
        exact dw_n _ _ (by omega)
      obtain ⟨l1, l2⟩ := zl_tab _ hb i hnl hni
      rw [if_neg l1, l2, ← hdp, xP.2.2.1]
      obtain ⟨d1, d2⟩ := dw_ok P s dr dn (by omega)
      have d3 : dwP P s dr dn < P.1 := tb_lt hbl d1
      rw [nI_leI (by omega) (by omega)]
      refine ⟨fun y => absurd y (by omega), fun _ => u_may xP xs _ h d3 hh am (x1.2.2.1.trans ham) _ (fun S2 f2 => ?_)⟩
      have y1 := x1.W f2
      have ys := y1.2.2.2.2.2
      have hdB : dwB P s dr am dn h = mayK P s am h (dwP P s dr dn) := by
        unfold dwB
        rw [decide_eq_true h0]
        rfl
      rw [x_b0]
      refine ⟨fun y => hrf S2 (hdB.trans y) y1, fun y => ?_⟩
      have hdT : dwB P s dr am dn h = true := by rw [hdB]; exact Bool.not_eq_false _ ▸ y
      have hx : s.1 (dwP P s dr dn) = -(nI 2) := by
        have := d1
        rw [show (bxN P s).testBit (dwP P s dr dn) = _ from heldN_tb _ _ _ _, decide_eq_true d3, Bool.true_and] at this
        exact of_decide_eq_true this
      refine u_move false (y1.pl hP) ys _ d3 _ _ hx (Or.inl rfl) (Or.inr ⟨h, hh, rfl⟩) _ (fun S3 f3 h3 => b_X0_drawOrRefuse_122 (k _ ?_))
      rw [hdT, if_pos rfl]
      unfold dwS
      rw [hdT, if_pos rfl]
      exact y1.E f3 h3
  refine m_X0_drawOrRefuse (fun n0 => ?_)
  rw [s6]
  refine u_bitCount G false S tl _ hb _ ?_
  rw [congrFun (w.1.1 36 rfl) 2, hdr, x_b0, nI_leI (by omega) (by decide)]
  have hno : ¬ (1 < pop (bxN P s) 9 ∧ dr = true) → L_X0_drawOrRefuse_29 G false n0 tl K S (nI h) (nI (pop (bxN P s) 9)) := fun z => b_X0_drawOrRefuse_29 (KP S 0 (by unfold dwN; rw [if_neg z]; exact w) (by rw [if_neg z]))
  refine ⟨fun z => hno (fun y => by rw [z] at y; exact Bool.noConfusion y.2), fun z => ⟨fun y => hno (fun x => absurd x.1 (by omega)), fun y => ?_⟩⟩
  have hc : 1 < pop (bxN P s) 9 ∧ dr = true := ⟨by omega, by cases dr with | false => exact absurd rfl z | true => rfl⟩
  refine u_next false hs _ (fun S2 f2 h2 => ⟨?_, ?_⟩)
  · intro x
    have := (nI_eq (b := 0) (by omega) (by decide)).mp x
    omega
  · have hN := numN_lt dn
    rw [pk_mod (Nat.lt_of_le_of_lt (Nat.div_le_self _ _) hN) (by omega) (by omega)]
    refine KP S2 _ ?_ (by rw [if_pos hc])
    unfold dwN
    rw [if_pos hc]
    exact w.E f2 h2
end CORE7

