/-! ===== the program: which ends join ===== -/
theorem evS_c {nm nm' : Nat → Int64} {k x : Nat} {s : List Int64 × Int32} (h : k = 1 → nm x = nm' x) : evS nm k x s = evS nm' k x s := by
  unfold evS
  split
  · rename_i hk
    rw [mVal_01 (nv' := nm' x) (pI' := nI x) (x' := 0) (y' := 0) hk (fun _ => rfl) h]
  · rfl
theorem evR_c {nm nm' : Nat → Int64} {kn : Nat → Nat × Nat} : ∀ {j : Nat}, (∀ i, i < j → (kn i).1 = 1 → nm (kn i).2 = nm' (kn i).2) → evR nm kn j = evR nm' kn j
  | 0, _ => rfl
  | j + 1, h => by
    show evS nm (kn j).1 (kn j).2 (evR nm kn j) = evS nm' (kn j).1 (kn j).2 (evR nm' kn j)
    rw [evR_c (fun i hi => h i (by omega)), evS_c (h j (by omega))]
theorem anB_f {f : Nat → Bool} : ∀ {n : Nat}, anB f n = false → ∀ j, j < n → f j = false
  | 0, _, j, hj => absurd hj (Nat.not_lt_zero _)
  | n + 1, h, j, hj => by
    have h : (anB f n || f n) = false := h
    rw [Bool.or_eq_false_iff] at h
    by_cases z : j = n
    · rw [z]; exact h.2
    · exact anB_f h.1 j (by omega)
theorem anB_t {f : Nat → Bool} {j : Nat} (hf : f j = true) : ∀ {n : Nat}, j < n → anB f n = true
  | 0, hj => absurd hj (Nat.not_lt_zero _)
  | n + 1, hj => by
    show (anB f n || f n) = true
    by_cases z : j = n
    · rw [← z, hf, Bool.or_true]
    · rw [anB_t hf (show j < n by omega), Bool.true_or]
theorem anB_ex {f : Nat → Bool} : ∀ {n : Nat}, anB f n = true → ∃ j, j < n ∧ f j = true
  | 0, h => by cases h
  | n + 1, h => by
    have h : (anB f n || f n) = true := h
    cases hb : f n with
    | true => exact ⟨n, by omega, hb⟩
    | false =>
      rw [hb, Bool.or_false] at h
      obtain ⟨j, h1, h2⟩ := anB_ex h
      exact ⟨j, by omega, h2⟩
theorem evQ_day {q : tDQ} (hv : vQ q) (hd : dyQ q = false) (a b c d e f g g' : Nat) : evQ q (env a b c d e f g) = evQ q (env a b c d e f g') := by
  unfold evQ
  rw [evR_c (nm' := env a b c d e f g') (fun i hi h1 => ?_)]
  have h2 := anB_f hd i hi
  have h3 := (hv.2.2.2 i hi).2.1 h1
  have h4 : ¬ (q.2 i).2 = 6 := fun z => by
    have : q.2 i = (1, 6) := Prod.ext h1 z
    rw [decide_eq_true this] at h2
    cases h2
  unfold env
  rcases (show (q.2 i).2 = 0 ∨ (q.2 i).2 = 1 ∨ (q.2 i).2 = 2 ∨ (q.2 i).2 = 3 ∨ (q.2 i).2 = 4 ∨ (q.2 i).2 = 5 by omega) with z | z | z | z | z | z <;> (rw [z]; rfl)
abbrev jmN (P : tPL) (dy : Nat) (aj : Bool) : Nat := byN (jbK P dy aj) 7
def keyN (q : Option tDQ) (dy : Nat) : Nat := match q with
  | some q => if dyQ q = true then dy else 0
  | none => 0
def bJd (S : ms_S) (P : tPL) (o : Nat → Option tDQ) : Prop := ∀ i, i < 128 → S.2.2.2.1 33 i = -(nI 1) ∨ ∃ key, key < 2 ^ 20 ∧ S.2.2.2.1 33 i = nI key ∧ ∀ dy, keyN (o 0) dy = key → S.2.2.2.2 32 i = lN (jmN P dy false)
def aJo : Nat → Bool := fun a => aW a || Nat.beq a 32 || Nat.beq a 33
theorem aJo_pl : plA aJo := ⟨rfl, rfl, rfl, rfl, rfl, rfl, rfl, rfl, rfl, rfl⟩
theorem aJo_es : esA aJo := ⟨rfl, rfl, rfl, rfl⟩
theorem aWJ (a : Nat) (h : aJo a = false) : aW a = false := by
  unfold aJo at h
  simp only [Bool.or_eq_false_iff] at h
  exact h.1.1
theorem bJd_F {A : Nat → Bool} {S S' : ms_S} {P : tPL} {o : Nat → Option tDQ} (f : cF A S S') (h2 : A 32 = false) (h3 : A 33 = false) (h : bJd S P o) : bJd S' P o := by
  unfold bJd
  rw [f.2.2.1 33 h3, f.2.2.2.1 32 h2]
  exact h
theorem jb_lt (P : tPL) (dy : Nat) (aj : Bool) (x : Nat) : jbK P dy aj x < 128 := bitsN_lt _ 7
def upB (jb : Nat → Nat) (a B : Nat) : Nat → Nat := fun f => if f = a then B else jb f
theorem by_z {jb : Nat → Nat} {a : Nat} : byN (upB jb a 0) (a + 1) = byN jb a := by
  show byN (upB jb a 0) a + upB jb a 0 a * 256 ^ a = _
  rw [show upB jb a 0 a = 0 from if_pos rfl, Nat.zero_mul, Nat.add_zero]
  exact byN_c (fun f hf => if_neg (by omega))
theorem by_e {jb : Nat → Nat} {a : Nat} : byN (upB jb a (jb a)) (a + 1) = byN jb (a + 1) := by
  refine byN_c (fun f hf => ?_)
  unfold upB
  by_cases z : f = a
  · rw [if_pos z, z]
  · rw [if_neg z]
theorem by_set {jb : Nat → Nat} {a B c : Nat} (hB : B < 256) (hc : c < 8) (hj : ∀ f, f < a → jb f < 256) : byN (upB jb a B) (a + 1) ||| 2 ^ (a * 8 + c) = byN (upB jb a (B ||| 2 ^ c)) (a + 1) := by
  have h1 : ∀ f, f < a + 1 → upB jb a B f < 256 := fun f hf => by
    unfold upB
    by_cases z : f = a
    · rw [if_pos z]; exact hB
    · rw [if_neg z]; exact hj f (by omega)
  have hBc : B ||| 2 ^ c < 2 ^ 8 := Nat.or_lt_two_pow (n := 8) hB (Nat.pow_lt_pow_right (by decide) hc)
  have h2 : ∀ f, f < a + 1 → upB jb a (B ||| 2 ^ c) f < 256 := fun f hf => by
    unfold upB
    by_cases z : f = a
    · rw [if_pos z]; exact hBc
    · rw [if_neg z]; exact hj f (by omega)
  apply by_ext
  intro f i hi
  rw [Nat.testBit_or, byN_tb hi h1, byN_tb hi h2, Nat.testBit_two_pow]
  unfold upB
  by_cases z : f = a
  · subst z
    rw [if_pos rfl, if_pos rfl, Nat.testBit_or, Nat.testBit_two_pow, decide_eq_true (show f < f + 1 by omega), Bool.true_and, Bool.true_and]
    congr 1
    exact decide_eq_decide.mpr (by omega)
  · rw [if_neg z, if_neg z, decide_eq_false (show ¬ a * 8 + c = f * 8 + i by omega), Bool.or_false]
theorem like_N : byN (fun x => 2 ^ x) 7 = 18049651735527937 := by decide
theorem all_N : byN (fun _ => 127) 7 = 35887507618889599 := by decide
theorem bits_eq : ∀ x, x < 7 → bitsN (fun y => decide (x = y)) 7 = 2 ^ x := by decide +kernel
theorem bits_al : bitsN (fun _ => true) 7 = 127 := by decide
section CORE2
variable {G : ab_G} {S : ms_S} {tl : ab_H} {P : tPL} {o : Nat → Option tDQ}
set_option maxHeartbeats 1000000 in
theorem u_joins (hP : bPl S P o) (hJ : bJd S P o) (dy : Nat) (hdy : dy < 2 ^ 20) (aj : Bool) (ha : S.1 31 6 = bI aj) (K : Int64 → ms_S → Prop) (k : ∀ S', cF aJo S S' → bJd S' P o → K (lN (jmN P dy aj)) S') : ctL G 4 M_X3_joinsOn false [.ref 31, .int (nI dy)] lC S tl K := by
  obtain ⟨p1, p2, p3, p4, p5, l0, l1, l2, p6⟩ := id hP
  refine m_X3_joinsOn (fun n0 => ?_)
  rw [ha, x_b0]
  have KT : aj = true → K 35887507618889599 S := by
    intro z
    have k := k S cF.rf hJ
    rw [z] at k
    have e : jmN P dy true = 35887507618889599 := by
      rw [← all_N]
      refine byN_c (fun f hf => ?_)
      show bitsN (jnK P dy true f) 7 = 127
      rw [← bits_al]
      congr 1
      funext y
      unfold jnK
      rw [Bool.or_true]
    rw [e] at k
    exact k
  refine ⟨fun z => ?_, fun z => KT (nf_t z)⟩
  subst z
  obtain ⟨t1, t2⟩ := p6 0 (by decide)
  refine u_told0 G S tl (o 0) l0 _ ?_
  rw [x_b0]
  have hjn : ∀ d x y, jnK P d false x y = (if (o 0).isSome = true then (match evW (o 0) (env x y 0 (absd x y) 0 0 d) with | none => decide (x = y) | some v => decide (¬ v = 0)) else decide (x = y)) := fun d x y => by
    unfold jnK
    rw [t1, t2, Bool.or_false]
    rfl
  refine ⟨fun z => ?_, fun z => ?_⟩
  · have k := k S cF.rf hJ
    have e : jmN P dy false = 18049651735527937 := by
      rw [← like_N]
      refine byN_c (fun f hf => ?_)
      show bitsN (jnK P dy false f) 7 = 2 ^ f
      rw [← bits_eq f hf]
      congr 1
      funext y
      rw [hjn, if_neg (by rw [z]; decide)]
    rw [e] at k
    exact k
  obtain ⟨q, hq⟩ := Option.isSome_iff_exists.mp (nf_t z)
  rw [hq] at l0
  obtain ⟨hs, hv, hd4, hkn⟩ := l0
  have hd4 : S.1 13 4 = bI (dyQ q) := hd4
  have hjq : ∀ d x y, jnK P d false x y = (match evQ q (env x y 0 (absd x y) 0 0 d) with | none => decide (x = y) | some v => decide (¬ v = 0)) := fun d x y => by
    rw [hjn, hq]
    rfl
  have hjd : ∀ d, keyN (o 0) d = keyN (o 0) dy → jmN P d false = jmN P dy false := by
    intro d hd
    rw [hq] at hd
    have hd : (if dyQ q = true then d else 0) = (if dyQ q = true then dy else 0) := hd
    cases hb : dyQ q with
    | true =>
      rw [hb, if_pos rfl, if_pos rfl] at hd
      rw [hd]
    | false =>
      refine byN_c (fun f hf => ?_)
      show bitsN (jnK P d false f) 7 = bitsN (jnK P dy false f) 7
      congr 1
      funext y
      rw [hjq, hjq, evQ_day hv hb _ _ _ _ _ _ d dy]
  have hkey : keyN (o 0) dy < 2 ^ 20 := by
    rw [hq]
    show (if dyQ q = true then dy else 0) < _
    split <;> omega
  suffices K44 : L_X3_joinsOn_44 G false n0 tl K S (nI dy) (nI (keyN (o 0) dy)) by
    rw [hd4, x_b0]
    rw [hq] at K44
    have K44 : L_X3_joinsOn_44 G false n0 tl K S (nI dy) (nI (if dyQ q = true then dy else 0)) := K44
    refine ⟨fun y => ?_, fun y => ?_⟩
    · rw [if_neg (by rw [y]; decide)] at K44
      exact K44
    · rw [if_pos (nf_t y)] at K44
      exact K44
  generalize hky : keyN (o 0) dy = key at hkey hjd ⊢
  refine b_X3_joinsOn_44 ?_
  rw [pk_andN (n := key) (by omega) (m := nI 127) 7 (by decide), nI_clamp (by omega)]
  have hm : key % 2 ^ 7 < 128 := Nat.mod_lt _ (by decide)
  have hv7 : vp_in (nI (key % 2 ^ 7)) 128 := (x_vp (by omega)).mpr hm
  refine ⟨hv7, fun y => ⟨hv7, ?_⟩, fun _ => u_scene0 G S tl _ _ _ _ (fun S1 f1 n1 => ?_)⟩
  · rcases hJ (key % 2 ^ 7) hm with w | ⟨key2, w1, w2, w3⟩
    · rw [w] at y
      exact absurd y (fun y => by
        have h1 := nI_pos (n := key) (by omega)
        rw [← y] at h1
        exact h1 (neg_neg (by decide) (by decide)))
    · rw [w2, nI_eq (by omega) (by omega)] at y
      rw [w3 dy (by rw [hky, y])]
      exact k S cF.rf hJ
  -- all pairs
  have hP1 := bPl_F f1 aW_pl hP
  have hbk : ∀ f, jbK P dy false f < 256 := fun f => Nat.lt_of_lt_of_le (jb_lt P dy false f) (by decide)
  have KO : ∀ r a (X : ms_S), a + r = 7 → cF aW S1 X → nmS X 16 0 0 dy → L_X3_joinsOn_83 G false n0 tl K X (nI key) (nI (key % 2 ^ 7)) (lN (byN (jbK P dy false) a)) (nI a) := by
    intro r
    induction r with
    | zero =>
      intro a X hr x1 x2
      have hr : a = 7 := hr
      subst hr
      refine b_X3_joinsOn_83 ?_
      rw [nI_clamp (by omega)]
      refine ⟨fun _ => ⟨hv7, hv7, k _ ((((f1.tr x1).mono aWJ).tr (cF.sL rfl)).tr (cF.sA rfl)) (fun i hi => ?_)⟩, fun y => absurd (Int32.le_refl _) y⟩
      show upd (X.2.2.2.1 33) (key % 2 ^ 7) (nI key) i = -(nI 1) ∨ ∃ key2, key2 < 2 ^ 20 ∧ upd (X.2.2.2.1 33) (key % 2 ^ 7) (nI key) i = nI key2 ∧ ∀ d, keyN (o 0) d = key2 → vp_updL (X.2.2.2.2 32) (key % 2 ^ 7) (lN (byN (jbK P dy false) 7)) i = lN (jmN P d false)
      by_cases y : i = key % 2 ^ 7
      · subst y
        rw [upd_at, updL_at]
        exact Or.inr ⟨key, hkey, rfl, fun d hd => by rw [hjd d hd]⟩
      · rw [upd_no y, updL_no y, (f1.tr x1).2.2.1 33 rfl, (f1.tr x1).2.2.2.1 32 rfl]
        exact hJ i hi
    | succ r ih =>
      intro a X hr x1 x2
      refine b_X3_joinsOn_83 ?_
      rw [nI_leI (by decide) (by omega)]
      refine ⟨fun y => absurd y (by omega), fun _ => ?_⟩
      rw [← by_z]
      have KI : ∀ t c (Y : ms_S), c + t = 7 → cF aW S1 Y → nmS Y 16 0 0 dy → L_X3_joinsOn_93 G false n0 tl K Y (nI key) (nI (key % 2 ^ 7)) (lN (byN (upB (jbK P dy false) a (bitsN (jnK P dy false a) c)) (a + 1))) (nI a) (nI c) := by
        intro t
        induction t with
        | zero =>
          intro c Y ht y1 y2
          have ht : c = 7 := ht
          subst ht
          refine b_X3_joinsOn_93 ?_
          rw [nI_add]
          refine ⟨fun _ => ?_, fun y => absurd (Int32.le_refl _) y⟩
          have := ih (a + 1) Y (by omega) y1 y2
          rw [← by_e] at this
          exact this
        | succ t iht =>
          intro c Y ht y1 y2
          have hPY := bPl_F (f1.tr y1) aW_pl hP
          have l0Y := hPY.2.2.2.2.2.1
          have hab := absd_lt (x := a) (y := c) (by omega) (by omega)
          have hB : bitsN (jnK P dy false a) c < 256 := Nat.lt_of_lt_of_le (bitsN_lt _ c) (Nat.pow_le_pow_right (n := 2) (i := c) (j := 8) (by decide) (by omega))
          refine b_X3_joinsOn_93 ?_
          rw [nI_leI (by decide) (by omega), ab_tab _ (by omega) _ (by omega)]
          refine ⟨fun y => absurd y (by omega), fun _ => u_work0 G Y tl (o 0) l0Y _ _ _ _ _ _ _ (by omega) (by omega) (by omega) (by omega) (by omega) (by omega) (by omega) y2 _ (fun Z f3 n3 hbd => ?_)⟩
          have z1 := y1.tr f3
          have KT : jnK P dy false a c = true → L_X3_joinsOn_145 G false n0 tl K Z (nI key) (nI (key % 2 ^ 7)) (lN (byN (upB (jbK P dy false) a (bitsN (jnK P dy false a) c)) (a + 1))) (nI a) (nI c) := by
            intro w
            refine b_X3_joinsOn_145 ?_
            rw [pk_mul, nI_add, nl_shl (by omega), nl_or, Nat.one_mul, by_set hB (by omega) (fun f _ => hbk f), ← bitsN_1 w]
            refine b_X3_joinsOn_160 ?_
            rw [nI_add]
            exact iht (c + 1) Z (by omega) z1 n3
          have KF : jnK P dy false a c = false → L_X3_joinsOn_160 G false n0 tl K Z (nI key) (nI (key % 2 ^ 7)) (lN (byN (upB (jbK P dy false) a (bitsN (jnK P dy false a) c)) (a + 1))) (nI a) (nI c) := by
            intro w
            refine b_X3_joinsOn_160 ?_
            rw [nI_add, ← bitsN_0 w]
            exact iht (c + 1) Z (by omega) z1 n3
          have hj := hjq dy a c
          rw [lg_cmp_eq, lg_cmp_eq]
          rw [hq] at hbd ⊢
          have hbd : ∀ v, evQ q (env a c 0 (absd a c) 0 0 dy) = some v → bd v := hbd
          show ((evQ q (env a c 0 (absd a c) 0 0 dy)).getD NTM = NTM → _) ∧ (¬ (evQ q (env a c 0 (absd a c) 0 0 dy)).getD NTM = NTM → ((evQ q (env a c 0 (absd a c) 0 0 dy)).getD NTM = lN 0 → _) ∧ (¬ (evQ q (env a c 0 (absd a c) 0 0 dy)).getD NTM = lN 0 → _))
          rw [nI_eq (by omega) (by omega)]
          generalize evQ q (env a c 0 (absd a c) 0 0 dy) = ev at hj hbd ⊢
          cases ev with
          | none =>
            have hj : jnK P dy false a c = decide (a = c) := hj
            exact ⟨fun _ => ⟨fun w => KT (by rw [hj]; exact decide_eq_true w), fun w => KF (by rw [hj]; exact decide_eq_false w)⟩, fun w => absurd rfl w⟩
          | some v =>
            have hj : jnK P dy false a c = decide (¬ v = 0) := hj
            have hv2 := hbd v rfl
            refine ⟨fun w => absurd hv2 (by rw [show v = NTM from w]; exact nbd_N), fun _ => ⟨fun w => KF (by rw [hj]; exact decide_eq_false (fun y => y w)), fun w => KT (by rw [hj]; exact decide_eq_true w)⟩⟩
      exact KI 7 0 X rfl x1 x2
  exact KO 7 0 S1 rfl cF.rf n1
end CORE2

