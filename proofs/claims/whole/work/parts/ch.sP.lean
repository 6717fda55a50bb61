/-! ===== the program: missing, ask ===== -/
def pwF (e : Nat) : Nat → Int64
  | 0 => lN 0
  | k + 1 => pwF e k ||| ((lN 1) <<< ((((if nI k < nI e then nI k else nI e) * (nI 8)) + (if nI e < nI k then nI k else nI e)).toInt64 &&& 63))
theorem pw_v : ∀ e, e < 7 → pwF e 7 = lN (byN (wE e) 7) := by decide +kernel
theorem by_56 {f : Nat → Nat → Bool} : byN (cM f) 7 < 2 ^ 56 := Nat.lt_of_lt_of_le (byN_lt (fun x _ => Nat.lt_of_lt_of_le (cM_lt f x) (by decide))) (by decide)
section MISS
variable {G : ab_G} {tl : ab_H} {S : ms_S} {g : tSG} {o : Nat → Option tDQ} {V : Nat}
theorem u_pw {lay : List ms_D} {e : Nat} (he : e < 7) (K : Int64 → ms_S → Prop) (k : K (lN (byN (wE e) 7)) S) : ctL G 2 M_X11_pairsWith false [.int (nI e)] lay S tl K := by
  refine ctL.pu (v9 := lN (byN (wE e) 7)) (m_X11_pairsWith (fun n0 => ?_)) k
  suffices KL : ∀ t i, i + t = 7 → L_X11_pairsWith_4 G false n0 (hLy lay S tl) (fun v _ => v = lN (byN (wE e) 7)) ms_0 (nI e) (pwF e i) (nI i) from KL 7 0 rfl
  intro t
  induction t with
  | zero =>
    intro i hi
    have hi : i = 7 := hi
    subst hi
    exact b_X11_pairsWith_4 ⟨fun _ => pw_v e he, fun q => absurd (Int32.le_refl _) q⟩
  | succ t ih =>
    intro i hi
    refine b_X11_pairsWith_4 ?_
    rw [nI_leI (by decide) (by omega), nI_add]
    exact ⟨fun q => absurd q (by omega), fun _ => ih (i + 1) (by omega)⟩
theorem u_tz {fr : Bool} {lay : List ms_D} (f : Nat → Nat → Bool) (K : Int32 → ms_S → Prop) (k0 : byN (cM f) 7 = 0 → ∀ v, K v S) (k : ∀ q : Nat × Nat, prL.find? (fun q => f q.1 q.2) = some q → K (nI (q.1 * 8 + q.2)) S) : ctI G 2 M_J13_numberOfTrailingZeros_l fr [.long (lN (byN (cM f) 7))] lay S tl K := by
  refine ctI.pk (m_J13_numberOfTrailingZeros_l (fun n0 => ?_))
  have h56 := by_56 (f := f)
  rw [nl_ushr (by decide) (by omega), lN_i, lN_i]
  cases hq : prL.find? (fun q => f q.1 q.2) with
  | none =>
    have e0 := cM_none f hq
    exact ⟨fun _ => u_nz0 G fr _ _ _ _ (b_J13_numberOfTrailingZeros_l_25 (k0 e0 _)), fun _ => u_nz0 G fr _ _ _ _ (b_J13_numberOfTrailingZeros_l_25 (k0 e0 _))⟩
  | some q =>
    obtain ⟨q1, q2, q3, q4⟩ := cM_some f hq
    have kq := k q hq
    generalize hM : byN (cM f) 7 = M at *
    have b31 : M.testBit 31 = false := by
      rw [← hM]
      have := cM_tb f (x := 3) (y := 7) (by decide)
      rw [show (3 : Nat) * 8 + 7 = 31 from rfl] at this
      rw [this]
      rfl
    have hm31 : M % 2 ^ 32 < 2 ^ 31 := by
      apply Nat.lt_pow_two_of_testBit
      intro i hi
      rw [Nat.testBit_mod_two_pow]
      by_cases z : i = 31
      · rw [z, b31, Bool.and_false]
      · rw [decide_eq_false (by omega), Bool.false_and]
    rw [nI_md (M := M)]
    by_cases hp : q.1 * 8 + q.2 < 32
    · have e1 : (M % 2 ^ 32).testBit (q.1 * 8 + q.2) = true := by rw [Nat.testBit_mod_two_pow, decide_eq_true hp, q3]; rfl
      have e2 : ∀ i, i < q.1 * 8 + q.2 → (M % 2 ^ 32).testBit i = false := fun i hi => by rw [Nat.testBit_mod_two_pow, q4 i hi, Bool.and_false]
      refine ⟨fun w => ?_, fun _ => u_nz0 G fr _ _ _ _ (b_J13_numberOfTrailingZeros_l_25 (by rw [tz_m hm31 e1 e2]; exact kq))⟩
      exfalso
      rw [show (0 : Int32) = nI 0 from rfl, nI_eq (by omega) (by decide)] at w
      rw [w, Nat.zero_testBit] at e1
      cases e1
    · have e0 : M % 2 ^ 32 = 0 := by
        apply Nat.eq_of_testBit_eq
        intro i
        rw [Nat.testBit_mod_two_pow, Nat.zero_testBit]
        by_cases z : i < 32
        · rw [q4 i (by omega), Bool.and_false]
        · rw [decide_eq_false z, Bool.false_and]
      have e1 : (M / 2 ^ 32).testBit (q.1 * 8 + q.2 - 32) = true := by
        rw [Nat.testBit_div_two_pow, show q.1 * 8 + q.2 - 32 + 32 = q.1 * 8 + q.2 by omega]; exact q3
      have e2 : ∀ i, i < q.1 * 8 + q.2 - 32 → (M / 2 ^ 32).testBit i = false := fun i hi => by rw [Nat.testBit_div_two_pow]; exact q4 _ (by omega)
      refine ⟨fun _ => u_nz0 G fr _ _ _ _ (b_J13_numberOfTrailingZeros_l_25 ?_), fun w => absurd (by rw [e0]; rfl) w⟩
      rw [tz_m (by omega) e1 e2, nI_add, show 32 + (q.1 * 8 + q.2 - 32) = q.1 * 8 + q.2 by omega]
      exact kq
theorem u_left (hQ : bQ S g o V) (K : Int64 → ms_S → Prop) (k : ∀ S', bQ S' g o V → K (lN (byN (cM (misK g.1.1 g.2.2.2.1 (jbC g.1))) 7)) S') : ctL G 4 M_X3_joinsOn false [.ref 67, .int (S.1 82 3)] lB S tl (fun v1 S1 => ctL G 3 M_X6_pairsLeft false [.ref 76, .ref 4, .long v1] lB S1 tl K) := by
  have h4 := hQ.2.2.2.1
  obtain ⟨w1, ⟨v, jb, w2, w2b⟩, w3, w4⟩ := id hQ.2.1
  rw [show S.1 82 3 = nI g.1.2.2.2.1.2.2.2.2 from h4.2.2.2.1]
  refine ctL.tr e_CN e_CN_i e_CN_n (as' := [.ref 31, .int (nI g.1.2.2.2.1.2.2.2.2)]) rfl (fun G' => u_joins (G := G') (S := cN S) hQ.1.1 w1 _ h4.2.2.2.2.1 false w3 _ (fun T f j2 => ?_))
  have c1 := cN_mg (S := S) (T := T) f.2.2.2.2
  have x3 := (c1.1 31 rfl).trans (f.1 31 rfl)
  have q1 : bQ (mgS e_CN S T) g o V := by
    refine bQ_W hQ (wN f (by decide)) ⟨bJd_F c1 rfl rfl j2, ⟨v, jb, w2, bRT_F c1 rfl rfl rfl rfl (bRT_F f rfl rfl rfl rfl w2b)⟩, ?_, ?_⟩
    · rw [x3]; exact w3
    · rw [x3]; exact w4
  generalize mgS e_CN S T = S1 at q1
  refine ctL.tr e_CN e_CN_i e_CN_n (as' := [.ref 40, .ref 0, .long (lN (byN (jbK g.1.1 g.1.2.2.2.1.2.2.2.2 false) 7))]) rfl (fun G' => u_pairs (G := G') (S := cN S1) q1.1.1 q1.2.2.1 (fun e he => bitsN_lt _ _) _ ?_)
  rw [mgS_rs]
  exact k S1 q1
theorem d_missing (hQ : bQ S g o V) (w : Int32) : ctI G 5 M_X11_missing false [.ref 0, .int w] lB S tl (fun v S' => bQ S' g o (V + 5000) ∧ v = A_missing g w) := by
  refine ctI.ab (fun K hK => m_X11_missing (fun n0 => ?_))
  unfold A_missing at hK
  have h9 : ¬ inK w 0 1 = true → L_X11_missing_9 G false n0 tl K S := fun q => b_X11_missing_9 (hK _ _ ⟨bQ_m hQ (by omega), by rw [if_neg q]⟩)
  refine ⟨fun z => h9 (fun q => (of_decide_eq_true q).1 z), fun z => ⟨fun y => ?_, fun y => h9 (fun q => y (Int32.not_lt.mp (of_decide_eq_true q).2))⟩⟩
  rw [if_pos (show inK w 0 1 = true from decide_eq_true ⟨z, Int32.not_lt.mpr y⟩)] at hK
  refine u_left hQ _ (fun S1 q1 => ?_)
  have q2 : bQ S1 g o (V + 5000) := bQ_m q1 (by omega)
  generalize misK g.1.1 g.2.2.2.1 (jbC g.1) = f at *
  have e2 : (msF f 28).2 = match prL.find? (fun q => f q.1 q.2) with | none => -(nI 2) | some q => nI (10 * q.1 + q.2) := ms_3 f prL (0, -(nI 2)) (by decide) (fun q hq => by have := pr_lt q hq; omega)
  refine ⟨fun x => ?_, fun x => ?_⟩
  · rw [if_pos x] at hK
    exact u_bit7 G S1 tl (cM f) (fun x _ => cM_lt f x) _ (hK _ _ ⟨q2, by rw [cnt_0]⟩)
  · rw [if_neg x, e2] at hK
    have h56 := by_56 (f := f)
    refine u_tz f _ (fun e0 v => ?_) (fun q hq => ?_)
    · refine ⟨fun _ => b_X11_missing_77 (hK _ _ ⟨q2, ?_⟩), fun c => ?_⟩
      · cases hq : prL.find? (fun q => f q.1 q.2) with
        | none => rfl
        | some q =>
          have := (cM_some f hq).2.2.1
          rw [e0, Nat.zero_testBit] at this
          cases this
      · exfalso
        rw [e0] at c
        exact c (by decide)
    · obtain ⟨q3, q4, q5, -⟩ := cM_some f hq
      rw [hq] at hK
      refine ⟨fun c => ?_, fun _ => ⟨by decide, by decide, b_X11_missing_77 (hK _ _ ⟨q2, ?_⟩)⟩⟩
      · exfalso
        have h0 : byN (cM f) 7 = 0 := (lN_eq0 (by omega)).mp c
        rw [h0, Nat.zero_testBit] at q5
        cases q5
      · rw [pk_mod (by omega) (by decide) (by decide), pk_div (by omega) (by decide) (by decide), pk_mul, nI_add]
        show _ = nI (10 * q.1 + q.2)
        congr 1
        omega
theorem d_ask (hQ : bQ S g o V) (w : Int32) : ctI G 5 M_X11_ask false [.ref 0, .int w] lB S tl (fun v S' => bQ S' g o (V + 5000) ∧ v = A_ask g w) := by
  refine ctI.ab (fun K hK => m_X11_ask (fun n0 => ?_))
  unfold A_ask at hK
  have h9 : ¬ inK w 0 1 = true → L_X11_ask_9 G false n0 tl K S := fun q => b_X11_ask_9 (hK _ _ ⟨bQ_m hQ (by omega), by rw [if_neg q]⟩)
  refine ⟨fun z => h9 (fun q => (of_decide_eq_true q).1 z), fun z => ⟨fun y => ?_, fun y => h9 (fun q => y (Int32.not_lt.mp (of_decide_eq_true q).2))⟩⟩
  rw [if_pos (show inK w 0 1 = true from decide_eq_true ⟨z, Int32.not_lt.mpr y⟩)] at hK
  refine u_left hQ _ (fun S1 q1 => ?_)
  have q2 : bQ S1 g o (V + 5000) := bQ_m q1 (by omega)
  generalize misK g.1.1 g.2.2.2.1 (jbC g.1) = f at *
  have K112 : (akB f 7).1 = (akB f 7).1 → ∀ a b, a = (akB f 7).1 → b = nI (akB f 7).2 → ((w = 0 → L_X11_ask_112 G false n0 tl K S1 a) ∧ (¬ w = 0 → L_X11_ask_112 G false n0 tl K S1 b)) := by
    intro _ a b ha hb
    refine ⟨fun c => b_X11_ask_112 (hK _ _ ⟨q2, ?_⟩), fun c => b_X11_ask_112 (hK _ _ ⟨q2, ?_⟩)⟩
    · rw [if_pos c, ha]
    · rw [if_neg c, hb]
  suffices KL : ∀ t e (a b : Int32), e + t = 7 → (e = 0 → a = nI 0 ∧ b = nI 64) → (¬ e = 0 → a = (akB f e).1 ∧ ¬ (akB f e).1 < 0 ∧ b = nI (akB f e).2) → L_X11_ask_47 G false n0 tl K S1 w (lN (byN (cM f) 7)) a b (nI e) from KL 7 0 _ _ rfl (fun _ => ⟨rfl, rfl⟩) (fun q => absurd rfl q)
  intro t
  induction t with
  | zero =>
    intro e a b he h0 h1
    have he : e = 7 := he
    subst he
    obtain ⟨a1, a2, a3⟩ := h1 (by decide)
    exact b_X11_ask_47 ⟨fun _ => K112 rfl a b a1 a3, fun q => absurd (Int32.le_refl _) q⟩
  | succ t ih =>
    intro e a b he h0 h1
    refine b_X11_ask_47 ?_
    rw [nI_leI (by decide) (by omega)]
    refine ⟨fun q => absurd q (by omega), fun _ => u_pw (e := e) (by omega) _ ?_⟩
    rw [nl_and, byN_and (fun x _ => Nat.lt_of_lt_of_le (cM_lt f x) (by decide)) (fun x _ => Nat.lt_of_lt_of_le (bitsN_lt _ 7) (by decide))]
    refine u_bit7 G S1 tl (fun x => cM f x &&& wE e x) (fun x _ => Nat.lt_of_le_of_lt Nat.and_le_left (cM_lt f x)) _ ?_
    refine u_bit7 G S1 tl (cM f) (fun x _ => cM_lt f x) _ ?_
    rw [cnt_e, cnt_0, ← cnt_t f e]
    obtain ⟨l1, l2⟩ := akF_le f e 28
    have eW : (if nI (akF f e 28).1 < nI (akF f e 28).2 - nI (akF f e 28).1 then nI (akF f e 28).2 - nI (akF f e 28).1 else nI (akF f e 28).1) = nI (akW (akF f e 28)) := by
      rw [pk_sub l1]
      unfold akW
      by_cases c : (akF f e 28).1 ≤ (akF f e 28).2 - (akF f e 28).1
      · rw [if_pos c]
        by_cases c2 : (akF f e 28).1 < (akF f e 28).2 - (akF f e 28).1
        · rw [if_pos ((nI_ltI (by omega) (by omega)).mpr c2)]
        · rw [if_neg (fun q => c2 ((nI_ltI (by omega) (by omega)).mp q))]
          congr 1
          omega
      · rw [if_neg c, if_neg (fun q => by have := (nI_ltI (by omega) (by omega)).mp q; omega)]
    rw [eW]
    have hw : akW (akF f e 28) ≤ 28 := by
      unfold akW
      split <;> omega
    have eB : akB f (e + 1) = if (akB f e).1 < 0 ∨ akW (akF f e 28) < (akB f e).2 then (nI e, akW (akF f e 28)) else akB f e := rfl
    have hle := akB_le f e
    have n0e : ¬ nI e < 0 := by
      rw [show (0 : Int32) = nI 0 from rfl, nI_ltI (by omega) (by decide)]
      exact Nat.not_lt_zero _
    by_cases e0 : e = 0
    · obtain ⟨a1, a2⟩ := h0 e0
      rw [a2, nI_leI (by decide) (by omega)]
      refine ⟨fun q => absurd q (by omega), fun _ => b_X11_ask_95 ?_⟩
      rw [nI_add]
      refine ih (e + 1) _ _ (by omega) (fun q => absurd q (by omega)) (fun _ => ?_)
      rw [eB, if_pos (Or.inl (by rw [e0]; show -(nI 1) < 0; decide))]
      exact ⟨rfl, n0e, rfl⟩
    · obtain ⟨a1, a2, a3⟩ := h1 e0
      rw [a3, nI_leI (by omega) (by omega)]
      refine ⟨fun q => b_X11_ask_95 ?_, fun q => b_X11_ask_95 ?_⟩
      · rw [nI_add]
        refine ih (e + 1) _ _ (by omega) (fun q => absurd q (by omega)) (fun _ => ?_)
        rw [eB, if_neg (fun w => by rcases w with w | w; exact a2 w; omega)]
        exact ⟨a1, a2, rfl⟩
      · rw [nI_add]
        refine ih (e + 1) _ _ (by omega) (fun q => absurd q (by omega)) (fun _ => ?_)
        rw [eB, if_pos (Or.inr (by omega))]
        exact ⟨rfl, n0e, rfl⟩
end MISS

