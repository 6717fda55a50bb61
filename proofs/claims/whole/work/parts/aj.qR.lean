/-! ===== the program: sights ===== -/
theorem soA_iff {N : tN} {gold : Nat → Nat} {d : Nat} : ∀ {n : Nat}, soA N gold d n = true ↔ ∀ k, k < n → soK N gold d k = true
  | 0 => ⟨fun _ k hk => absurd hk (Nat.not_lt_zero _), fun _ => rfl⟩
  | n + 1 => by
    show (soA N gold d n && soK N gold d n) = true ↔ _
    rw [Bool.and_eq_true, soA_iff (n := n)]
    constructor
    · rintro ⟨h1, h2⟩ k hk
      by_cases e : k = n
      · rw [e]; exact h2
      · exact h1 k (by omega)
    · intro h
      exact ⟨fun k hk => h k (by omega), h n (by omega)⟩
/-- the last day that a sight tells of -/
def lsN (N : tN) : Nat → Nat
  | 0 => 0
  | k + 1 => if ctN N k = true ∧ (N.2.2 k).1 = 2 then max (lsN N k) (N.2.2 k).2.1 else lsN N k
theorem ls_ge {N : tN} {k : Nat} (h : ctN N k = true ∧ (N.2.2 k).1 = 2) : ∀ n, k < n → (N.2.2 k).2.1 ≤ lsN N n
  | 0, hk => absurd hk (Nat.not_lt_zero _)
  | n + 1, hk => by
    unfold lsN
    by_cases e : k = n
    · rw [← e, if_pos h]
      exact Nat.le_max_right _ _
    · have ih := ls_ge h n (by omega)
      split
      · exact Nat.le_trans ih (Nat.le_max_left _ _)
      · exact ih
/-- behind it every sight agrees -/
theorem ls_so {N : tN} {gl : Nat → Nat} {d n : Nat} (h : lsN N n < d) : soA N gl d n = true := soA_iff.mpr (fun k hk => by
  unfold soK
  by_cases z : ctN N k = true ∧ (N.2.2 k).1 = 2
  · have := ls_ge z n hk
    rw [decide_eq_true (show ¬ (N.2.2 k).2.1 = d by omega), Bool.true_or, Bool.or_true, Bool.or_true]
  · by_cases y : ctN N k = true
    · rw [decide_eq_true (show ¬ (N.2.2 k).1 = 2 from fun w => z ⟨y, w⟩), Bool.true_or, Bool.or_true]
    · cases hq : ctN N k with
      | true => exact absurd hq y
      | false => rfl)
section CORE18
variable {G : ab_G} {S : ms_S} {tl : ab_H} {P : tPL} {N : tN} {o : Nat → Option tDQ} {s : tES} {dn : Nat}
theorem ls_60 (hN : bNt S P N) : ∀ n, n ≤ N.1 → lsN N n ≤ 60
  | 0, _ => Nat.zero_le _
  | n + 1, hn => by
    have ih := ls_60 hN n (by omega)
    unfold lsN
    split
    · rename_i hz
      have := ((hN.2.2.2.2 n (by omega)).2.2.2.2.2.2.2.2.1 hz.2).1
      omega
    · exact ih
theorem u_last (hN : bNt S P N) (K : Int32 → ms_S → Prop) (k : K (nI (lsN N (kbN N))) S) : ctI G 2 M_X6_lastSight false [.ref 40, .int (nI (bitsN (ctN N) (kbN N)))] lC S tl K := by
  have hkb := kb_le hN
  obtain ⟨n1, n2, n3, n4, n5⟩ := id hN
  have hb24 : bitsN (ctN N) (kbN N) < 2 ^ 24 := Nat.lt_of_lt_of_le (bitsN_lt _ _) (Nat.pow_le_pow_right (by decide) (by omega))
  refine m_X6_lastSight (fun n0 => ?_)
  suffices KL : ∀ t i, i + t = 24 → L_X6_lastSight_4 G false n0 tl K S (nI (bitsN (ctN N) (kbN N))) (nI (lsN N (min i (kbN N)))) (nI i) by
    have := KL 24 0 rfl
    rw [Nat.zero_min] at this
    exact this
  intro t
  induction t with
  | zero =>
    intro i hi
    have hi : i = 24 := hi
    subst hi
    refine b_X6_lastSight_4 ⟨fun _ => ?_, fun z => absurd (Int32.le_refl _) z⟩
    rw [Nat.min_eq_right (by omega)]
    exact k
  | succ t ih =>
    intro i hi
    have hn := ih (i + 1) (by omega)
    have hv : vp_in (nI i) 24 := (x_vp (by omega)).mpr (by omega)
    have hc : (nI i).toNatClampNeg = i := nI_clamp (by omega)
    have h60 := ls_60 hN (min i (kbN N)) (by omega)
    refine b_X6_lastSight_4 ?_
    rw [nI_leI (by decide) (by omega), tb_u (by omega) (by omega), bitsN_tb, Bool.and_eq_true, decide_eq_true_eq]
    refine ⟨fun z => absurd z (by omega), fun _ => ⟨fun z => ⟨hv, ?_⟩, fun z => b_X6_lastSight_40 ?_⟩⟩
    · obtain ⟨hik, hct⟩ := z
      obtain ⟨e1, e2, _, _, _, e6⟩ := n5 i (by omega)
      have hk3 := e6.1
      rw [Nat.min_eq_left (by omega), show lsN N (i + 1) = if ctN N i = true ∧ (N.2.2 i).1 = 2 then max (lsN N i) (N.2.2 i).2.1 else lsN N i from rfl] at hn
      rw [Nat.min_eq_left (by omega)] at h60 ⊢
      rw [hc, e1, e2, nI_eq (by omega) (by decide)]
      refine ⟨fun w => ⟨hv, b_X6_lastSight_40 ?_⟩, fun w => b_X6_lastSight_40 ?_⟩
      · have h2 := (e6.2.2.2.1 w).1
        rw [if_pos ⟨hct, w⟩] at hn
        rw [nI_add, show (if nI (lsN N i) < nI (N.2.2 i).2.1 then nI (N.2.2 i).2.1 else nI (lsN N i)) = nI (max (lsN N i) (N.2.2 i).2.1) from by
          by_cases q : lsN N i < (N.2.2 i).2.1
          · rw [if_pos ((nI_ltI (by omega) (by omega)).mpr q), Nat.max_eq_right (by omega)]
          · rw [if_neg (fun w => q ((nI_ltI (by omega) (by omega)).mp w)), Nat.max_eq_left (by omega)]]
        exact hn
      · rw [if_neg (fun q => w q.2)] at hn
        rw [nI_add]
        exact hn
    · rw [nI_add]
      by_cases hik : i < kbN N
      · rw [Nat.min_eq_left (by omega), show lsN N (i + 1) = if ctN N i = true ∧ (N.2.2 i).1 = 2 then max (lsN N i) (N.2.2 i).2.1 else lsN N i from rfl, if_neg (fun q => z ⟨hik, q.1⟩)] at hn
        rw [Nat.min_eq_left (by omega)]
        exact hn
      · rw [Nat.min_eq_right (by omega)] at hn ⊢
        exact hn
theorem u_sights (hP : bPl S P o) (hN : bNt S P N) (hs : bES S P s dn) (d : Nat) (hd : d < 2 ^ 20) (K : Int32 → ms_S → Prop) (k : K (bI (soA N s.2.1 d (kbN N))) S) : ctI G 1 M_X6_sightsAgree false [.ref 40, .int (nI (bitsN (ctN N) (kbN N))), .int (nI d), .ref 46] lC S tl K := by
  have p2 := hP.2.1
  have hkb := kb_le hN
  obtain ⟨n1, n2, n3, n4, n5⟩ := id hN
  have hb24 : bitsN (ctN N) (kbN N) < 2 ^ 24 := Nat.lt_of_lt_of_le (bitsN_lt _ _) (Nat.pow_le_pow_right (by decide) (by omega))
  refine m_X6_sightsAgree (fun n0 => ?_)
  suffices KL : ∀ t i, i + t = 24 → (∀ q, q < i → q < kbN N → soK N s.2.1 d q = true) → L_X6_sightsAgree_3 G false n0 tl K S (nI (bitsN (ctN N) (kbN N))) (nI d) (nI i) from KL 24 0 rfl (fun q hq => absurd hq (Nat.not_lt_zero _))
  intro t
  induction t with
  | zero =>
    intro i hi h
    have hi : i = 24 := hi
    subst hi
    refine b_X6_sightsAgree_3 ⟨fun _ => ?_, fun z => absurd (Int32.le_refl _) z⟩
    rw [soA_iff.mpr (fun q hq => h q (by omega) hq)] at k
    exact k
  | succ t ih =>
    intro i hi h
    have hv : vp_in (nI i) 24 := (x_vp (by omega)).mpr (by omega)
    have hc : (nI i).toNatClampNeg = i := nI_clamp (by omega)
    have hnext : (i < kbN N → soK N s.2.1 d i = true) → L_X6_sightsAgree_96 G false n0 tl K S (nI (bitsN (ctN N) (kbN N))) (nI d) (nI i) := fun z => b_X6_sightsAgree_96 (by
      rw [nI_add]
      refine ih (i + 1) (by omega) (fun q hq hqk => ?_)
      by_cases e : q = i
      · rw [e]; exact z (by omega)
      · exact h q (by omega) hqk)
    refine b_X6_sightsAgree_3 ?_
    rw [nI_leI (by decide) (by omega), tb_u (by omega) (by omega), bitsN_tb, Bool.and_eq_true, decide_eq_true_eq]
    refine ⟨fun z => absurd z (by omega), fun _ => ⟨fun z => ⟨hv, ?_⟩, fun z => hnext (fun w => ?_)⟩⟩
    · obtain ⟨hik, hct⟩ := z
      obtain ⟨e1, e2, e3, e4, e5, e6⟩ := n5 i (by omega)
      have hk3 := e6.1
      rw [hc, e1, nI_eq (by omega) (by decide)]
      refine ⟨fun w => ⟨hv, ?_⟩, fun w => hnext (fun _ => ?_)⟩
      · obtain ⟨g1, g2, g3⟩ := e6.2.2.2.1 w
        have e3 := e3 (Or.inr w)
        have e4 := e4 w
        have e5 := e5 (by omega)
        have eg := hs.2.1 (N.2.2 i).2.2.1 (by omega)
        rw [e2, e3, e4, nI_eq (by omega) (by omega)]
        refine ⟨fun q => ⟨hv, ?_⟩, fun q => hnext (fun _ => ?_)⟩
        · rw [nI_leI (by decide) (by omega), show (nI (N.2.2 i).2.2.1).toNatClampNeg = (N.2.2 i).2.2.1 from nI_clamp (by omega), eg.1, nI_ltI (by omega) (by omega)]
          have K84 : ∀ b : Bool, b = decide ((N.2.2 i).2.2.2.1 ≤ s.2.1 (N.2.2 i).2.2.1) → L_X6_sightsAgree_84 G false n0 tl K S (nI (bitsN (ctN N) (kbN N))) (nI d) (nI i) (bI b) := by
            intro b hb
            have hso : soK N s.2.1 d i = (b == (N.2.2 i).2.2.2.2) := by
              unfold soK
              rw [← hb, hct, decide_eq_false (show ¬ ¬ (N.2.2 i).1 = 2 from fun y => y w), decide_eq_false (show ¬ ¬ (N.2.2 i).2.1 = d from fun y => y q)]
              rfl
            refine b_X6_sightsAgree_84 ?_
            rw [hc, e5, bI_eq]
            refine ⟨hv, fun y => hnext (fun _ => by rw [hso, y]; exact beq_self_eq_true _), fun y => ?_⟩
            have : soA N s.2.1 d (kbN N) = false := by
              cases hq : soA N s.2.1 d (kbN N) with
              | false => rfl
              | true =>
                have h9 := soA_iff.mp hq i hik
                rw [hso] at h9
                exact absurd (eq_of_beq h9) y
            rw [this] at k
            exact k
          exact ⟨fun y => absurd y (nI_pos (by omega)), fun _ => ⟨fun y => absurd y (by omega), fun _ => ⟨(x_vp (by omega)).mpr (by omega), hv, fun y => K84 false (decide_eq_false (by omega)).symm, fun y => K84 true (decide_eq_true (by omega)).symm⟩⟩⟩
        · unfold soK
          rw [decide_eq_true q, Bool.true_or, Bool.or_true, Bool.or_true]
      · unfold soK
        rw [decide_eq_true w, Bool.true_or, Bool.or_true]
    · unfold soK
      cases hq : ctN N i with
      | true => exact absurd ⟨w, hq⟩ z
      | false => rfl
end CORE18

