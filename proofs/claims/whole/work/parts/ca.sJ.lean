/-! ===== the program: when one lays ===== -/
theorem lt_T {P : tPL} {T : tTD} {am : Bool} {s : tES} : ∀ t, (dyT P T am s t).2.2.1 = s.2.2.1
  | 0 => rfl
  | t + 1 => by
    show (dyT1 P T am t (dyT P T am s t)).2.2.1 = _
    rw [← lt_T (P := P) (T := T) (am := am) (s := s) t]
    unfold dyT1
    split
    · split <;> rfl
    · rfl
theorem lt_D {P : tPL} {T : tTD} {o : tOP} {x : tES × Nat} : ∀ t, (dyD P T o x t).1.2.2.1 = x.1.2.2.1
  | 0 => rfl
  | t + 1 => by
    show (dyD1 P T o t (dyD P T o x t)).1.2.2.1 = _
    rw [← lt_D (P := P) (T := T) (o := o) (x := x) t]
    unfold dyD1
    split
    · split
      · unfold dwS
        split <;> rfl
      · rfl
    · rfl
theorem lt_L {P : tPL} {o : tOP} {jb : Nat → Nat} {s : tES} : ∀ t h, (dyL P o jb (s, 0) t).1.2.2.1 h = s.2.2.1 h + (if (dyL P o jb (s, 0) t).2.testBit h = true then 1 else 0) ∧ (t ≤ h → (dyL P o jb (s, 0) t).2.testBit h = false)
  | 0, h => by
    have e : (dyL P o jb (s, 0) 0).2.testBit h = false := Nat.zero_testBit h
    rw [e, if_neg Bool.false_ne_true]
    exact ⟨rfl, fun _ => rfl⟩
  | t + 1, h => by
    have ih := lt_L (P := P) (o := o) (jb := jb) (s := s) t h
    show (dyL1 P o jb t (dyL P o jb (s, 0) t)).1.2.2.1 h = _ + (if (dyL1 P o jb t (dyL P o jb (s, 0) t)).2.testBit h = true then 1 else 0) ∧ (_ → (dyL1 P o jb t (dyL P o jb (s, 0) t)).2.testBit h = false)
    generalize dyL P o jb (s, 0) t = x at ih ⊢
    unfold dyL1
    split
    · exact ⟨ih.1, fun q => ih.2 (by omega)⟩
    · split
      · exact ⟨ih.1, fun q => ih.2 (by omega)⟩
      · rename_i q _
        show (if h = t then x.1.2.2.1 t + 1 else x.1.2.2.1 h) = s.2.2.1 h + (if (x.2 ||| 2 ^ t).testBit h = true then 1 else 0) ∧ (t + 1 ≤ h → (x.2 ||| 2 ^ t).testBit h = false)
        rw [Nat.testBit_or]
        by_cases z : h = t
        · subst z
          have e := ih.2 (Nat.le_refl _)
          rw [if_pos rfl, Nat.testBit_two_pow_self, Bool.or_true, if_pos rfl, ih.1, e, if_neg Bool.false_ne_true]
          exact ⟨rfl, fun q => absurd q (by omega)⟩
        · rw [if_neg z, Nat.testBit_two_pow_of_ne (fun w => z w.symm), Bool.or_false]
          exact ⟨ih.1, fun q => ih.2 (by omega)⟩
theorem lt_dg {P : tPL} {T : tTD} {o : tOP} {s : tES} {dn h : Nat} : (dgS P T o s dn).2.2.1 h = s.2.2.1 h + (if (dgC P T o s dn).2.testBit h = true then 1 else 0) := by
  have e := (lt_L (P := P) (o := o) (jb := jbK P s.2.2.2.2 o.2.2.1) (s := (dgB P T o s dn).1) P.2.1 h).1
  show (dgC P T o s dn).1.2.2.1 h = _
  refine e.trans ?_
  have e2 : (dgB P T o s dn).1.2.2.1 h = s.2.2.1 h := by
    show (dyD P T o (dgA P T o s, dn) T.2.2.2.2.1).1.2.2.1 h = _
    rw [lt_D]
    show (if o.2.1 = true then s else dyT P T o.2.2.2.1 s T.1).2.2.1 h = _
    split
    · rfl
    · rw [lt_T]
  rw [e2]
theorem lt_gm {P : tPL} {T : tTD} {o : tOP} {x : tES × Nat} {h : Nat} (k : Nat) : (gmS P T o x (k + 1)).1.2.2.1 h = (gmS P T o x k).1.2.2.1 h + (if (laN P T o x k).testBit h = true then 1 else 0) := lt_dg
theorem lt_le {P : tPL} {T : tTD} {o : tOP} {x : tES × Nat} {h : Nat} : ∀ k, (gmS P T o x k).1.2.2.1 h ≤ x.1.2.2.1 h + k
  | 0 => Nat.le_refl _
  | k + 1 => by
    have ih := lt_le (P := P) (T := T) (o := o) (x := x) (h := h) k
    rw [lt_gm]
    split <;> omega
section LAYS
variable {G : ab_G} {tl : ab_H} {S : ms_S} {g : tSG} {o : Nat → Option tDQ} {V : Nat}
theorem d_lays (hQ : bQ S g o V) (hV : V + 5000 < 2 ^ 30) (hL : ∀ h, g.1.2.2.2.1.2.2.1 h ≤ V) (h : Int32) : ctI G 8 M_X11_lays false [.ref 0, .int h] lB S tl (fun v S' => bQ S' g o (V + 5000) ∧ v = A_lays g.1 h) := by
  refine ctI.ab (fun K hK => m_X11_lays (fun n0 => u_hr hQ.1.1.2.2.2.1 h _ ?_))
  have p5 := hQ.1.1.2.1
  have hd9 := hQ.2.2.2.2.1
  unfold A_lays at hK
  rw [x_b0]
  refine ⟨fun z => hK _ _ ⟨bQ_m hQ (by omega), by rw [z, if_neg Bool.false_ne_true]⟩, fun z => ?_⟩
  have z := nf_t z
  obtain ⟨j, hj, rfl⟩ := hr_t p5 z
  have hcj : cl (nI j) = j := nI_clamp (by omega)
  have hv : vp_in (nI j) 5 := (x_vp (by omega)).mpr (by omega)
  have hLj := hL j
  rw [if_pos z, hcj] at hK
  refine u_toldB hQ.q0 _ (fun S1 q1 o1 _ _ => u_cpT q1.q0 _ (fun S2 q2 f2 t2 => ?_))
  have o2 : bOP (cN S2) (opP g.1.2.2.1) := bOP_F2 o1 (f2.1 72 rfl) (congrFun (f2.1 67 rfl) 6) (congrFun (f2.1 67 rfl) 7)
  suffices KL : ∀ t i (X : ms_S), i + t = 99 → bQ0 X g o (V + 5 * i) → bOP (cN X) (opP g.1.2.2.1) → bEs X 86 g.1.1 (gmS g.1.1 g.1.2.1 (opP g.1.2.2.1) (g.1.2.2.2.1, g.1.2.2.2.2) i).1 (gmS g.1.1 g.1.2.1 (opP g.1.2.2.1) (g.1.2.2.2.1, g.1.2.2.2.2) i).2 → (gmS g.1.1 g.1.2.1 (opP g.1.2.2.1) (g.1.2.2.2.1, g.1.2.2.2.2) i).1.2.2.1 j = g.1.2.2.2.1.2.2.1 j → lyN g.1.1 g.1.2.1 (opP g.1.2.2.1) (g.1.2.2.2.1, g.1.2.2.2.2) j 99 0 = lyN g.1.1 g.1.2.1 (opP g.1.2.2.1) (g.1.2.2.2.1, g.1.2.2.2.2) j t i → L_X11_lays_30 G false n0 tl K X (nI j) (nI (i + 1)) from KL 99 0 S2 rfl q2 o2 t2 rfl rfl
  intro t
  induction t with
  | zero =>
    intro i X hi qX oX tX eX eL
    have hi : i = 99 := hi
    subst hi
    refine b_X11_lays_30 ⟨fun _ => hK _ _ ⟨(bQ0_m qX (by omega)).q oX.2.2.1 oX.2.2.2.1, by rw [eL]; rfl⟩, fun q => absurd (by decide) q⟩
  | succ t ih =>
    intro i X hi qX oX tX eX eL
    refine b_X11_lays_30 ?_
    rw [nI_ltI (by decide) (by omega)]
    refine ⟨fun q => absurd q (by omega), fun _ => ?_⟩
    have hday : (gmS g.1.1 g.1.2.1 (opP g.1.2.2.1) (g.1.2.2.2.1, g.1.2.2.2.2) i).1.2.2.2.2 = g.1.2.2.2.1.2.2.2.2 + i := gm_day g.1.1 g.1.2.1 (opP g.1.2.2.1) (g.1.2.2.2.1, g.1.2.2.2.2) i
    refine u_goT qX _ oX _ _ tX 1 (by decide) (by omega) (by omega) _ (fun S3 q3 o3 t3 => ⟨hv, hv, ?_⟩)
    have e3 : (gmS g.1.1 g.1.2.1 (opP g.1.2.2.1) ((gmS g.1.1 g.1.2.1 (opP g.1.2.2.1) (g.1.2.2.2.1, g.1.2.2.2.2) i).1, (gmS g.1.1 g.1.2.1 (opP g.1.2.2.1) (g.1.2.2.2.1, g.1.2.2.2.2) i).2) 1) = gmS g.1.1 g.1.2.1 (opP g.1.2.2.1) (g.1.2.2.2.1, g.1.2.2.2.2) (i + 1) := rfl
    rw [e3] at t3
    have hg := lt_gm (P := g.1.1) (T := g.1.2.1) (o := opP g.1.2.2.1) (x := (g.1.2.2.2.1, g.1.2.2.2.2)) (h := j) i
    rw [eX] at hg
    rw [show (nI j).toNatClampNeg = j from nI_clamp (by omega), show S3.2.2.2.1 89 j = nI ((gmS g.1.1 g.1.2.1 (opP g.1.2.2.1) (g.1.2.2.2.1, g.1.2.2.2.2) (i + 1)).1.2.2.1 j) from t3.2.2.1 j (by omega), show S3.2.2.2.1 85 j = nI (g.1.2.2.2.1.2.2.1 j) from q3.2.2.2.1.2.2.1 j (by omega)]
    have eU : lyN g.1.1 g.1.2.1 (opP g.1.2.2.1) (g.1.2.2.2.1, g.1.2.2.2.2) j (t + 1) i = if (laN g.1.1 g.1.2.1 (opP g.1.2.2.1) (g.1.2.2.2.1, g.1.2.2.2.2) i).testBit j = true then nI (i + 1) else lyN g.1.1 g.1.2.1 (opP g.1.2.2.1) (g.1.2.2.2.1, g.1.2.2.2.2) j t (i + 1) := rfl
    have qv : V + 5 * i + 5 * 1 = V + 5 * (i + 1) := by omega
    rw [qv] at q3
    by_cases b : (laN g.1.1 g.1.2.1 (opP g.1.2.2.1) (g.1.2.2.2.1, g.1.2.2.2.2) i).testBit j = true
    · rw [if_pos b] at hg eU
      rw [hg, nI_leI (by omega) (by omega)]
      refine ⟨fun q => absurd q (by omega), fun _ => hK _ _ ⟨(bQ0_m q3 (by omega)).q o3.2.2.1 o3.2.2.2.1, by rw [eL, eU]⟩⟩
    · rw [if_neg b] at hg eU
      rw [hg, nI_leI (by omega) (by omega), nI_add]
      exact ⟨fun _ => ih (i + 1) S3 (by omega) q3 o3 t3 hg (eL.trans eU), fun q => absurd (Nat.le_refl _) q⟩
end LAYS

