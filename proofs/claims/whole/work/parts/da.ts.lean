/-! ===== the program's constructor (printed by wip/tools/mkda.py) ===== -/
section NWE
variable {G : ab_G} {M : ab_MD} {n0 : Nat} {p : Program} {e : Env} {R : Room} {s : State} {m : MethodId} {args : Array Value} {below : List Frame} {meth : Method} {c : Code} {Q : State → Prop} {cells slots pc : Nat} {L : List (Option Value)} {st : List Value} {h t : ab_H}
theorem nw_eqT {a : Nat} {y : ab_E} {t1 : ab_H} (q : t1 = t) (k : ab_R G M true n0 p e R s m args below meth c Q cells slots pc L st (h.set a y ++ t1)) : ab_R G M true n0 p e R s m args below meth c Q cells slots pc L st (h.set a y ++ t) := q ▸ k
theorem nw_newE {a idx ci N0 : Nat} {y : ab_E} {q : vw_C} (hN : t.length = N0) (C : ab_C G M p s m args meth c) (row : ab_lk M.2.2.2.2.2.2 pc = some (.new idx, 3)) (hq : vwCl[ci]? = some q) (w1 : Cond.classLink M.1.1 idx q.1 ∈ ab_T) (w2 : Cond.instantiable q.1 q.2.2 ∈ ab_T) (w3 : Cond.initialized q.1 ∈ ab_T) (hR : cells + 1 ≤ R.cells ∧ slots + q.2.2 ≤ R.slots)
    (k : ab_R G M true n0 p e R s m args below meth c Q (cells + 1) (slots + q.2.2) (pc + 3) L (.ref (h.length + N0) :: st) (h.set a y ++ (t ++ [.inr (ci, ab_df ci q.2.2)]))) : ab_R G M true n0 p e R s m args below meth c Q cells slots pc L st (h.set a y ++ t) := by
  subst hN
  exact nw_new C row hq w1 w2 w3 hR k
theorem nw_aqE {a kd idx N N0 : Nat} {y : ab_E} {x : Int32} {Cn : String} (hN0 : t.length = N0) (C : ab_C G M p s m args meth c) (row : ab_lk M.2.2.2.2.2.2 pc = some (.anewarray idx, 3)) (w1 : Cond.classLink M.1.1 idx Cn ∈ ab_T) (hao : va_AO Cn s) (hk : (ab_tys G.2.2.1)[kd]? = some (G.2.2.1 kd, .object Cn)) (hn : ¬ x < 0) (hN : x.toNatClampNeg = N) (hb : N * 4 ≤ 536870912) (hR : cells + 1 ≤ R.cells ∧ slots + N ≤ R.slots)
    (k : ab_R G M true n0 p e R s m args below meth c Q (cells + 1) (slots + N) (pc + 3) L (.ref (h.length + N0) :: st) (h.set a y ++ (t ++ [.inl (kd, N, .inr (.inr (.inr (.inr (fun _ => none)))))]))) : ab_R G M true n0 p e R s m args below meth c Q cells slots pc L (.int x :: st) (h.set a y ++ t) := by
  subst hN0
  exact nw_aq C row w1 hao hk hn hN hb hR k
theorem nw_tE {N0 : Nat} {o Z : ab_E} {W : ab_H} (hN : t.length = N0) : (t ++ [o]).set N0 Z ++ W = t ++ (Z :: W) := by
  subst hN
  rw [List.set_append_right _ _ (Nat.le_refl _), Nat.sub_self, List.append_assoc]
  rfl
theorem nw_lE {N0 : Nat} {o : ab_E} (hN : t.length = N0) : (t ++ [o]).length = N0 + 1 := by
  rw [List.length_append, hN]
  rfl
theorem nw_gE {N0 a : Nat} {o y : ab_E} (hN : t.length = N0) : (h.set a y ++ (t ++ [o]))[h.length + N0]? = some o := by
  rw [nw_getT, List.getElem?_append_right (by omega), hN, Nat.sub_self]
  rfl
theorem nw_cIE {M' : ab_MD} {n d mc ms idx a N0 : Nat} {y o : ab_E} {as rest : List Value} (hN : t.length = N0) (z : Nat → ab_E) (w : Nat → ab_H) (C : ab_C G M p s m args meth c) (row : ab_lk M.2.2.2.2.2.2 pc = some (.invokespecial idx, 3)) (hm : ab_lk M.1.2.2.2.1 idx = some M'.2.1) (ok : ab_OK M' n) (hk : Cond.instanceMethod M'.2.1 ∈ ab_T) (hini : M'.2.1.name = "<init>") (hret : M'.2.2.2.2.1 = none)
    (ct : ∀ hh : ab_H, hh[h.length + N0]? = some o → ab_CT G d M' true (.ref (h.length + N0) :: as) hh mc ms (fun r h' => r = none ∧ h' = hh.set (h.length + N0) (z hh.length) ++ w hh.length)) (hst : st = as.reverse ++ .ref (h.length + N0) :: rest) (hn : as.length = n) (hsum : (rest.map fun v => v.category).sum ≤ 8) (hR : d + 1 ≤ R.frames ∧ 64 * d + 64 ≤ R.locals ∧ cells + mc ≤ R.cells ∧ slots + ms ≤ R.slots)
    (k : ab_R G M true n0 p e R s m args below meth c Q (cells + mc) (slots + ms) (pc + 3) L rest (h.set a y ++ (t ++ (z (h.length + (N0 + 1)) :: w (h.length + (N0 + 1)))))) : ab_R G M true n0 p e R s m args below meth c Q cells slots pc L st (h.set a y ++ (t ++ [o])) := by
  refine nw_cI z w C row hm ok hk hini hret (ct _ (nw_gE hN)) hst hn hsum hR ?_
  rw [nw_tE hN, nw_lE hN]
  exact k
theorem nw_cXE {M' : ab_MD} {n d mc ms idx a N0 : Nat} {y o : ab_E} {as rest : List Value} (hN : t.length = N0) (z : Nat → ab_E) (w : Nat → ab_H) (C : ab_C G M p s m args meth c) (hZ : sx_Z G s) (row : ab_lk M.2.2.2.2.2.2 pc = some (.invokespecial idx, 3)) (hm : ab_lk M.1.2.2.2.1 idx = some M'.2.1) (ok : ab_OK M' n) (hk : Cond.instanceMethod M'.2.1 ∈ ab_T) (hini : M'.2.1.name = "<init>") (hret : M'.2.2.2.2.1 = none)
    (ct : ∀ hh : ab_H, hh[h.length + N0]? = some o → xCT G d M' true (.ref (h.length + N0) :: as) hh mc ms (fun r h' => r = none ∧ h' = hh.set (h.length + N0) (z hh.length) ++ w hh.length)) (hst : st = as.reverse ++ .ref (h.length + N0) :: rest) (hn : as.length = n) (hsum : (rest.map fun v => v.category).sum ≤ 8) (hR : d + 1 ≤ R.frames ∧ 64 * d + 64 ≤ R.locals ∧ cells + mc ≤ R.cells ∧ slots + ms ≤ R.slots)
    (k : ab_R G M true n0 p e R s m args below meth c Q (cells + mc) (slots + ms) (pc + 3) L rest (h.set a y ++ (t ++ (z (h.length + (N0 + 1)) :: w (h.length + (N0 + 1)))))) : ab_R G M true n0 p e R s m args below meth c Q cells slots pc L st (h.set a y ++ (t ++ [o])) := by
  refine nw_cX z w C hZ row hm ok hk hini hret (ct _ (nw_gE hN)) hst hn hsum hR ?_
  rw [nw_tE hN, nw_lE hN]
  exact k
theorem nw_cNE {M' : ab_MD} {n d mc ms idx a N0 : Nat} {y o : ab_E} {host : String} {as rest : List Value} (hN : t.length = N0) (z : Nat → ab_E) (w : Nat → ab_H) (C : ab_C G M p s m args meth c) (row : ab_lk M.2.2.2.2.2.2 pc = some (.invokespecial idx, 3)) (hm : (M.1.1, idx, M'.2.1, host) ∈ ab_nq) (ok : ab_OK M' n) (hk : Cond.instanceMethod M'.2.1 ∈ ab_T) (hini : M'.2.1.name = "<init>") (hret : M'.2.2.2.2.1 = none)
    (ct : ∀ hh : ab_H, hh[h.length + N0]? = some o → ab_CT G d M' true (.ref (h.length + N0) :: as) hh mc ms (fun r h' => r = none ∧ h' = hh.set (h.length + N0) (z hh.length) ++ w hh.length)) (hst : st = as.reverse ++ .ref (h.length + N0) :: rest) (hn : as.length = n) (hsum : (rest.map fun v => v.category).sum ≤ 8) (hR : d + 1 ≤ R.frames ∧ 64 * d + 64 ≤ R.locals ∧ cells + mc ≤ R.cells ∧ slots + ms ≤ R.slots)
    (k : ab_R G M true n0 p e R s m args below meth c Q (cells + mc) (slots + ms) (pc + 3) L rest (h.set a y ++ (t ++ (z (h.length + (N0 + 1)) :: w (h.length + (N0 + 1)))))) : ab_R G M true n0 p e R s m args below meth c Q cells slots pc L st (h.set a y ++ (t ++ [o])) := by
  refine nw_cN z w C row hm ok hk hini hret (ct _ (nw_gE hN)) hst hn hsum hR ?_
  rw [nw_tE hN, nw_lE hN]
  exact k
end NWE
def kXf (nn : Nat) : List Value := (((((((((((((ab_df 11 17).set 0 (.ref (nn + 0))).set 1 (.ref (nn + 3))).set 2 (.ref (nn + 28))).set 3 (.ref (nn + 60))).set 4 (.ref (nn + 66))).set 5 (.ref (nn + 71))).set 6 (.ref (nn + 72))).set 7 (.ref (nn + 75))).set 8 (.ref (nn + 81))).set 9 (.ref (nn + 85))).set 10 (.ref (nn + 89))).set 11 (.ref (nn + 93))).set 16 (.int (-1))
def kXu (nn : Nat) : ab_H := (((((((((((([] : ab_H) ++ ((fun n => .inr (10, kTf n)) (nn + 1) :: (fun _ => kTt) (nn + 1))) ++ ((fun n => .inr (7, kPf n)) (nn + 4) :: (kPt) (nn + 4))) ++ ((fun n => .inr (8, kRf n (nn + 0))) (nn + 29) :: (fun n => kRt n (nn + 0)) (nn + 29))) ++ ((fun n => (.inr (9, (((((((ab_df 9 8).set 1 (.ref (n + 0))).set 2 (.ref (n + 1))).set 3 (.ref (n + 2))).set 4 (.ref (n + 3))).set 5 (.ref (n + 4))).set 7 (.int 1)).set 0 (.ref (nn + 3))))) (nn + 61) :: (fun _ => [aLg 512, aIn 512, aLg 7, aLg 3584, aIn 512]) (nn + 61))) ++ ((fun n => .inr (3, kJf n (nn + 3) (nn + 60))) (nn + 67) :: (fun _ => kJt) (nn + 67))) ++ ((fun n => (.inr (0, ((((ab_df 0 6).set 4 (.int (-1))).set 5 (.int 2)).set 0 (.ref (nn + 3))).set 1 (.ref (nn + 66))))) (nn + 72) :: (fun _ => []) (nn + 72))) ++ ((fun n => (.inr (2, ((((ab_df 2 6).set 2 (.ref (n + 0))).set 3 (.ref (n + 1))).set 0 (.ref (nn + 3))).set 1 (.ref (nn + 60))))) (nn + 73) :: (fun _ => [aIn 2, aIn 3584]) (nn + 73))) ++ ((fun n => (.inr (6, ((((((ab_df 6 7).set 0 (.ref (n + 0))).set 1 (.ref (n + 1))).set 2 (.ref (n + 2))).set 3 (.ref (n + 3))).set 4 (.ref (n + 4))).set 6 (.int (-1))))) (nn + 76) :: (fun _ => [aIn 24, aIn 24, aIn 24, aIn 24, aBo 24]) (nn + 76))) ++ ((eOb) (nn + 82) :: (fun _ => [aIn 5, aIn 5, aIn 5]) (nn + 82))) ++ ((eOb) (nn + 86) :: (fun _ => [aIn 5, aIn 5, aIn 5]) (nn + 86))) ++ ((eOb) (nn + 90) :: (fun _ => [aIn 5, aIn 5, aIn 5]) (nn + 90)))
def kXt (n : Nat) : ab_H := (kXu n ++ [eAr (n + 94) 20]) ++ eBl (n + 94) 20
set_option maxHeartbeats 4000000 in
theorem k_X11 {G : ab_G} {a : Nat} {h : ab_H} (he : h[a]? = some (.inr (11, ab_df 11 17))) :
    xCT G 8 M_X11_init true [.ref a] h 174 12229 (fun r h' => r = none ∧ h' = h.set a (.inr (11, kXf h.length)) ++ kXt h.length) := by
  refine x_ct o_X11_init (Nat.le_of_ble_eq_true rfl) (fun p e s m args below meth c C hr hl hZ => ?_)
  have e0 : h = h.set a (.inr (11, ab_df 11 17)) ++ [] := by rw [List.append_nil]; exact (pc_set he).symm
  refine ab_step C rfl ?_
  refine ab_obj C rfl OI_X11 OI_1 OI_2 (Nat.le_of_ble_eq_true rfl) ⟨by decide, by decide⟩ ?_
  suffices key : ab_R G M_X11_init true h.length p e (ab_rm 8 174 12229) s m args below meth c (MQ below (ab_Q G true (h.length + 174) (fun r h' => r = none ∧ h' = h.set a (.inr (11, kXf h.length)) ++ kXt h.length)) args s 174 12229 (ab_A G)) 0 0 4 (ab_pad 2 (ab_exp [.ref a])) [] (h.set a (.inr (11, ab_df 11 17)) ++ []) by
    rw [← e0] at key
    exact key
  refine ab_step C rfl ?_
  refine nw_newE (N0 := 0) rfl (ci := 10) (q := (RX10, TX10, 8)) C rfl rfl CL_X11_11 IS_X10 IN_X10 ⟨Nat.le_of_ble_eq_true rfl, Nat.le_of_ble_eq_true rfl⟩ ?_
  refine ab_step C rfl ?_
  refine nw_cXE (N0 := 0) rfl (M' := M_X10_init) (n := 0) (d := 5) (mc := 2) (ms := 732) (as := []) (rest := [.ref (h.length + 0), .ref a]) (fun n => .inr (10, kTf n)) (fun _ => kTt) C hZ rfl rfl o_X10_init i_X10_init rfl rfl (fun hh qq => k_X10 qq) rfl rfl (Nat.le_of_ble_eq_true rfl) ⟨by decide, by decide, Nat.le_of_ble_eq_true rfl, Nat.le_of_ble_eq_true rfl⟩ ?_
  obtain ⟨t1, ht1⟩ : ∃ t1 : ab_H, t1 = ([] : ab_H) ++ ((fun n => .inr (10, kTf n)) (h.length + 1) :: (fun _ => kTt) (h.length + 1)) := ⟨_, rfl⟩
  have hl1 : t1.length = 3 := by rw [ht1, List.length_append, (rfl : ([] : ab_H).length = 0)]; rfl
  refine nw_eqT ht1 ?_
  refine nw_put C rfl he rfl trivial ?_
  refine ab_step C rfl ?_
  refine nw_newE (N0 := 3) hl1 (ci := 7) (q := (RX7, TX7, 18)) C rfl rfl CL_X11_18 IS_7 IN_X7 ⟨Nat.le_of_ble_eq_true rfl, Nat.le_of_ble_eq_true rfl⟩ ?_
  refine ab_step C rfl ?_
  refine nw_cNE (N0 := 3) hl1 (M' := M_X7_init) (n := 0) (d := 2) (mc := 24) (ms := 516) (host := "BoneEstate") (as := []) (rest := [.ref (h.length + 3), .ref a]) (fun n => .inr (7, kPf n)) (kPt) C rfl (by simp [ab_nq]; decide) o_X7_init i_X7_init rfl rfl (fun hh qq => k_X7 qq) rfl rfl (Nat.le_of_ble_eq_true rfl) ⟨by decide, by decide, Nat.le_of_ble_eq_true rfl, Nat.le_of_ble_eq_true rfl⟩ ?_
  obtain ⟨t2, ht2⟩ : ∃ t2 : ab_H, t2 = t1 ++ ((fun n => .inr (7, kPf n)) (h.length + 4) :: (kPt) (h.length + 4)) := ⟨_, rfl⟩
  have hl2 : t2.length = 28 := by rw [ht2, List.length_append, (hl1 : t1.length = 3)]; rfl
  refine nw_eqT ht2 ?_
  refine nw_put C rfl he rfl trivial ?_
  refine ab_step C rfl ?_
  refine nw_newE (N0 := 28) hl2 (ci := 8) (q := (RX8, TX8, 4)) C rfl rfl CL_X11_25 IS_X8 IN_X8 ⟨Nat.le_of_ble_eq_true rfl, Nat.le_of_ble_eq_true rfl⟩ ?_
  refine ab_step C rfl ?_
  refine ab_step C rfl ?_
  refine nw_gf (v := .ref (h.length + 0)) C rfl he rfl ?_
  refine nw_cIE (N0 := 28) hl2 (M' := M_X8_init) (n := 1) (d := 3) (mc := 31) (ms := 754) (as := [.ref (h.length + 0)]) (rest := [.ref (h.length + 28), .ref a]) (fun n => .inr (8, kRf n (h.length + 0))) (fun n => kRt n (h.length + 0)) C rfl rfl o_X8_init i_X8_init rfl rfl (fun hh qq => k_X8 qq) rfl rfl (Nat.le_of_ble_eq_true rfl) ⟨by decide, by decide, Nat.le_of_ble_eq_true rfl, Nat.le_of_ble_eq_true rfl⟩ ?_
  obtain ⟨t3, ht3⟩ : ∃ t3 : ab_H, t3 = t2 ++ ((fun n => .inr (8, kRf n (h.length + 0))) (h.length + 29) :: (fun n => kRt n (h.length + 0)) (h.length + 29)) := ⟨_, rfl⟩
  have hl3 : t3.length = 60 := by rw [ht3, List.length_append, (hl2 : t2.length = 28)]; rfl
  refine nw_eqT ht3 ?_
  refine nw_put C rfl he rfl trivial ?_
  refine ab_step C rfl ?_
  refine nw_newE (N0 := 60) hl3 (ci := 9) (q := (RX9, TX9, 8)) C rfl rfl CL_X11_34 IS_X9 IN_X9 ⟨Nat.le_of_ble_eq_true rfl, Nat.le_of_ble_eq_true rfl⟩ ?_
  refine ab_step C rfl ?_
  refine ab_step C rfl ?_
  refine nw_gf (v := .ref (h.length + 3)) C rfl he rfl ?_
  refine nw_cIE (N0 := 60) hl3 (M' := M_X9_init) (n := 1) (d := 1) (mc := 5) (ms := 5127) (as := [.ref (h.length + 3)]) (rest := [.ref (h.length + 60), .ref a]) (fun n => (.inr (9, (((((((ab_df 9 8).set 1 (.ref (n + 0))).set 2 (.ref (n + 1))).set 3 (.ref (n + 2))).set 4 (.ref (n + 3))).set 5 (.ref (n + 4))).set 7 (.int 1)).set 0 (.ref (h.length + 3))))) (fun _ => [aLg 512, aIn 512, aLg 7, aLg 3584, aIn 512]) C rfl rfl o_X9_init i_X9_init rfl rfl (fun hh qq => k_X9 qq) rfl rfl (Nat.le_of_ble_eq_true rfl) ⟨by decide, by decide, Nat.le_of_ble_eq_true rfl, Nat.le_of_ble_eq_true rfl⟩ ?_
  obtain ⟨t4, ht4⟩ : ∃ t4 : ab_H, t4 = t3 ++ ((fun n => (.inr (9, (((((((ab_df 9 8).set 1 (.ref (n + 0))).set 2 (.ref (n + 1))).set 3 (.ref (n + 2))).set 4 (.ref (n + 3))).set 5 (.ref (n + 4))).set 7 (.int 1)).set 0 (.ref (h.length + 3))))) (h.length + 61) :: (fun _ => [aLg 512, aIn 512, aLg 7, aLg 3584, aIn 512]) (h.length + 61)) := ⟨_, rfl⟩
  have hl4 : t4.length = 66 := by rw [ht4, List.length_append, (hl3 : t3.length = 60)]; rfl
  refine nw_eqT ht4 ?_
  refine nw_put C rfl he rfl trivial ?_
  refine ab_step C rfl ?_
  refine nw_newE (N0 := 66) hl4 (ci := 3) (q := (RX3, TX3, 11)) C rfl rfl CL_X11_43 IS_X3 IN_X3 ⟨Nat.le_of_ble_eq_true rfl, Nat.le_of_ble_eq_true rfl⟩ ?_
  refine ab_step C rfl ?_
  refine ab_step C rfl ?_
  refine nw_gf (v := .ref (h.length + 3)) C rfl he rfl ?_
  refine ab_step C rfl ?_
  refine nw_gf (v := .ref (h.length + 60)) C rfl he rfl ?_
  refine nw_cIE (N0 := 66) hl4 (M' := M_X3_init) (n := 2) (d := 2) (mc := 4) (ms := 777) (as := [.ref (h.length + 3), .ref (h.length + 60)]) (rest := [.ref (h.length + 66), .ref a]) (fun n => .inr (3, kJf n (h.length + 3) (h.length + 60))) (fun _ => kJt) C rfl rfl o_X3_init i_X3_init rfl rfl (fun hh qq => k_X3 qq) rfl rfl (Nat.le_of_ble_eq_true rfl) ⟨by decide, by decide, Nat.le_of_ble_eq_true rfl, Nat.le_of_ble_eq_true rfl⟩ ?_
  obtain ⟨t5, ht5⟩ : ∃ t5 : ab_H, t5 = t4 ++ ((fun n => .inr (3, kJf n (h.length + 3) (h.length + 60))) (h.length + 67) :: (fun _ => kJt) (h.length + 67)) := ⟨_, rfl⟩
  have hl5 : t5.length = 71 := by rw [ht5, List.length_append, (hl4 : t4.length = 66)]; rfl
  refine nw_eqT ht5 ?_
  refine nw_put C rfl he rfl trivial ?_
  refine ab_step C rfl ?_
  refine nw_newE (N0 := 71) hl5 (ci := 0) (q := (RX0, TX0, 6)) C rfl rfl CL_X11_52 IS_X0 IN_X0 ⟨Nat.le_of_ble_eq_true rfl, Nat.le_of_ble_eq_true rfl⟩ ?_
  refine ab_step C rfl ?_
  refine ab_step C rfl ?_
  refine nw_gf (v := .ref (h.length + 3)) C rfl he rfl ?_
  refine ab_step C rfl ?_
  refine nw_gf (v := .ref (h.length + 66)) C rfl he rfl ?_
  refine nw_cIE (N0 := 71) hl5 (M' := M_X0_init) (n := 2) (d := 1) (mc := 0) (ms := 0) (as := [.ref (h.length + 3), .ref (h.length + 66)]) (rest := [.ref (h.length + 71), .ref a]) (fun n => (.inr (0, ((((ab_df 0 6).set 4 (.int (-1))).set 5 (.int 2)).set 0 (.ref (h.length + 3))).set 1 (.ref (h.length + 66))))) (fun _ => []) C rfl rfl o_X0_init i_X0_init rfl rfl (fun hh qq => k_X0 qq) rfl rfl (Nat.le_of_ble_eq_true rfl) ⟨by decide, by decide, Nat.le_of_ble_eq_true rfl, Nat.le_of_ble_eq_true rfl⟩ ?_
  obtain ⟨t6, ht6⟩ : ∃ t6 : ab_H, t6 = t5 ++ ((fun n => (.inr (0, ((((ab_df 0 6).set 4 (.int (-1))).set 5 (.int 2)).set 0 (.ref (h.length + 3))).set 1 (.ref (h.length + 66))))) (h.length + 72) :: (fun _ => []) (h.length + 72)) := ⟨_, rfl⟩
  have hl6 : t6.length = 72 := by rw [ht6, List.length_append, (hl5 : t5.length = 71)]; rfl
  refine nw_eqT ht6 ?_
  refine nw_put C rfl he rfl trivial ?_
  refine ab_step C rfl ?_
  refine nw_newE (N0 := 72) hl6 (ci := 2) (q := (RX2, TX2, 6)) C rfl rfl CL_X11_61 IS_X2 IN_X2 ⟨Nat.le_of_ble_eq_true rfl, Nat.le_of_ble_eq_true rfl⟩ ?_
  refine ab_step C rfl ?_
  refine ab_step C rfl ?_
  refine nw_gf (v := .ref (h.length + 3)) C rfl he rfl ?_
  refine ab_step C rfl ?_
  refine nw_gf (v := .ref (h.length + 60)) C rfl he rfl ?_
  refine nw_cIE (N0 := 72) hl6 (M' := M_X2_init) (n := 2) (d := 1) (mc := 2) (ms := 3586) (as := [.ref (h.length + 3), .ref (h.length + 60)]) (rest := [.ref (h.length + 72), .ref a]) (fun n => (.inr (2, ((((ab_df 2 6).set 2 (.ref (n + 0))).set 3 (.ref (n + 1))).set 0 (.ref (h.length + 3))).set 1 (.ref (h.length + 60))))) (fun _ => [aIn 2, aIn 3584]) C rfl rfl o_X2_init i_X2_init rfl rfl (fun hh qq => k_X2 qq) rfl rfl (Nat.le_of_ble_eq_true rfl) ⟨by decide, by decide, Nat.le_of_ble_eq_true rfl, Nat.le_of_ble_eq_true rfl⟩ ?_
  obtain ⟨t7, ht7⟩ : ∃ t7 : ab_H, t7 = t6 ++ ((fun n => (.inr (2, ((((ab_df 2 6).set 2 (.ref (n + 0))).set 3 (.ref (n + 1))).set 0 (.ref (h.length + 3))).set 1 (.ref (h.length + 60))))) (h.length + 73) :: (fun _ => [aIn 2, aIn 3584]) (h.length + 73)) := ⟨_, rfl⟩
  have hl7 : t7.length = 75 := by rw [ht7, List.length_append, (hl6 : t6.length = 72)]; rfl
  refine nw_eqT ht7 ?_
  refine nw_put C rfl he rfl trivial ?_
  refine ab_step C rfl ?_
  refine nw_newE (N0 := 75) hl7 (ci := 6) (q := (RX6, TX6, 7)) C rfl rfl CL_X11_68 IS_X6 IN_X6 ⟨Nat.le_of_ble_eq_true rfl, Nat.le_of_ble_eq_true rfl⟩ ?_
  refine ab_step C rfl ?_
  refine nw_cNE (N0 := 75) hl7 (M' := M_X6_init) (n := 0) (d := 1) (mc := 5) (ms := 120) (host := "BoneEstate") (as := []) (rest := [.ref (h.length + 75), .ref a]) (fun n => (.inr (6, ((((((ab_df 6 7).set 0 (.ref (n + 0))).set 1 (.ref (n + 1))).set 2 (.ref (n + 2))).set 3 (.ref (n + 3))).set 4 (.ref (n + 4))).set 6 (.int (-1))))) (fun _ => [aIn 24, aIn 24, aIn 24, aIn 24, aBo 24]) C rfl (by simp [ab_nq]; decide) o_X6_init i_X6_init rfl rfl (fun hh qq => k_X6 qq) rfl rfl (Nat.le_of_ble_eq_true rfl) ⟨by decide, by decide, Nat.le_of_ble_eq_true rfl, Nat.le_of_ble_eq_true rfl⟩ ?_
  obtain ⟨t8, ht8⟩ : ∃ t8 : ab_H, t8 = t7 ++ ((fun n => (.inr (6, ((((((ab_df 6 7).set 0 (.ref (n + 0))).set 1 (.ref (n + 1))).set 2 (.ref (n + 2))).set 3 (.ref (n + 3))).set 4 (.ref (n + 4))).set 6 (.int (-1))))) (h.length + 76) :: (fun _ => [aIn 24, aIn 24, aIn 24, aIn 24, aBo 24]) (h.length + 76)) := ⟨_, rfl⟩
  have hl8 : t8.length = 81 := by rw [ht8, List.length_append, (hl7 : t7.length = 75)]; rfl
  refine nw_eqT ht8 ?_
  refine nw_put C rfl he rfl trivial ?_
  refine ab_step C rfl ?_
  refine nw_newE (N0 := 81) hl8 (ci := 1) (q := (RX1, TX1, 8)) C rfl rfl CL_X11_75 IS_X1 IN_X1 ⟨Nat.le_of_ble_eq_true rfl, Nat.le_of_ble_eq_true rfl⟩ ?_
  refine ab_step C rfl ?_
  refine nw_cNE (N0 := 81) hl8 (M' := M_X1_init) (n := 0) (d := 1) (mc := 3) (ms := 15) (host := "BoneEstate") (as := []) (rest := [.ref (h.length + 81), .ref a]) (eOb) (fun _ => [aIn 5, aIn 5, aIn 5]) C rfl (by simp [ab_nq]; decide) o_X1_init i_X1_init rfl rfl (fun hh qq => k_X1 qq) rfl rfl (Nat.le_of_ble_eq_true rfl) ⟨by decide, by decide, Nat.le_of_ble_eq_true rfl, Nat.le_of_ble_eq_true rfl⟩ ?_
  obtain ⟨t9, ht9⟩ : ∃ t9 : ab_H, t9 = t8 ++ ((eOb) (h.length + 82) :: (fun _ => [aIn 5, aIn 5, aIn 5]) (h.length + 82)) := ⟨_, rfl⟩
  have hl9 : t9.length = 85 := by rw [ht9, List.length_append, (hl8 : t8.length = 81)]; rfl
  refine nw_eqT ht9 ?_
  refine nw_put C rfl he rfl trivial ?_
  refine ab_step C rfl ?_
  refine nw_newE (N0 := 85) hl9 (ci := 1) (q := (RX1, TX1, 8)) C rfl rfl CL_X11_75 IS_X1 IN_X1 ⟨Nat.le_of_ble_eq_true rfl, Nat.le_of_ble_eq_true rfl⟩ ?_
  refine ab_step C rfl ?_
  refine nw_cNE (N0 := 85) hl9 (M' := M_X1_init) (n := 0) (d := 1) (mc := 3) (ms := 15) (host := "BoneEstate") (as := []) (rest := [.ref (h.length + 85), .ref a]) (eOb) (fun _ => [aIn 5, aIn 5, aIn 5]) C rfl (by simp [ab_nq]; decide) o_X1_init i_X1_init rfl rfl (fun hh qq => k_X1 qq) rfl rfl (Nat.le_of_ble_eq_true rfl) ⟨by decide, by decide, Nat.le_of_ble_eq_true rfl, Nat.le_of_ble_eq_true rfl⟩ ?_
  obtain ⟨t10, ht10⟩ : ∃ t10 : ab_H, t10 = t9 ++ ((eOb) (h.length + 86) :: (fun _ => [aIn 5, aIn 5, aIn 5]) (h.length + 86)) := ⟨_, rfl⟩
  have hl10 : t10.length = 89 := by rw [ht10, List.length_append, (hl9 : t9.length = 85)]; rfl
  refine nw_eqT ht10 ?_
  refine nw_put C rfl he rfl trivial ?_
  refine ab_step C rfl ?_
  refine nw_newE (N0 := 89) hl10 (ci := 1) (q := (RX1, TX1, 8)) C rfl rfl CL_X11_75 IS_X1 IN_X1 ⟨Nat.le_of_ble_eq_true rfl, Nat.le_of_ble_eq_true rfl⟩ ?_
  refine ab_step C rfl ?_
  refine nw_cNE (N0 := 89) hl10 (M' := M_X1_init) (n := 0) (d := 1) (mc := 3) (ms := 15) (host := "BoneEstate") (as := []) (rest := [.ref (h.length + 89), .ref a]) (eOb) (fun _ => [aIn 5, aIn 5, aIn 5]) C rfl (by simp [ab_nq]; decide) o_X1_init i_X1_init rfl rfl (fun hh qq => k_X1 qq) rfl rfl (Nat.le_of_ble_eq_true rfl) ⟨by decide, by decide, Nat.le_of_ble_eq_true rfl, Nat.le_of_ble_eq_true rfl⟩ ?_
  obtain ⟨t11, ht11⟩ : ∃ t11 : ab_H, t11 = t10 ++ ((eOb) (h.length + 90) :: (fun _ => [aIn 5, aIn 5, aIn 5]) (h.length + 90)) := ⟨_, rfl⟩
  have hl11 : t11.length = 93 := by rw [ht11, List.length_append, (hl10 : t10.length = 89)]; rfl
  refine nw_eqT ht11 ?_
  refine nw_put C rfl he rfl trivial ?_
  refine ab_step C rfl ?_
  refine ab_step C rfl ?_
  refine nw_aqE (N0 := 93) hl11 (kd := 4) (N := 20) C rfl CL_X11_75 C.2.2.2.2.2.2.1.2.2.2 rfl (by decide) (by decide) (by decide) ⟨Nat.le_of_ble_eq_true rfl, Nat.le_of_ble_eq_true rfl⟩ ?_
  refine nw_put C rfl he rfl trivial ?_
  iterate 2 refine ab_step C rfl ?_
  have hb9 : h.length + 94 = h.length + (t11 ++ [(.inl (4, 20, .inr (.inr (.inr (.inr (fun _ => none))))) : ab_E)]).length := by rw [nw_lE hl11]
  have e9 : (t11 ++ [(.inl (4, 20, .inr (.inr (.inr (.inr (fun _ => none))))) : ab_E)]) = (t11 ++ [(.inl (4, 20, .inr (.inr (.inr (.inr (fun _ => none))))) : ab_E)]).set 93 (eAr (h.length + 94) 0) ++ eBl (h.length + 94) 0 := by
    rw [nw_tE hl11]
    show _ = t11 ++ (eAr (h.length + 94) 0 :: [])
    unfold eAr
    rw [show eRf (h.length + 94) 0 = fun _ => none by funext j; unfold eRf; rw [if_neg (by omega)]]
  refine nw_eqT e9.symm ?_
  refine nw_past (b := h.length + 94) (i0 := 93) C he hb9 (by rw [nw_lE hl11]; decide) (fun L st t => rfl) ⟨by decide, by decide, Nat.le_of_ble_eq_true rfl, Nat.le_of_ble_eq_true rfl⟩ ?_
  rw [nw_tE hl11]
  iterate 2 refine ab_step C rfl ?_
  refine nw_put C rfl he rfl trivial ?_
  refine ab_retV C hr hl rfl rfl ⟨rfl, ?_⟩
  have e10 : t11 = kXu h.length := by
    rw [ht11]
    rw [ht10]
    rw [ht9]
    rw [ht8]
    rw [ht7]
    rw [ht6]
    rw [ht5]
    rw [ht4]
    rw [ht3]
    rw [ht2]
    rw [ht1]
    rfl
  rw [e10]
  show _ = _ ++ ((kXu h.length ++ [eAr (h.length + 94) 20]) ++ eBl (h.length + 94) 20)
  rw [List.append_assoc]
  rfl

