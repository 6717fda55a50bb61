/-! ===== the program just made: its cells as a memory, its state ===== -/
theorem up_lws (a b c : Nat) : va_up (va_up (va_up (fun _ => none) 0 (some a)) 1 (some b)) 2 (some c) = lwsF a b c := by
  funext j
  match j with
  | 0 => rfl
  | 1 => rfl
  | 2 => rfl
  | n + 3 =>
    unfold va_up
    rw [if_neg (by omega), if_neg (by omega), if_neg (by omega)]
    rfl
theorem eR_pa (b : Nat) : eRf b 20 = paF b := by
  funext j
  unfold eRf paF
  by_cases q : j < 20
  · rw [if_pos q, show Nat.blt j 20 = true from Nat.ble_eq_true_of_le q]
    rfl
  · rw [if_neg q, show Nat.blt j 20 = false by cases z : Nat.blt j 20 with | false => rfl | true => exact absurd (Nat.le_of_ble_eq_true z) q]
    rfl
theorem kPt_lws (n : Nat) : kPt n = [aIn 9, aIn 9, aIn 9, aIn 9, aIn 5, aIn 5, aIn 8, aIn 8, aIn 8, aIn 10, aIn 10, .inl (3, 3, .inr (.inr (.inr (.inr (lwsF (n + 12) (n + 16) (n + 20)))))), .inr (4, (((ab_df 4 5).set 0 (.ref (n + 13))).set 1 (.ref (n + 14))).set 2 (.ref (n + 15))), aIn 64, aLg 64, aLg 8, .inr (4, (((ab_df 4 5).set 0 (.ref (n + 17))).set 1 (.ref (n + 18))).set 2 (.ref (n + 19))), aIn 64, aLg 64, aLg 8, .inr (4, (((ab_df 4 5).set 0 (.ref (n + 21))).set 1 (.ref (n + 22))).set 2 (.ref (n + 23))), aIn 64, aLg 64, aLg 8] := by
  unfold kPt
  rw [up_lws]
def s0I : Nat → Nat → Int32 := u2 (u2 (u2 (u2 (u2 (u2 (u2 (fun _ _ => 0) 0 16 (-1)) 4 17 (-1)) 30 17 (-1)) 61 7 1) 72 4 (-1)) 72 5 2) 76 6 (-1)
def s0A : Nat → Nat → Int32 := u1 (u1 (fun _ _ => 0) 3 (fun j => if j < 32 then padF 6 ((sxT 120).2.getD j 0) else (sxT 120).2.getD j 0)) 69 (fun j => if j < 128 then -1 else 0)
def s0B : ms_S := (s0I, fun _ _ => 0, fun _ _ => 57, s0A, fun _ _ => 0)
theorem lB_cut (S : ms_S) (a n b : Nat) (hb : a + n = b) (hl : b ≤ 175) : ms_h S a (lB.drop a) = ms_h S a ((lB.drop a).take n) ++ ms_h S b (lB.drop b) := by
  subst hb
  have e : ms_h S a (lB.drop a) = ms_h S a ((lB.drop a).take n ++ (lB.drop a).drop n) := by rw [List.take_append_drop]
  have hlen : ((lB.drop a).take n).length = n := by rw [List.length_take, List.length_drop, lB_len]; omega
  rw [e, wl_app, hlen, List.drop_drop]
set_option maxRecDepth 100000 in
theorem kz_0 : ms_h s0B 0 ((lB.drop 0).take 1) = [.inr (11, kXf 1)] := rfl
set_option maxRecDepth 100000 in
theorem kz_1 : ms_h s0B 1 ((lB.drop 1).take 3) = .inr (10, kTf 2) :: kTt := rfl
set_option maxRecDepth 100000 in
theorem kz_2 : ms_h s0B 4 ((lB.drop 4).take 25) = .inr (7, kPf 5) :: kPt 5 := by
  rw [kPt_lws]
  rfl
set_option maxRecDepth 100000 in
theorem kz_3 : ms_h s0B 29 ((lB.drop 29).take 32) = .inr (8, kRf 30 1) :: kRt 30 1 := by
  unfold kRt
  rw [kPt_lws]
  rfl
set_option maxRecDepth 100000 in
theorem kz_4 : ms_h s0B 61 ((lB.drop 61).take 6) = (.inr (9, (((((((ab_df 9 8).set 1 (.ref (62 + 0))).set 2 (.ref (62 + 1))).set 3 (.ref (62 + 2))).set 4 (.ref (62 + 3))).set 5 (.ref (62 + 4))).set 7 (.int 1)).set 0 (.ref 4))) :: [aLg 512, aIn 512, aLg 7, aLg 3584, aIn 512] := rfl
set_option maxRecDepth 100000 in
theorem kz_5 : ms_h s0B 67 ((lB.drop 67).take 5) = .inr (3, kJf 68 4 61) :: kJt := rfl
set_option maxRecDepth 100000 in
theorem kz_6 : ms_h s0B 72 ((lB.drop 72).take 1) = [.inr (0, ((((ab_df 0 6).set 4 (.int (-1))).set 5 (.int 2)).set 0 (.ref 4)).set 1 (.ref 67))] := rfl
set_option maxRecDepth 100000 in
theorem kz_7 : ms_h s0B 73 ((lB.drop 73).take 3) = (.inr (2, ((((ab_df 2 6).set 2 (.ref (74 + 0))).set 3 (.ref (74 + 1))).set 0 (.ref 4)).set 1 (.ref 61))) :: [aIn 2, aIn 3584] := rfl
set_option maxRecDepth 100000 in
theorem kz_8 : ms_h s0B 76 ((lB.drop 76).take 6) = (.inr (6, ((((((ab_df 6 7).set 0 (.ref (77 + 0))).set 1 (.ref (77 + 1))).set 2 (.ref (77 + 2))).set 3 (.ref (77 + 3))).set 4 (.ref (77 + 4))).set 6 (.int (-1)))) :: [aIn 24, aIn 24, aIn 24, aIn 24, aBo 24] := rfl
set_option maxRecDepth 100000 in
theorem kz_9 : ms_h s0B 82 ((lB.drop 82).take 4) = eOb 83 :: [aIn 5, aIn 5, aIn 5] := rfl
set_option maxRecDepth 100000 in
theorem kz_10 : ms_h s0B 86 ((lB.drop 86).take 4) = eOb 87 :: [aIn 5, aIn 5, aIn 5] := rfl
set_option maxRecDepth 100000 in
theorem kz_11 : ms_h s0B 90 ((lB.drop 90).take 4) = eOb 91 :: [aIn 5, aIn 5, aIn 5] := rfl
set_option maxRecDepth 100000 in
theorem kz_12 : ms_h s0B 94 ((lB.drop 94).take 1) = [eAr 95 20] := by
  unfold eAr
  rw [eR_pa]
  rfl
set_option maxRecDepth 100000 in
theorem kz_13 : ms_h s0B 95 ((lB.drop 95).take 80) = eBl 95 20 := rfl
set_option maxRecDepth 100000 in
theorem kz_14 : ms_h s0B 175 (lB.drop 175) = [] := rfl
theorem kz_u : kXu 1 = (((((((((((([] : ab_H) ++ (.inr (10, kTf 2) :: kTt)) ++ (.inr (7, kPf 5) :: kPt 5)) ++ (.inr (8, kRf 30 1) :: kRt 30 1)) ++ ((.inr (9, (((((((ab_df 9 8).set 1 (.ref (62 + 0))).set 2 (.ref (62 + 1))).set 3 (.ref (62 + 2))).set 4 (.ref (62 + 3))).set 5 (.ref (62 + 4))).set 7 (.int 1)).set 0 (.ref 4))) :: [aLg 512, aIn 512, aLg 7, aLg 3584, aIn 512])) ++ (.inr (3, kJf 68 4 61) :: kJt)) ++ [.inr (0, ((((ab_df 0 6).set 4 (.int (-1))).set 5 (.int 2)).set 0 (.ref 4)).set 1 (.ref 67))]) ++ ((.inr (2, ((((ab_df 2 6).set 2 (.ref (74 + 0))).set 3 (.ref (74 + 1))).set 0 (.ref 4)).set 1 (.ref 61))) :: [aIn 2, aIn 3584])) ++ ((.inr (6, ((((((ab_df 6 7).set 0 (.ref (77 + 0))).set 1 (.ref (77 + 1))).set 2 (.ref (77 + 2))).set 3 (.ref (77 + 3))).set 4 (.ref (77 + 4))).set 6 (.int (-1)))) :: [aIn 24, aIn 24, aIn 24, aIn 24, aBo 24])) ++ (eOb 83 :: [aIn 5, aIn 5, aIn 5])) ++ (eOb 87 :: [aIn 5, aIn 5, aIn 5])) ++ (eOb 91 :: [aIn 5, aIn 5, aIn 5])) := rfl
theorem kz_B : (.inr (11, kXf 1) :: kXt 1 : ab_H) = hLy lB s0B [] := by
  show _ = ms_h s0B 0 (lB.drop 0) ++ []
  rw [List.append_nil, lB_cut s0B 0 1 1 rfl (by decide), lB_cut s0B 1 3 4 rfl (by decide), lB_cut s0B 4 25 29 rfl (by decide), lB_cut s0B 29 32 61 rfl (by decide), lB_cut s0B 61 6 67 rfl (by decide), lB_cut s0B 67 5 72 rfl (by decide), lB_cut s0B 72 1 73 rfl (by decide), lB_cut s0B 73 3 76 rfl (by decide), lB_cut s0B 76 6 82 rfl (by decide), lB_cut s0B 82 4 86 rfl (by decide), lB_cut s0B 86 4 90 rfl (by decide), lB_cut s0B 90 4 94 rfl (by decide), lB_cut s0B 94 1 95 rfl (by decide), lB_cut s0B 95 80 175 rfl (by decide), kz_0, kz_1, kz_2, kz_3, kz_4, kz_5, kz_6, kz_7, kz_8, kz_9, kz_10, kz_11, kz_12, kz_13, kz_14]
  show (.inr (11, kXf 1) :: ((kXu 1 ++ [eAr 95 20]) ++ eBl 95 20) : ab_H) = _
  rw [kz_u]
  simp only [List.append_assoc, List.nil_append, List.append_nil, List.cons_append]
def g0G : tSG := gNew (((0, 0, fun _ => 0, fun _ => 0, fun _ => 0, fun _ => false, fun _ _ => none), (0, fun _ => 0, fun _ => 0, fun _ => 0, 0, fun _ => 0, fun _ => 0), 0, (fun _ => 0, fun _ => 0, fun _ => 0, 0, 0), 0), (0, fun _ => (fun _ => 0, fun _ => 0, fun _ => 0)), none, (0, 0, fun _ => (0, 0, 0, 0, false)), (fun _ => 0, fun _ => 0, 0, fun _ => 0, 0), (0, fun _ => 0, 0, 0)) D0
def o0G : Nat → Option tDQ := fun _ => none
theorem in_0 : ∀ e, e < 7 → (0 : Int64) = lN (inN (fun _ => 0) e) := by decide
theorem s0_bQ : bQ s0B g0G o0G 1 := by
  refine ⟨⟨⟨by decide, by decide, rfl, rfl, fun p hp => absurd hp (Nat.not_lt_zero _), ⟨rfl, rfl⟩, ⟨rfl, rfl⟩, ⟨rfl, rfl⟩, fun w hw => ⟨rfl, rfl⟩⟩, ⟨by decide, by decide, rfl, rfl, fun t ht => absurd ht (Nat.not_lt_zero _), fun t ht => absurd ht (Nat.not_lt_zero _)⟩, ⟨fun h hh => rfl, fun p hp => absurd hp (Nat.not_lt_zero _)⟩, Or.inl ⟨rfl, rfl⟩, by decide, Or.inl ⟨rfl, rfl⟩, by decide, fun p hp => absurd hp (Nat.not_lt_zero _), fun p hp => absurd hp (Nat.not_lt_zero _), rfl, by decide⟩, ⟨fun i hi => Or.inl ?_, ⟨1, fun _ => 0, by decide, rfl, by decide, by decide, fun e he => Nat.zero_lt_succ _, rfl, fun e he => in_0 e he, rfl, fun set hs => ⟨⟨0, by decide, rfl⟩, fun h => absurd (show (0 : Int32) = nI 1 from h) (by decide)⟩⟩, rfl, rfl⟩, ⟨by decide, rfl, rfl, Or.inl rfl, fun k hk => absurd hk (Nat.not_lt_zero _)⟩, ⟨fun h hh => rfl, fun h hh => ⟨rfl, Nat.zero_le _⟩, fun h hh => rfl, rfl, by decide, rfl, rfl, rfl, ⟨rfl, by decide⟩, fun p hp => absurd hp (Nat.not_lt_zero _), fun h hh => ⟨rfl, rfl⟩⟩, by decide, ⟨rfl, fun x hx => by cases hx⟩, ⟨by decide, rfl, 0, by decide, rfl, fun k hk => absurd hk (Nat.not_lt_zero _)⟩, ⟨by decide, rfl, fun i hi => absurd hi (Nat.not_lt_zero _), fun k hk => ?_, rfl, rfl⟩⟩
  · show (if i < 128 then (-1 : Int32) else 0) = -(nI 1)
    rw [if_pos hi]
    rfl
  · show (if k < 32 then padF 6 ((sxT 120).2.getD k 0) else (sxT 120).2.getD k 0) = _
    rw [if_pos hk]
    exact sx_lg k hk

