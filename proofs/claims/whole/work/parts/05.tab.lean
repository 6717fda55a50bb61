/-! ===== checking the rows by the kernel ===== -/
def tb_c : Nat → List Cond
  | 0 => k2_sels lw_privs
  | 1 => tables_1_1
  | 2 => tables_1_2
  | 3 => tables_1_3
  | 4 => tables_1_4
  | 5 => tables_1_5
  | 6 => tables_1_6
  | 7 => tables_1_7
  | 8 => tables_1_8
  | 9 => tables_1_9
  | _ => tables_1_10
theorem tb_c_in : ∀ (j : Nat) (w : Cond), w ∈ tb_c j → w ∈ lw_tbl := by
  intro j w h
  have key : ∀ (w : Cond), w ∈ k2_sels lw_privs ∨ w ∈ tables_1_1 ∨ w ∈ tables_1_2 ∨ w ∈ tables_1_3 ∨ w ∈ tables_1_4 ∨ w ∈ tables_1_5 ∨ w ∈ tables_1_6 ∨ w ∈ tables_1_7 ∨ w ∈ tables_1_8 ∨ w ∈ tables_1_9 ∨ w ∈ tables_1_10 → w ∈ lw_tbl := by
    intro w h
    show w ∈ k2_sels lw_privs ++ (tables_1_1 ++ (tables_1_2 ++ (tables_1_3 ++ (tables_1_4 ++ (tables_1_5 ++ (tables_1_6 ++ (tables_1_7 ++ (tables_1_8 ++ (tables_1_9 ++ tables_1_10)))))))))
    simp only [List.mem_append]
    exact h
  match j, h with
  | 0, h => exact key w (Or.inl h)
  | 1, h => exact key w (Or.inr (Or.inl h))
  | 2, h => exact key w (Or.inr (Or.inr (Or.inl h)))
  | 3, h => exact key w (Or.inr (Or.inr (Or.inr (Or.inl h))))
  | 4, h => exact key w (Or.inr (Or.inr (Or.inr (Or.inr (Or.inl h)))))
  | 5, h => exact key w (Or.inr (Or.inr (Or.inr (Or.inr (Or.inr (Or.inl h))))))
  | 6, h => exact key w (Or.inr (Or.inr (Or.inr (Or.inr (Or.inr (Or.inr (Or.inl h)))))))
  | 7, h => exact key w (Or.inr (Or.inr (Or.inr (Or.inr (Or.inr (Or.inr (Or.inr (Or.inl h))))))))
  | 8, h => exact key w (Or.inr (Or.inr (Or.inr (Or.inr (Or.inr (Or.inr (Or.inr (Or.inr (Or.inl h)))))))))
  | 9, h => exact key w (Or.inr (Or.inr (Or.inr (Or.inr (Or.inr (Or.inr (Or.inr (Or.inr (Or.inr (Or.inl h))))))))))
  | n + 10, h => exact key w (Or.inr (Or.inr (Or.inr (Or.inr (Or.inr (Or.inr (Or.inr (Or.inr (Or.inr (Or.inr h))))))))))
/-- the words ws stand at the places js -/
def tb_k : List (Nat × Nat) → List Cond → Bool
  | _, [] => true
  | [], _ :: _ => false
  | j :: js, w :: ws => decide ((tb_c j.1)[j.2]? = some w) && goodWord w && tb_k js ws
theorem tb_k_ok : ∀ (js : List (Nat × Nat)) (ws : List Cond), tb_k js ws = true → ∀ w ∈ ws, w ∈ ab_T
  | _, [], _, w, h => by cases h
  | [], _ :: _, hk, w, h => by cases hk
  | j :: js, w0 :: ws, hk, w, h => by
    simp only [tb_k, Bool.and_eq_true] at hk
    rcases List.mem_cons.mp h with rfl | h
    · exact ab_T_in (tb_c_in j.1 _ (List.mem_of_getElem? (of_decide_eq_true hk.1.1))) hk.1.2
    · exact tb_k_ok js ws hk.2 w h
def tb_fw (own : String) (r : Nat × Nat × Nat × Nat × Bool) : Cond := match vwCl[r.2.1]? with
  | some q => Cond.fieldLink own r.1 (q.2.1 r.2.2.1).1 (q.2.1 r.2.2.1).2.1 (q.2.1 r.2.2.1).2.2.1
  | none => Cond.tt
/-- a class's words -/
def tb_kw (K : ab_CD) : List Cond := K.2.2.1.map (tb_fw K.1) ++ (K.2.2.2.1.map (fun r => Cond.methodLink K.1 r.1 r.2) ++ (K.2.2.2.2.1.map (fun r => Cond.constant K.1 r.1 r.2) ++ K.2.2.2.2.2.1.map (fun r => Cond.constantLong K.1 r.1 r.2)))
def tb_ff (own : String) (oci : Nat) (r : Nat × Nat × Nat × Nat × Bool) : Bool := match vwCl[r.2.1]? with
  | some q => decide (r.2.2.1 < q.2.2) && ((q.2.1 r.2.2.1).2.2.2 == r.2.2.2.2) && (ab_tk (ab_ty r.2.1 r.2.2.1) == r.2.2.2.1) && (!(r.2.1 == oci) || decide ((q.2.1 r.2.2.1).1 = own))
  | none => false
theorem tb_oc {K : ab_CD} (hcl : ∀ (ci : Nat) (q : vw_C), vwCl[ci]? = some q → ab_cl ci q) (js : List (Nat × Nat)) (hk : tb_k js (tb_kw K) = true) (hf : K.2.2.1.all (tb_ff K.1 K.2.1) = true) : ab_OC K := by
  have hw := tb_k_ok js _ hk
  refine ⟨fun r hr => ?_, fun r hr => hw _ ?_, fun r hr => hw _ ?_, fun r hr => hw _ ?_⟩
  · have h1 := List.all_eq_true.mp hf r hr
    have h2 : tb_fw K.1 r ∈ ab_T := hw _ (List.mem_append_left _ (List.mem_map_of_mem hr))
    unfold tb_ff at h1
    unfold tb_fw at h2
    cases hq : vwCl[r.2.1]? with
    | none => rw [hq] at h1; cases h1
    | some q =>
      rw [hq] at h1 h2
      simp only [Bool.and_eq_true, beq_iff_eq] at h1
      refine ⟨q, hq, hcl _ _ hq, of_decide_eq_true h1.1.1.1, h2, h1.1.1.2, h1.1.2, fun hc => ?_⟩
      have h3 := h1.2
      rw [hc] at h3
      simpa using h3
  · exact List.mem_append_right _ (List.mem_append_left _ (List.mem_map_of_mem (f := fun r : Nat × MethodName => Cond.methodLink K.1 r.1 r.2) hr))
  · exact List.mem_append_right _ (List.mem_append_right _ (List.mem_append_left _ (List.mem_map_of_mem (f := fun r : Nat × Int32 => Cond.constant K.1 r.1 r.2) hr)))
  · exact List.mem_append_right _ (List.mem_append_right _ (List.mem_append_right _ (List.mem_map_of_mem (f := fun r : Nat × Int64 => Cond.constantLong K.1 r.1 r.2) hr)))
def tb_rr (b : ByteArray) (r : Nat × Instr × Nat) : Bool := decide (decode b r.1 = .ok (r.2.1, r.2.2)) && (Nat.beq (ab_len r.2.1) r.2.2 || ab_sw r.2.1) && ab_cst r.2.1
theorem tb_rr_ok {b : ByteArray} {l : List (Nat × Instr × Nat)} (h : l.all (tb_rr b) = true) : ∀ r ∈ l, ab_ro b r := by
  intro r hr
  have h1 := List.all_eq_true.mp h r hr
  simp only [tb_rr, Bool.and_eq_true, Bool.or_eq_true] at h1
  exact ⟨of_decide_eq_true h1.1.1, h1.1.2.imp Nat.eq_of_beq_eq_true id, h1.2⟩
/-- a method: its class is sound, its rows are, its words stand -/
def tb_mm (M : ab_MD) (n : Nat) : Bool := decide (M.2.1.cls = M.1.1) && (!M.2.2.2.2.2.1 || decide (M.2.1.name = "<init>")) && plainName M.2.1.cls && decide (M.2.1.cls ≠ "java/lang/invoke/MethodHandle") && decide (M.2.1.cls ≠ "java/lang/invoke/VarHandle") && decide ((parseMethodDescriptor M.2.1.desc).map (fun d => d.parameters.length) = some n) && Nat.ble M.2.2.2.1 40
theorem tb_ok {M : ab_MD} {n : Nat} (oc : ab_OC M.1) (hm : tb_mm M n = true) (hr : M.2.2.2.2.2.2.all (tb_rr M.2.2.1) = true) (h1 : Cond.code M.2.1 M.2.2.1 M.2.2.2.1 M.2.2.2.2.1 ∈ ab_T) (h2 : Cond.initialized M.2.1.cls ∈ ab_T) : ab_OK M n := by
  simp only [tb_mm, Bool.and_eq_true, Bool.or_eq_true, Bool.not_eq_true'] at hm
  obtain ⟨⟨⟨⟨⟨⟨a1, a2⟩, a3⟩, a4⟩, a5⟩, a6⟩, a7⟩ := hm
  refine ⟨⟨oc, of_decide_eq_true a1, fun q => ?_, tb_rr_ok hr⟩, h1, h2, a3, ⟨of_decide_eq_true a4, of_decide_eq_true a5, of_decide_eq_true a6⟩, Nat.le_of_ble_eq_true a7⟩
  rcases a2 with a2 | a2
  · rw [q] at a2; cases a2
  · exact of_decide_eq_true a2
theorem tb_app {α : Type} {f : α → Bool} {l1 l2 : List α} (h1 : l1.all f = true) (h2 : l2.all f = true) : (l1 ++ l2).all f = true := by rw [List.all_append, h1, h2]; rfl
