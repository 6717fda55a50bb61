/-! ===== the reference's constructor, whole ===== -/
section GLT
variable {G : ab_G} {d : Nat} {M : ab_MD} {as' as : List Value} {S Sm : ms_S} {tl : ab_H}
def pmI (S : ms_S) (tl : ab_H) (K : Int32 → ms_S → Prop) (r : Option Value) (h' : ab_H) : Prop := ∃ (v : Int32) (T : ms_S), r = some (.int v) ∧ h' = hLy lB S (mT T ++ tl) ∧ K v T
def pmL (S : ms_S) (tl : ab_H) (K : Int64 → ms_S → Prop) (r : Option Value) (h' : ab_H) : Prop := ∃ (v : Int64) (T : ms_S), r = some (.long v) ∧ h' = hLy lB S (mT T ++ tl) ∧ K v T
def pmU (S : ms_S) (tl : ab_H) (K : ms_S → Prop) (r : Option Value) (h' : ab_H) : Prop := ∃ (T : ms_S), r = none ∧ h' = hLy lB S (mT T ++ tl) ∧ K T
theorem trI {K : Int32 → ms_S → Prop} (has : as'.map (rnV plM) = as) (ct : ∀ G' : ab_G, ctI G' d M false as' lM Sm [] K) : ab_CT G d M false as (hLy lB S (mT Sm ++ tl)) 0 0 (pmI S tl K) := by
  have key : ctI G d M false as lL0 (glU S Sm) tl (fun v U => ∃ T, hLy lL0 U tl = hLy lB S (mT T ++ tl) ∧ K v T) := by
    refine ctI.tr plM plM_ly plM_nd has (fun G' => ?_)
    have c := ct G'
    unfold ctI at c ⊢
    rw [gl_B]
    exact Met_mono c (fun r h' ⟨v, T, e1, e2, q⟩ => ⟨v, T, e1, e2, T, gl_C S Sm T tl, q⟩)
  unfold ctI at key
  rw [gl_A] at key
  exact Met_mono key (fun r h' ⟨v, U, e1, e2, T, e3, q⟩ => ⟨v, T, e1, e2.trans e3, q⟩)
theorem trL {K : Int64 → ms_S → Prop} (has : as'.map (rnV plM) = as) (ct : ∀ G' : ab_G, ctL G' d M false as' lM Sm [] K) : ab_CT G d M false as (hLy lB S (mT Sm ++ tl)) 0 0 (pmL S tl K) := by
  have key : ctL G d M false as lL0 (glU S Sm) tl (fun v U => ∃ T, hLy lL0 U tl = hLy lB S (mT T ++ tl) ∧ K v T) := by
    refine ctL.tr plM plM_ly plM_nd has (fun G' => ?_)
    have c := ct G'
    unfold ctL at c ⊢
    rw [gl_B]
    exact Met_mono c (fun r h' ⟨v, T, e1, e2, q⟩ => ⟨v, T, e1, e2, T, gl_C S Sm T tl, q⟩)
  unfold ctL at key
  rw [gl_A] at key
  exact Met_mono key (fun r h' ⟨v, U, e1, e2, T, e3, q⟩ => ⟨v, T, e1, e2.trans e3, q⟩)
theorem trU {K : ms_S → Prop} (has : as'.map (rnV plM) = as) (ct : ∀ G' : ab_G, ctU G' d M false as' lM Sm [] K) : ab_CT G d M false as (hLy lB S (mT Sm ++ tl)) 0 0 (pmU S tl K) := by
  have key : ctU G d M false as lL0 (glU S Sm) tl (fun U => ∃ T, hLy lL0 U tl = hLy lB S (mT T ++ tl) ∧ K T) := by
    refine ctU.tr plM plM_ly plM_nd has (fun G' => ?_)
    have c := ct G'
    unfold ctU at c ⊢
    rw [gl_B]
    exact Met_mono c (fun r h' ⟨T, e1, e2, q⟩ => ⟨T, e1, e2, T, gl_C S Sm T tl, q⟩)
  unfold ctU at key
  rw [gl_A] at key
  exact Met_mono key (fun r h' ⟨U, e1, e2, T, e3, q⟩ => ⟨T, e1, e2.trans e3, q⟩)
theorem mT_len (T : ms_S) : (mT T).length = 41 := (pc_len _ _ _).trans rfl
theorem hB_len (S : ms_S) : (ms_h S 0 lB).length = 175 := (pc_len S lB 0).trans rfl
set_option maxRecDepth 100000 in
theorem mT_0 (T : ms_S) : ∃ (fs : List Value) (t : ab_H), mT T = .inr (12, fs) :: t := ⟨_, _, rfl⟩
theorem hB_m (S T : ms_S) (tl : ab_H) : ∃ fs : List Value, (hLy lB S (mT T ++ tl))[175]? = some (.inr (12, fs)) := by
  obtain ⟨fs, t, e⟩ := mT_0 T
  refine ⟨fs, ?_⟩
  show (ms_h S 0 lB ++ (mT T ++ tl))[175]? = _
  rw [List.getElem?_append_right (by rw [hB_len]; exact Nat.le_refl _), hB_len, e]
  rfl
end GLT
set_option maxRecDepth 100000 in
set_option maxHeartbeats 1000000 in
theorem k_X12 {G : ab_G} {S : ms_S} : ab_CT G 4 M_X12_init true [.ref 175] (hLy lB S [.inr (12, ab_df 12 86)]) 40 35027 (fun r h' => r = none ∧ ∃ Sm, qE g0G Sm ∧ h' = hLy lB S (mT Sm)) := by
  have he : (hLy lB S [.inr (12, ab_df 12 86)])[175]? = some (.inr (12, ab_df 12 86)) := by
    show (ms_h S 0 lB ++ [.inr (12, ab_df 12 86)])[175]? = _
    rw [List.getElem?_append_right (by rw [hB_len]; exact Nat.le_refl _), hB_len]
    rfl
  have hl0 : (hLy lB S [.inr (12, ab_df 12 86)]).length = 176 := by
    show (ms_h S 0 lB ++ ([.inr (12, ab_df 12 86)] : ab_H)).length = _
    rw [List.length_append, hB_len]
    rfl
  have hst : ∀ y : ab_E, (hLy lB S [.inr (12, ab_df 12 86)]).set 175 y = ms_h S 0 lB ++ [y] := by
    intro y
    show (ms_h S 0 lB ++ ([.inr (12, ab_df 12 86)] : ab_H)).set 175 y = _
    rw [List.set_append_right _ _ (by rw [hB_len]; exact Nat.le_refl _), hB_len]
    rfl
  revert he hl0 hst
  generalize hLy lB S [.inr (12, ab_df 12 86)] = h
  intro he hl0 hst
  refine ab_ct o_X12_init (Nat.le_of_ble_eq_true rfl) (fun p e s m args below meth c C hr hl => ?_)
  have e0 : h = h.set 175 (.inr (12, ab_df 12 86)) ++ [] := by rw [List.append_nil]; exact (pc_set he).symm
  refine ab_step C rfl ?_
  refine ab_obj C rfl OI_X12 OI_1 OI_2 (Nat.le_of_ble_eq_true rfl) ⟨by decide, by decide⟩ ?_
  suffices key : ab_R G M_X12_init true h.length p e (ab_rm 4 40 35027) s m args below meth c (MQ below (ab_Q G true (h.length + 40) (fun r h' => r = none ∧ ∃ Sm, qE g0G Sm ∧ h' = hLy lB S (mT Sm))) args s 40 35027 (ab_A G)) 0 0 4 (ab_pad 1 (ab_exp [.ref 175])) [] (h.set 175 (.inr (12, ab_df 12 86)) ++ []) by
    rw [← e0] at key
    exact key
  refine k_X12a rfl C he (fun f hf => ?_)
  have ew : h.set 175 (.inr (12, kMf h.length)) ++ kMt f = hLy lB S (mT (sm0 f) ++ []) := by
    rw [hst, hl0, List.append_assoc, List.append_nil, ← km_T, List.singleton_append]
  rw [ew]
  refine ab_step C rfl ?_
  obtain ⟨fs9, hfs9⟩ := hB_m S (sm0 f) []
  refine ab_callV (M' := M_X12_plain) C rfl rfl o_X12_plain v_X12_plain (ab_lift (trU (as' := [.ref 0]) (K := fun X => mDr X D0 ∧ (m_tapeSize X = nI 0 ∧ m_thrown X = nI 0 ∧ m_fault X = nI 0 ∧ m_faultPlace X = -(nI 1)) ∧ mWd X) rfl (fun G' => u_plain G' false (sm0 f) [] _ (fun X x1 x2 x3 => ⟨x3, ⟨x2.1 0 1 (Or.inr rfl), x2.1 0 2 (Or.inr rfl), x2.1 0 4 (Or.inr rfl), x2.1 0 5 (Or.inr rfl)⟩, fun i hi => (congrFun (x2.2.2.2.1 2 rfl) i).trans (hf i hi)⟩))) (fun r h' ⟨T, _, e2, _⟩ => by rw [e2]; show (ms_h S 0 lB ++ (mT T ++ [])).length = (ms_h S 0 lB ++ (mT (sm0 f) ++ [])).length; simp only [List.length_append, mT_len])) hfs9 (as := []) (rest := []) rfl rfl (Nat.le_of_ble_eq_true rfl) ⟨by decide, by decide, Nat.le_of_ble_eq_true rfl, Nat.le_of_ble_eq_true rfl⟩ ?_
  rintro r h1 ⟨X, rfl, rfl, x1, x2, x3⟩
  refine ab_step C rfl ?_
  obtain ⟨fs8, hfs8⟩ := hB_m S X []
  refine ab_callV (M' := M_X12_keepText) C rfl rfl o_X12_keepText v_X12_keepText (ab_lift (trU (as' := [.ref 0]) (K := fun Z => qE g0G Z) rfl (fun G' => u_keep G' false X [] D0 _ x2 x3 x1 _ (fun Z hZ => hZ))) (fun r h' ⟨T, _, e2, _⟩ => by rw [e2]; show (ms_h S 0 lB ++ (mT T ++ [])).length = (ms_h S 0 lB ++ (mT X ++ [])).length; simp only [List.length_append, mT_len])) hfs8 (as := []) (rest := []) rfl rfl (Nat.le_of_ble_eq_true rfl) ⟨by decide, by decide, Nat.le_of_ble_eq_true rfl, Nat.le_of_ble_eq_true rfl⟩ ?_
  rintro r h1 ⟨Z, rfl, rfl, z1⟩
  exact ab_retV C hr hl rfl rfl ⟨rfl, Z, z1, by rw [List.append_nil]⟩

