/-! ===== piece where it throws ===== -/
/-- what the throws ask of a state -/
def pc_Wd (U : State) : Prop := (∀ w ∈ pc_w1, w.before #[] U = true) ∧ (∀ w ∈ pc_w2, w.before #[] U = true) ∧ (∃ q, vk_R "BoneEstate" 151 "no such piece" q U) ∧ ∃ q, vk_R "BoneEstate" 171 "no such what" q U
theorem pc_Wd.go {s U : State} (hW : s.WarmedH U.vm) (hk : pc_sk s U) (h : pc_Wd s) : pc_Wd U :=
  ⟨pc_ride hW hk pc_w1_ride h.1, pc_ride hW hk pc_w2_ride h.2.1, h.2.2.1.elim (fun q x => ⟨q, x.warm hW⟩), h.2.2.2.elim (fun q x => ⟨q, x.warm hW⟩)⟩
section PCT
variable {G : ab_G} {tl : ab_H} {S : ms_S} {g : tSG} {o : Nat → Option tDQ} {V : Nat}
def pc_Met (G : ab_G) (tl : ab_H) (S : ms_S) (p w : Int32) (cls : String) : Prop :=
  MetFree G.1 M_X11_piece.2.1 (headSpec (ab_ws M_X11_piece) (ab_rm 6 1 6)) (fun v U => ab_Pc G false [.ref 0, .int p, .int w] (hLy lB S tl) v U ∧ pc_Wd U) (fun _ _ _ _ _ => True) (fun _ s o t => ∃ a, o = .threw a ∧ pc_End G (hLy lB S tl) cls 1 6 s a t)
set_option maxRecDepth 100000 in
set_option maxHeartbeats 4000000 in
theorem d_pieceT (hl : G.1.flags = pinnedFlags ++ [noTraceFlag]) (hA : ∀ q, ab_A G q → ∃ k, k < (hLy lB S tl).length ∧ q = ab_ad G k) (hQ : bQ S g o V) (p w : Int32) :
    ((A_piece g.1 p w).2 = 1 → pc_Met G tl S p w pc_IO) ∧ ((A_piece g.1 p w).2 = 2 → pc_Met G tl S p w pc_NS) := by
  have ct : ctI G 1 M_X11_isPiece false [.ref 0, .int p] lB S tl (fun v S' => v = bI (pcK g.1.1 p) ∧ S' = S) := u_pc hQ.1.1.2.2.1 p _ ⟨rfl, rfl⟩
  refine ⟨fun h0 => ?_, fun h0 => ?_⟩
  · have hp : pcK g.1.1 p = false := by
      cases hb : pcK g.1.1 p with
      | false => rfl
      | true =>
        exfalso
        unfold A_piece at h0
        rw [if_pos hb] at h0
        by_cases w0 : w = nI 0
        · rw [if_pos w0] at h0; exact nomatch (show (0 : Nat) = 1 from h0)
        · by_cases w1 : w = nI 1
          · rw [if_neg w0, if_pos w1] at h0; exact nomatch (show (0 : Nat) = 1 from h0)
          · by_cases w2 : w = nI 2
            · rw [if_neg w0, if_neg w1, if_pos w2] at h0; exact nomatch (show (0 : Nat) = 1 from h0)
            · by_cases w3 : w = nI 3
              · rw [if_neg w0, if_neg w1, if_neg w2, if_pos w3] at h0; exact nomatch (show (0 : Nat) = 1 from h0)
              · rw [if_neg w0, if_neg w1, if_neg w2, if_neg w3] at h0; exact absurd h0 (by decide)
    refine pc_ofR (M := M_X11_piece) (n := 2) o_X11_piece (Nat.le_of_ble_eq_true rfl) (fun p9 e s m args below meth c ha C hlk hex hW hP => ?_)
    have htr := ShelfD.Launch.traces_off hl ha
    have r1 : ∀ w ∈ pc_w1, w.before args s = true := pc_ride (State.WarmedH.refl s) (fun _ _ hy _ => hy) pc_w1_ride hW.1
    obtain ⟨q, hz⟩ := hW.2.2.1
    refine ms_step C rfl ?_
    refine ms_step C rfl ?_
    refine ab_callV C rfl rfl o_X11_isPiece v_X11_isPiece ct rfl rfl rfl (Nat.le_of_ble_eq_true rfl) ⟨by decide, by decide, by decide, by decide⟩ ?_
    rintro r9 h9 ⟨v1, S1, rfl, rfl, rfl, rfl⟩
    refine ms_step C rfl ?_
    refine ab_ite (fun _ => ?_) (fun z => absurd (by rw [hp]; rfl) z)
    exact pc_raise (cls := pc_IO) (tx := "no such piece") (ix := 7) (rx := pc_r7) C hlk hex htr rfl rfl rfl rfl rfl (r1 _ (by simp [pc_w1]; exact Or.inl rfl)) (r1 _ (by simp [pc_w1])) (fun a ha => r1 a (List.mem_append_right _ ha)) hz (by decide +kernel) (by decide +kernel) (by decide +kernel) (by decide +kernel) (by decide +kernel) (pc_st hA hP) ⟨by decide, by decide, by decide, by decide⟩ (fun U a h1 h2 h3 => ⟨_, h1, h2, a, rfl, h3⟩)
  · have hp : pcK g.1.1 p = true ∧ ¬ w = nI 0 ∧ ¬ w = nI 1 ∧ ¬ w = nI 2 ∧ ¬ w = nI 3 := by
      unfold A_piece at h0
      cases hb : pcK g.1.1 p with
      | false => rw [if_neg (by rw [hb]; decide)] at h0; exact absurd h0 (by decide)
      | true =>
        rw [if_pos hb] at h0
        by_cases w0 : w = nI 0
        · rw [if_pos w0] at h0; exact nomatch (show (0 : Nat) = 2 from h0)
        · by_cases w1 : w = nI 1
          · rw [if_neg w0, if_pos w1] at h0; exact nomatch (show (0 : Nat) = 2 from h0)
          · by_cases w2 : w = nI 2
            · rw [if_neg w0, if_neg w1, if_pos w2] at h0; exact nomatch (show (0 : Nat) = 2 from h0)
            · by_cases w3 : w = nI 3
              · rw [if_neg w0, if_neg w1, if_neg w2, if_pos w3] at h0; exact nomatch (show (0 : Nat) = 2 from h0)
              · exact ⟨rfl, w0, w1, w2, w3⟩
    have hd : w.toInt < 0 ∨ 3 < w.toInt := by
      rcases ts_c w 3 (by decide) with ⟨k, hk, rfl⟩ | ⟨hk, hd⟩
      · exfalso
        rcases (show k = 0 ∨ k = 1 ∨ k = 2 ∨ k = 3 by omega) with rfl | rfl | rfl | rfl
        · exact hp.2.1 rfl
        · exact hp.2.2.1 rfl
        · exact hp.2.2.2.1 rfl
        · exact hp.2.2.2.2 rfl
      · exact hd
    refine pc_ofR (M := M_X11_piece) (n := 2) o_X11_piece (Nat.le_of_ble_eq_true rfl) (fun p9 e s m args below meth c ha C hlk hex hW hP => ?_)
    have htr := ShelfD.Launch.traces_off hl ha
    have r1 : ∀ w ∈ pc_w2, w.before args s = true := pc_ride (State.WarmedH.refl s) (fun _ _ hy _ => hy) pc_w2_ride hW.2.1
    obtain ⟨q, hz⟩ := hW.2.2.2
    refine ms_step C rfl ?_
    refine ms_step C rfl ?_
    refine ab_callV C rfl rfl o_X11_isPiece v_X11_isPiece ct rfl rfl rfl (Nat.le_of_ble_eq_true rfl) ⟨by decide, by decide, by decide, by decide⟩ ?_
    rintro r9 h9 ⟨v1, S1, rfl, rfl, rfl, rfl⟩
    refine ms_step C rfl ?_
    refine ab_ite (fun z => absurd z (by rw [hp.1]; decide)) (fun _ => ?_)
    refine ms_step C rfl ?_
    refine ab_tsd (t := 87) C rfl hd rfl ?_
    exact pc_raise (cls := pc_NS) (tx := "no such what") (ix := 13) (rx := pc_rD) C hlk hex htr rfl rfl rfl rfl rfl (r1 _ (by simp [pc_w2]; exact Or.inl rfl)) (r1 _ (by simp [pc_w2])) (fun a ha => r1 a (List.mem_append_right _ ha)) hz (by decide +kernel) (by decide +kernel) (by decide +kernel) (by decide +kernel) (by decide +kernel) (pc_st hA hP) ⟨by decide, by decide, by decide, by decide⟩ (fun U a h1 h2 h3 => ⟨_, h1, h2, a, rfl, h3⟩)
end PCT

