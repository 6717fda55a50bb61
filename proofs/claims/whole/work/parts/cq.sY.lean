/-! ===== the law's own piece, whole; and its call ===== -/
theorem pc_set {tl : ab_H} : ∀ {j : Nat} {e : ab_E}, tl[j]? = some e → tl.set j e = tl := by
  induction tl with
  | nil => intro j e h; rfl
  | cons x t ih =>
    intro j e h
    cases j with
    | zero => cases h; rfl
    | succ j => show x :: t.set j e = x :: t; rw [ih h]
theorem pc_len (S : ms_S) : ∀ (lay : List ms_D) (a : Nat), (ms_h S a lay).length = lay.length
  | [], a => rfl
  | d :: t, a => by show (ms_h S (a + 1) t).length + 1 = t.length + 1; rw [pc_len S t]
section PCF
variable {G : ab_G} {tl : ab_H} {S : ms_S} {g : tSG} {o : Nat → Option tDQ} {V : Nat}
def pc_post (tl : ab_H) (g : tSG) (o : Nat → Option tDQ) (V j : Nat) (x w : Int32) : Option Value → ab_H → Prop := fun r h' => r = some (.int (nI (A_piece g.1 x w).2)) ∧
  ∃ (S' : ms_S) (f' : Nat → Int64), bQ S' g o (V + 5000) ∧ h' = hLy lB S' (tl.set j (.inl (1, 1, .inr (.inl f')))) ∧ ((A_piece g.1 x w).2 = 0 → f' 0 = (A_piece g.1 x w).1.toInt64)
theorem pc_le2 (C : tC) (x w : Int32) : (A_piece C x w).2 = 0 ∨ (A_piece C x w).2 = 1 ∨ (A_piece C x w).2 = 2 := by
  unfold A_piece
  split
  · split
    · exact Or.inl rfl
    · split
      · exact Or.inl rfl
      · split
        · exact Or.inl rfl
        · split
          · exact Or.inl rfl
          · exact Or.inr (Or.inr rfl)
  · exact Or.inr (Or.inl rfl)
theorem d_Lpiece (hl : G.1.flags = pinnedFlags ++ [noTraceFlag]) (hA : ∀ q, ab_A G q → ∃ k, k < (hLy lB S tl).length ∧ q = ab_ad G k) (hQ : bQ S g o V) (x w : Int32) {j : Nat} {f : Nat → Int64} (hj : tl[j]? = some (.inl (1, 1, .inr (.inl f)))) :
    Met G.1 yL_piece pc_ws (ab_rm 8 1 6) (fun v U => ab_Pc G false [.ref 0, .int x, .int w, .ref (175 + j)] (hLy lB S tl) v U ∧ pc_Wl U) (ab_Q G false 1 (pc_post tl g o V j x w)) 1 6 (ab_A G) := by
  have q0 : bQ S g o (V + 5000) := bQ_m hQ (by omega)
  have hlen : ∀ S' : ms_S, (ms_h S' 0 lB).length = 175 := fun S' => (pc_len S' lB 0).trans rfl
  rcases pc_le2 g.1 x w with h0 | h0 | h0
  · refine pc_l0 (fs := _) rfl (d_piece hQ x w h0) ?_
    rintro r h' ⟨v, S', rfl, rfl, q1, rfl⟩
    refine ⟨_, f, rfl, ?_, by rw [h0], S', vp_updL f 0 (A_piece g.1 x w).1.toInt64, q1, ?_, fun _ => rfl⟩
    · show (ms_h S' 0 lB ++ tl)[175 + j]? = _
      rw [List.getElem?_append_right (by rw [hlen]; omega), hlen, show 175 + j - 175 = j by omega]
      exact hj
    · show (ms_h S' 0 lB ++ tl).set (175 + j) _ = _
      rw [List.set_append_right _ _ (by rw [hlen]; omega), hlen, show 175 + j - 175 = j by omega]
  · exact pc_lT 1 (Or.inl ⟨rfl, rfl⟩) hA ((d_pieceT hl hA hQ x w).1 h0) ⟨by rw [h0], S, f, q0, by rw [pc_set hj], fun z => by rw [h0] at z; cases z⟩
  · exact pc_lT 2 (Or.inr ⟨rfl, rfl⟩) hA ((d_pieceT hl hA hQ x w).2 h0) ⟨by rw [h0], S, f, q0, by rw [pc_set hj], fun z => by rw [h0] at z; cases z⟩
end PCF

