/-! ===== a contract over some cells serves a larger world ===== -/
def pxF : List Nat → Nat → Nat → Option Nat
  | [], _, _ => none
  | c :: t, a, k => cond (Nat.beq c a) (some k) (pxF t a (k + 1))
def mgF {α : Type} (pl : List Nat) (big small : Nat → α) : Nat → α := fun a => match pxF pl a 0 with
  | some k => small k
  | none => big a
def mgS (pl : List Nat) (S T : ms_S) : ms_S := (mgF pl S.1 T.1, mgF pl S.2.1 T.2.1, S.2.2.1, mgF pl S.2.2.2.1 T.2.2.2.1, mgF pl S.2.2.2.2 T.2.2.2.2)
def rsF {α : Type} (pl : List Nat) (V : Nat → α) : Nat → α := fun k => V (pl.getD k 0)
def rsS (pl : List Nat) (S : ms_S) : ms_S := (rsF pl S.1, rsF pl S.2.1, S.2.2.1, rsF pl S.2.2.2.1, rsF pl S.2.2.2.2)
def rnQ (pl : List Nat) (q : Nat × Nat) : Nat × Nat := cond (Nat.beq q.1 2) (2, pl.getD q.2 0) q
def rnD (pl : List Nat) : ms_D → ms_D
  | .inl q => .inl q
  | .inr (.inl (ci, fs)) => .inr (.inl (ci, fs.map (rnQ pl)))
  | .inr (.inr (k, n, f)) => .inr (.inr (k, n, fun j => (f j).map (fun d => pl.getD d 0)))
def rnV (pl : List Nat) : Value → Value
  | .ref k => .ref (pl.getD k 0)
  | v => v
def nrD : ms_D → Bool
  | .inl _ => true
  | .inr (.inl (_, fs)) => fs.all (fun q => !Nat.beq q.1 3)
  | .inr (.inr _) => true
def lyIn (pl : List Nat) (lay : List ms_D) : List Nat → List ms_D → Prop
  | [], [] => True
  | a :: ps, d :: ds => lay[a]? = some (rnD pl d) ∧ nrD d = true ∧ lyIn pl lay ps ds
  | _, _ => False
def ndL : List Nat → Bool
  | [] => true
  | a :: t => t.all (fun b => !Nat.beq a b) && ndL t
theorem pxF_some : ∀ {pl : List Nat} {a k0 k : Nat}, pxF pl a k0 = some k → k0 ≤ k ∧ pl[k - k0]? = some a
  | [], a, k0, k, h => by cases h
  | c :: t, a, k0, k, h => by
    unfold pxF at h
    cases hb : Nat.beq c a with
    | true =>
      rw [hb] at h
      cases h
      refine ⟨Nat.le_refl _, ?_⟩
      rw [Nat.sub_self, Nat.eq_of_beq_eq_true hb]
      rfl
    | false =>
      rw [hb] at h
      obtain ⟨h1, h2⟩ := pxF_some (k0 := k0 + 1) h
      refine ⟨by omega, ?_⟩
      rw [show k - k0 = (k - (k0 + 1)) + 1 by omega]
      exact h2
theorem pxF_none : ∀ {pl : List Nat} {a k0 : Nat}, pxF pl a k0 = none → ∀ k : Nat, pl[k]? ≠ some a
  | [], a, k0, h, k, z => by simp at z
  | c :: t, a, k0, h, k, z => by
    unfold pxF at h
    cases hb : Nat.beq c a with
    | true => rw [hb] at h; cases h
    | false =>
      rw [hb] at h
      cases k with
      | zero =>
        have z : some c = some a := z
        cases z
        rw [Nat.beq_refl] at hb
        cases hb
      | succ k => exact pxF_none (k0 := k0 + 1) h k z
theorem ndL_inj : ∀ {pl : List Nat}, ndL pl = true → ∀ {i j a : Nat}, pl[i]? = some a → pl[j]? = some a → i = j
  | [], _, i, j, a, h1, _ => by simp at h1
  | c :: t, h, i, j, a, h1, h2 => by
    unfold ndL at h
    simp only [Bool.and_eq_true, List.all_eq_true] at h
    have key : ∀ k, t[k]? = some c → False := fun k hk => by
      have := h.1 c (List.mem_of_getElem? hk)
      rw [Nat.beq_refl] at this
      cases this
    cases i with
    | zero =>
      have h1 : some c = some a := h1
      cases h1
      cases j with
      | zero => rfl
      | succ j => exact absurd h2 (fun z => key j z)
    | succ i =>
      cases j with
      | zero =>
        have h2 : some c = some a := h2
        cases h2
        exact absurd h1 (fun z => key i z)
      | succ j =>
        have := ndL_inj h.2 (i := i) (j := j) h1 h2
        omega
theorem lyIn_get : ∀ {pl : List Nat} {lay : List ms_D} {ps : List Nat} {ds : List ms_D}, lyIn pl lay ps ds → ∀ {k : Nat} {d : ms_D}, ds[k]? = some d → ∃ a, ps[k]? = some a ∧ lay[a]? = some (rnD pl d) ∧ nrD d = true
  | _, _, [], [], _, k, d, h => by simp at h
  | _, _, [], _ :: _, h, _, _, _ => h.elim
  | _, _, _ :: _, [], h, _, _, _ => h.elim
  | _, _, a :: ps, d0 :: ds, h, 0, d, hk => by
    have hk : some d0 = some d := hk
    cases hk
    exact ⟨a, rfl, h.1, h.2.1⟩
  | _, _, a :: ps, d0 :: ds, h, k + 1, d, hk => lyIn_get (k := k) h.2.2 hk
theorem lyIn_len : ∀ {pl : List Nat} {lay : List ms_D} {ps : List Nat} {ds : List ms_D}, lyIn pl lay ps ds → ps.length = ds.length
  | _, _, [], [], _ => rfl
  | _, _, [], _ :: _, h => h.elim
  | _, _, _ :: _, [], h => h.elim
  | _, _, a :: ps, d0 :: ds, h => by
    have := lyIn_len h.2.2
    show ps.length + 1 = ds.length + 1
    omega
theorem ms_f_ren {ad : Nat → Nat} {pl : List Nat} {S T : ms_S} {a k : Nat} (h1 : S.1 a = T.1 k) (h2 : S.2.1 a = T.2.1 k) : ∀ (fs : List (Nat × Nat)) (j : Nat), fs.all (fun q => !Nat.beq q.1 3) = true → (ms_f S a j (fs.map (rnQ pl))).map (ab_v ad) = (ms_f T k j fs).map (ab_v (fun i => ad (pl.getD i 0)))
  | [], j, _ => rfl
  | q :: t, j, h => by
    simp only [List.all_cons, Bool.and_eq_true] at h
    have ih := ms_f_ren (ad := ad) (pl := pl) h1 h2 t (j + 1) h.2
    show ab_v ad (ms_fv S a j (rnQ pl q)) :: _ = ab_v (fun i => ad (pl.getD i 0)) (ms_fv T k j q) :: _
    rw [ih]
    congr 1
    obtain ⟨c, d⟩ := q
    have h3 : (!Nat.beq c 3) = true := h.1
    match c, h3 with
    | 0, _ => show Value.int (S.1 a j) = Value.int (T.1 k j); rw [h1]
    | 1, _ => show Value.long (S.2.1 a j) = Value.long (T.2.1 k j); rw [h2]
    | 2, _ => rfl
    | 3, z => cases z
    | n + 4, _ => rfl
theorem ms_c_ren {ad : Nat → Nat} {cA : Nat → ClassId} {pl : List Nat} {S T : ms_S} {a k : Nat} (h1 : S.1 a = T.1 k) (h2 : S.2.1 a = T.2.1 k) (h4 : S.2.2.2.1 a = T.2.2.2.1 k) (h5 : S.2.2.2.2 a = T.2.2.2.2 k) : ∀ (d : ms_D), nrD d = true → ab_e ad cA (ms_c S a (rnD pl d)) = ab_e (fun i => ad (pl.getD i 0)) cA (ms_c T k d)
  | .inl (kd, n), _ => by
    match kd with
    | 0 => show Sum.inl (cA 0, n, Sum.inl (S.2.2.2.1 a)) = Sum.inl (cA 0, n, Sum.inl (T.2.2.2.1 k)); rw [h4]
    | 1 => show Sum.inl (cA 1, n, Sum.inr (Sum.inl (S.2.2.2.2 a))) = Sum.inl (cA 1, n, Sum.inr (Sum.inl (T.2.2.2.2 k))); rw [h5]
    | m + 2 => show Sum.inl (cA (m + 2), n, Sum.inl (S.2.2.2.1 a)) = Sum.inl (cA (m + 2), n, Sum.inl (T.2.2.2.1 k)); rw [h4]
  | .inr (.inl (ci, fs)), h => by
    show Sum.inr (ci, (ms_f S a 0 (fs.map (rnQ pl))).map (ab_v ad)) = Sum.inr (ci, (ms_f T k 0 fs).map (ab_v (fun i => ad (pl.getD i 0))))
    rw [ms_f_ren h1 h2 fs 0 h]
  | .inr (.inr (kd, n, f)), _ => by
    show Sum.inl (cA kd, n, Sum.inr (Sum.inr (Sum.inr (Sum.inr (fun j => ((f j).map (fun d => pl.getD d 0)).map ad))))) = Sum.inl (cA kd, n, Sum.inr (Sum.inr (Sum.inr (Sum.inr (fun j => (f j).map (fun i => ad (pl.getD i 0)))))))
    have ef : (fun j => ((f j).map (fun d => pl.getD d 0)).map ad) = (fun j => (f j).map (fun i => ad (pl.getD i 0))) := by
      funext j
      cases f j <;> rfl
    rw [ef]
theorem ab_v_ren (ad : Nat → Nat) (pl : List Nat) (v : Value) : ab_v ad (rnV pl v) = ab_v (fun i => ad (pl.getD i 0)) v := by cases v <;> rfl
theorem mgF_at {α : Type} {pl : List Nat} {B T : Nat → α} {a k : Nat} (h : pxF pl a 0 = some k) : mgF pl B T a = T k := by
  unfold mgF
  rw [h]
theorem mgF_no {α : Type} {pl : List Nat} {B T : Nat → α} {a : Nat} (h : pxF pl a 0 = none) : mgF pl B T a = B a := by
  unfold mgF
  rw [h]
def nrV : Option Value → Bool
  | some (.ref _) => false
  | _ => true
theorem ab_tr {G : ab_G} {d : Nat} {M : ab_MD} {as' : List Value} {lay lay' : List ms_D} {S : ms_S} {tl : ab_H} {K' : Option Value → ms_S → Prop} (pl : List Nat) (hly : lyIn pl lay pl lay') (hnd : ndL pl = true)
    (ct : ∀ A', ab_CT (G.1, G.2.1, G.2.2.1, A', fun k => ab_ad G (pl.getD k 0)) d M false as' (hLy lay' (rsS pl S) []) 0 0 (fun r h' => ∃ T, h' = hLy lay' T [] ∧ K' r T ∧ nrV r = true)) :
    ab_CT G d M false (as'.map (rnV pl)) (hLy lay S tl) 0 0 (fun r h' => ∃ T, h' = hLy lay (mgS pl S T) tl ∧ K' r T) := by
  intro p e ha hcas hclock s m args below hf happ hP hK
  obtain ⟨e1, hKK, ⟨i1, i2, i3, i4⟩⟩ := hP
  have wl : ∀ (T : ms_S) (k : Nat) (q : Nat × va_E), (ab_w (fun k => ab_ad G (pl.getD k 0)) G.2.2.1 0 (hLy lay' T []))[k]? = some q → ∃ (d' : ms_D) (a : Nat), lay'[k]? = some d' ∧ pl[k]? = some a ∧ lay[a]? = some (rnD pl d') ∧ nrD d' = true ∧ q = (ab_ad G a, ab_e (fun i => ab_ad G (pl.getD i 0)) G.2.2.1 (ms_c T k d')) := by
    intro T k q hq
    rw [ab_w_get, hLy, List.append_nil, ms_h_get] at hq
    cases hd : lay'[k]? with
    | none => rw [hd] at hq; cases hq
    | some d' =>
      rw [hd] at hq
      obtain ⟨a, a1, a2, a3⟩ := lyIn_get hly hd
      refine ⟨d', a, rfl, a1, a2, a3, ?_⟩
      have hq : some (ab_ad G (pl.getD (0 + k) 0), ab_e (fun i => ab_ad G (pl.getD i 0)) G.2.2.1 (ms_c T (0 + k) d')) = some q := hq
      rw [Nat.zero_add] at hq
      cases hq
      rw [List.getD_eq_getElem?_getD, a1]
      rfl
  have bl : ∀ (U : ms_S) (a : Nat) (dd : ms_D), lay[a]? = some dd → (ab_W G (hLy lay U tl))[a]? = some (ab_ad G a, ab_e (ab_ad G) G.2.2.1 (ms_c U a dd)) := fun U a dd h => ab_at (ms_get h)
  have hin : ∀ k a : Nat, pl[k]? = some a → ab_A G (ab_ad G a) := by
    intro k a hk
    have hk2 : k < lay'.length := by
      rw [← lyIn_len hly]
      exact (List.getElem?_eq_some_iff.mp hk).1
    obtain ⟨a', a1, a2, a3⟩ := lyIn_get hly (List.getElem?_eq_getElem hk2)
    rw [hk] at a1
    cases a1
    exact i2.2 _ _ (bl S a _ a2)
  have hAA : ∀ q, (∃ k a : Nat, pl[k]? = some a ∧ q = ab_ad G a) → ab_A G q := fun q ⟨k, a, h1, h2⟩ => by rw [h2]; exact hin k a h1
  have gd : ∀ {k a : Nat}, pl[k]? = some a → pl.getD k 0 = a := fun h => by rw [List.getD_eq_getElem?_getD, h]; rfl
  obtain ⟨n9, o9, a1, a2, a3, ⟨⟨⟨r, h', b1, ⟨T, rfl, hKr, hnr⟩, ⟨j1, j2, j3, j4⟩, b3⟩, b4⟩, ⟨Lc, b5, b6⟩⟩⟩ := ct (fun q => ∃ k a : Nat, pl[k]? = some a ∧ q = ab_ad G a) p e ha hcas hclock s m args below hf happ ⟨by
    rw [e1, List.map_map]
    congr 1
    exact List.map_congr_left (fun v _ => ab_v_ren _ _ v), hKK, ⟨fun k q hq => by
      obtain ⟨d', a, w1, w2, w3, w4, rfl⟩ := wl _ _ _ hq
      have := i1 a _ (bl S a _ w3)
      rw [ms_c_ren (T := rsS pl S) (k := k) (by show _ = S.1 (pl.getD k 0); rw [gd w2]) (by show _ = S.2.1 (pl.getD k 0); rw [gd w2]) (by show _ = S.2.2.2.1 (pl.getD k 0); rw [gd w2]) (by show _ = S.2.2.2.2 (pl.getD k 0); rw [gd w2]) d' w4] at this
      exact this, ⟨fun i j q1 q2 h1 h2 h3 => by
      obtain ⟨d1, c1, w1, w2, w3, w4, rfl⟩ := wl _ _ _ h1
      obtain ⟨d2, c2, y1, y2, y3, y4, rfl⟩ := wl _ _ _ h2
      have := i2.1 c1 c2 _ _ (bl S c1 _ w3) (bl S c2 _ y3) h3
      subst this
      exact ndL_inj hnd w2 y2, fun k q hq => by
      obtain ⟨d1, c1, w1, w2, w3, w4, rfl⟩ := wl _ _ _ hq
      exact ⟨k, c1, w2, rfl⟩⟩, (fun z => Bool.noConfusion z), (fun z => Bool.noConfusion z)⟩⟩ hK
  -- the larger world behind it
  have same : ∀ (a : Nat) (q : Nat × va_E), pxF pl a 0 = none → (ab_W G (hLy lay (mgS pl S T) tl))[a]? = some q → (ab_W G (hLy lay S tl))[a]? = some q := by
    intro a q hx hq
    by_cases hl : a < lay.length
    · have hd := List.getElem?_eq_getElem hl
      rw [bl (mgS pl S T) a _ hd] at hq
      rw [bl S a _ hd, ← hq]
      rw [ms_c_congr (S := mgS pl S T) (S' := S) (a := a) (fun k => congrFun (mgF_no hx) k) (fun k => congrFun (mgF_no hx) k) (fun _ => rfl) (mgF_no hx) (mgF_no hx)]
    · have hr : ∀ U : ms_S, (ab_W G (hLy lay U tl))[a]? = (tl[a - lay.length]?).map (fun e => (ab_ad G (0 + a), ab_e (ab_ad G) G.2.2.1 e)) := fun U => by
        rw [ab_W, ab_w_get, hLy, List.getElem?_append_right (by rw [ms_h_len]; omega), ms_h_len]
      rw [hr] at hq ⊢
      exact hq
  have adr : ∀ (U : ms_S) (a : Nat) (q : Nat × va_E), (ab_W G (hLy lay U tl))[a]? = some q → q.1 = ab_ad G a := by
    intro U a q hq
    rw [ab_W, ab_w_get, Option.map_eq_some_iff] at hq
    obtain ⟨x, -, rfl⟩ := hq
    show ab_ad G (0 + a) = _
    rw [Nat.zero_add]
  have hex : ∀ (U V : ms_S) (a : Nat) (q : Nat × va_E), (ab_W G (hLy lay U tl))[a]? = some q → ∃ q', (ab_W G (hLy lay V tl))[a]? = some q' := by
    intro U V a q hq
    rw [ab_W, ab_w_get, Option.map_eq_some_iff] at hq
    obtain ⟨x, h1, -⟩ := hq
    have hl : a < (hLy lay V tl).length := by
      have := (List.getElem?_eq_some_iff.mp h1).1
      rw [hLy, List.length_append, ms_h_len] at this ⊢
      exact this
    exact ⟨_, by rw [ab_W, ab_w_get, List.getElem?_eq_getElem hl]; rfl⟩
  refine ⟨n9, o9, a1, a2, a3, ⟨⟨⟨r, _, ?_, ⟨T, rfl, hKr⟩, ⟨fun a q hq => ?_, ⟨fun i j q1 q2 h1 h2 h3 => ?_, fun k q hq => ?_⟩, (fun z => Bool.noConfusion z), (fun z => Bool.noConfusion z)⟩, (fun z => Bool.noConfusion z)⟩, ⟨b4.1, fun q h1 h2 => b4.2 q h1 (fun z => h2 (hAA q z))⟩⟩, ⟨Lc, b5, fun q hq => hAA _ (b6 q hq)⟩⟩⟩
  · rw [b1]
    cases r with
    | none => rfl
    | some v => cases v <;> first | rfl | cases hnr
  · cases hx : pxF pl a 0 with
    | some k =>
      have hk := (pxF_some hx).2
      rw [Nat.sub_zero] at hk
      have hk2 : k < lay'.length := by
        rw [← lyIn_len hly]
        exact (List.getElem?_eq_some_iff.mp hk).1
      have hd' := List.getElem?_eq_getElem hk2
      obtain ⟨a', c1, c2, c3⟩ := lyIn_get hly hd'
      rw [hk] at c1
      cases c1
      rw [bl _ a _ c2] at hq
      cases hq
      have hsm : (ab_w (fun k => ab_ad G (pl.getD k 0)) G.2.2.1 0 (hLy lay' T []))[k]? = some (ab_ad G a, ab_e (fun i => ab_ad G (pl.getD i 0)) G.2.2.1 (ms_c T k lay'[k])) := by
        rw [ab_w_get, hLy, List.append_nil, ms_h_get, hd']
        show some (ab_ad G (pl.getD (0 + k) 0), ab_e _ _ (ms_c T (0 + k) _)) = _
        rw [Nat.zero_add, gd hk]
      have := j1 k _ hsm
      rw [ms_c_ren (T := T) (k := k) (mgF_at hx) (mgF_at hx) (mgF_at hx) (mgF_at hx) _ c3]
      exact this
    | none =>
      have h0 := same a q hx hq
      have h1 := i1 a q h0
      refine h1.kept (b4.2 q.1 h1.lt (fun ⟨k, c, z1, z2⟩ => ?_))
      have hk2 : k < lay'.length := by
        rw [← lyIn_len hly]
        exact (List.getElem?_eq_some_iff.mp z1).1
      obtain ⟨c', y1, y2, y3⟩ := lyIn_get hly (List.getElem?_eq_getElem hk2)
      rw [z1] at y1
      cases y1
      have := i2.1 a c _ _ h0 (bl S c _ y2) z2
      subst this
      exact pxF_none hx k z1
  · obtain ⟨q1', g1⟩ := hex _ S _ _ h1
    obtain ⟨q2', g2⟩ := hex _ S _ _ h2
    exact i2.1 i j _ _ g1 g2 (by rw [adr _ _ _ g1, adr _ _ _ g2, ← adr _ _ _ h1, ← adr _ _ _ h2, h3])
  · obtain ⟨q1', g1⟩ := hex _ S _ _ hq
    have := i2.2 _ _ g1
    rw [adr _ _ _ g1, ← adr _ _ _ hq] at this
    exact this
/-! the same for typed ends -/
section TRT
variable {G : ab_G} {d : Nat} {M : ab_MD} {as' as : List Value} {lay lay' : List ms_D} {S : ms_S} {tl : ab_H}
theorem ctI.tr {K : Int32 → ms_S → Prop} (pl : List Nat) (hly : lyIn pl lay pl lay') (hnd : ndL pl = true) (has : as'.map (rnV pl) = as) (ct : ∀ G' : ab_G, ctI G' d M false as' lay' (rsS pl S) [] (fun v T => K v (mgS pl S T))) : ctI G d M false as lay S tl K := by
  subst has
  refine Met_mono (ab_tr (tl := tl) (K' := fun r T => ∃ v, r = some (.int v) ∧ K v (mgS pl S T)) pl hly hnd (fun A' => Met_mono (ct _) (fun r h' ⟨v, T, e1, e2, q⟩ => ⟨T, e2, ⟨v, e1, q⟩, by rw [e1]; rfl⟩))) (fun r h' ⟨T, e1, v, e2, q⟩ => ⟨v, _, e2, e1, q⟩)
theorem ctL.tr {K : Int64 → ms_S → Prop} (pl : List Nat) (hly : lyIn pl lay pl lay') (hnd : ndL pl = true) (has : as'.map (rnV pl) = as) (ct : ∀ G' : ab_G, ctL G' d M false as' lay' (rsS pl S) [] (fun v T => K v (mgS pl S T))) : ctL G d M false as lay S tl K := by
  subst has
  refine Met_mono (ab_tr (tl := tl) (K' := fun r T => ∃ v, r = some (.long v) ∧ K v (mgS pl S T)) pl hly hnd (fun A' => Met_mono (ct _) (fun r h' ⟨v, T, e1, e2, q⟩ => ⟨T, e2, ⟨v, e1, q⟩, by rw [e1]; rfl⟩))) (fun r h' ⟨T, e1, v, e2, q⟩ => ⟨v, _, e2, e1, q⟩)
theorem ctU.tr {K : ms_S → Prop} (pl : List Nat) (hly : lyIn pl lay pl lay') (hnd : ndL pl = true) (has : as'.map (rnV pl) = as) (ct : ∀ G' : ab_G, ctU G' d M false as' lay' (rsS pl S) [] (fun T => K (mgS pl S T))) : ctU G d M false as lay S tl K := by
  subst has
  refine Met_mono (ab_tr (tl := tl) (K' := fun r T => r = none ∧ K (mgS pl S T)) pl hly hnd (fun A' => Met_mono (ct _) (fun r h' ⟨T, e1, e2, q⟩ => ⟨T, e2, ⟨e1, q⟩, by rw [e1]; rfl⟩))) (fun r h' ⟨T, e1, e2, q⟩ => ⟨_, e2, e1, q⟩)
end TRT

