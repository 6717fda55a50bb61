/-! ===== methods that make nothing: the walk as a judgement of its own ===== -/
def wp (G : ab_G) (d : Nat) (M : ab_MD) (fr : Bool) (n0 : Nat) (post : Option Value → ab_H → Prop) (pc : Nat) (L : List (Option Value)) (st : List Value) (h : ab_H) : Prop :=
  ∀ (p : Program) (e : Env) (s : State) (m : MethodId) (args : Array Value) (below : List Frame) (meth : Method) (c : Code), ab_C G M p s m args meth c → meth.sig.returnType = M.2.2.2.2.1 → meth.locks = false →
    ab_R G M fr n0 p e (ab_rm d 0 0) s m args below meth c (MQ below (ab_Q G fr n0 post) args s 0 0 (ab_A G)) 0 0 pc L st h
/-- the same step, but for a jump back -/
def ms_sf (M : ab_MD) (lay : List ms_D) (pc : Nat) (L : List (Option Value)) (st : List Value) (S : ms_S) : Option ms_R := match ab_lk M.2.2.2.2.2.2 pc with
  | some (.goto (.negSucc _), _) => none
  | some (ins, n) => ms_in M lay n pc L S ins st
  | none => none
theorem ms_sf_st {M : ab_MD} {lay : List ms_D} {pc : Nat} {L : List (Option Value)} {st : List Value} {S : ms_S} {r : ms_R} (h : ms_sf M lay pc L st S = some r) : ms_st M lay pc L st S = some r := by
  unfold ms_sf at h
  unfold ms_st
  split at h
  · cases h
  · rename_i hr9
    rw [hr9]
    exact h
  · cases h
section WP
variable {G : ab_G} {d : Nat} {M : ab_MD} {fr : Bool} {n0 : Nat} {post : Option Value → ab_H → Prop} {pc pc' : Nat} {L L' : List (Option Value)} {st st' : List Value} {h h' : ab_H} {S S' : ms_S} {lay : List ms_D} {tl : ab_H}
theorem wp_ct {n : Nat} {as : List Value} (ok : ab_OK M n) (hent : (lg_sl (as.map (ab_v (ab_ad G)))).length ≤ M.2.2.2.1) (k : wp G d M fr h.length post 0 (ab_pad M.2.2.2.1 (ab_exp as)) [] h) : ab_CT G d M fr as h 0 0 post :=
  ab_ct ok hent (fun p e s m args below meth c C hr hl => k p e s m args below meth c C hr hl)
def ms_0 : ms_S := (fun _ _ => 0, fun _ _ => 0, fun _ _ => 0, fun _ _ => 0, fun _ _ => 0)
/-- a step that looks at no cell -/
theorem wq_b {S9 : ms_S} (ho : ms_st M [] pc L st ms_0 = some (True, pc', L', st', S9)) (k : wp G d M fr n0 post pc' L' st' h) : wp G d M fr n0 post pc L st h :=
  fun p e s m args below meth c C hr hl => ab_step C (ms_ok ho h) (k p e s m args below meth c C hr hl)
theorem wq_g {S9 : ms_S} {g : Prop} (ho : ms_st M [] pc L st ms_0 = some (g, pc', L', st', S9)) (hg : g) (k : wp G d M fr n0 post pc' L' st' h) : wp G d M fr n0 post pc L st h :=
  fun p e s m args below meth c C hr hl => ab_stepG C (ms_ok ho h) hg (k p e s m args below meth c C hr hl)
theorem wq_s {S9 : ms_S} (ho : ms_sf M [] pc L st ms_0 = some (True, pc', L', st', S9)) (k : wp G d M fr n0 post pc' L' st' h) : wp G d M fr n0 post pc L st h := wq_b (ms_sf_st ho) k
theorem wp_s (ho : ab_st M pc L st h = some (True, pc', L', st', h')) (k : wp G d M fr n0 post pc' L' st' h') : wp G d M fr n0 post pc L st h :=
  fun p e s m args below meth c C hr hl => ab_step C ho (k p e s m args below meth c C hr hl)
theorem wp_g {g : Prop} (ho : ab_st M pc L st h = some (g, pc', L', st', h')) (hg : g) (k : wp G d M fr n0 post pc' L' st' h') : wp G d M fr n0 post pc L st h :=
  fun p e s m args below meth c C hr hl => ab_stepG C ho hg (k p e s m args below meth c C hr hl)
theorem ws_b (ho : ms_st M lay pc L st S = some (True, pc', L', st', S')) (k : wp G d M fr n0 post pc' L' st' (ms_h S' 0 lay ++ tl)) : wp G d M fr n0 post pc L st (ms_h S 0 lay ++ tl) :=
  fun p e s m args below meth c C hr hl => ms_step C ho (k p e s m args below meth c C hr hl)
theorem ws_s (ho : ms_sf M lay pc L st S = some (True, pc', L', st', S')) (k : wp G d M fr n0 post pc' L' st' (ms_h S' 0 lay ++ tl)) : wp G d M fr n0 post pc L st (ms_h S 0 lay ++ tl) := ws_b (ms_sf_st ho) k
theorem wp_eqL (he : L' = L) (k : wp G d M fr n0 post pc L' st h) : wp G d M fr n0 post pc L st h := he ▸ k
theorem wp_eqS {S9 : ms_S} (he : S9 = S) (k : wp G d M fr n0 post pc L st (ms_h S9 0 lay ++ tl)) : wp G d M fr n0 post pc L st (ms_h S 0 lay ++ tl) := he ▸ k
theorem ws_g {g : Prop} (ho : ms_st M lay pc L st S = some (g, pc', L', st', S')) (hg : g) (k : wp G d M fr n0 post pc' L' st' (ms_h S' 0 lay ++ tl)) : wp G d M fr n0 post pc L st (ms_h S 0 lay ++ tl) :=
  fun p e s m args below meth c C hr hl => ms_stepG C ho hg (k p e s m args below meth c C hr hl)
theorem wp_ite {cnd : Prop} {dd : Decidable cnd} {a9 b9 : Nat} (k1 : cnd → wp G d M fr n0 post a9 L st h) (k2 : ¬ cnd → wp G d M fr n0 post b9 L st h) : wp G d M fr n0 post (@ite Nat cnd dd a9 b9) L st h :=
  fun p e s m args below meth c C hr hl => ab_ite (fun q => k1 q p e s m args below meth c C hr hl) (fun q => k2 q p e s m args below meth c C hr hl)
theorem wp_weak (hL : ∀ i v, ab_lg L' i = some v → ab_lg L i = some v) (k : wp G d M fr n0 post pc L' st h) : wp G d M fr n0 post pc L st h :=
  fun p e s m args below meth c C hr hl => ab_weak hL (k p e s m args below meth c C hr hl)
theorem wp_ri {x : Int32} {ty : FieldType} (row : ab_lk M.2.2.2.2.2.2 pc = some (.ireturn, 1)) (hty : M.2.2.2.2.1 = some ty) (hn : narrow ty (.int x) = .int x) (hp : post (some (.int x)) h) : wp G d M fr n0 post pc L [.int x] h :=
  fun p e s m args below meth c C hr hl => ab_retI C hr hl row hty hn hp
theorem wp_rl {x : Int64} (row : ab_lk M.2.2.2.2.2.2 pc = some (.lreturn, 1)) (hty : M.2.2.2.2.1 = some .long) (hp : post (some (.long x)) h) : wp G d M fr n0 post pc L [.long x] h :=
  fun p e s m args below meth c C hr hl => ab_retL C hr hl row hty hp
theorem wp_rv (row : ab_lk M.2.2.2.2.2.2 pc = some (.return_, 1)) (hty : M.2.2.2.2.1 = none) (hp : post none h) : wp G d M fr n0 post pc L [] h :=
  fun p e s m args below meth c C hr hl => ab_retV C hr hl row hty hp
theorem wp_cS {M' : ab_MD} {n d' idx : Nat} {as rest : List Value} {post' : Option Value → ab_H → Prop} (row : ab_lk M.2.2.2.2.2.2 pc = some (.invokestatic idx, 3)) (hm : ab_lk M.1.2.2.2.1 idx = some M'.2.1) (ok : ab_OK M' n) (hk : Cond.static M'.2.1 ∈ ab_T)
    (ct : ab_CT G d' M' fr as h 0 0 post') (hst : st = as.reverse ++ rest) (hn : as.length = n) (hsum : (rest.map fun v => v.category).sum ≤ 8) (hd : d' + 1 ≤ d)
    (k : ∀ (r : Option Value) (h' : ab_H), post' r h' → wp G d M fr n0 post (pc + 3) L (r.toList ++ rest) h') : wp G d M fr n0 post pc L st h :=
  fun p e s m args below meth c C hr hl => ab_callS C row hm ok hk ct hst hn hsum ⟨hd, by show 64 * d' + 64 ≤ 64 * d; omega, Nat.le_refl _, Nat.le_refl _⟩ (fun r h' q => k r h' q p e s m args below meth c C hr hl)
theorem wp_cV {M' : ab_MD} {n d' idx ci a9 : Nat} {fs : List Value} {as rest : List Value} {post' : Option Value → ab_H → Prop} (row : ab_lk M.2.2.2.2.2.2 pc = some (.invokevirtual idx, 3)) (hm : ab_lk M.1.2.2.2.1 idx = some M'.2.1) (ok : ab_OK M' n) (hk : ab_kV M' ci)
    (ct : ab_CT G d' M' fr (.ref a9 :: as) h 0 0 post') (he : h[a9]? = some (.inr (ci, fs))) (hst : st = as.reverse ++ .ref a9 :: rest) (hn : as.length = n) (hsum : (rest.map fun v => v.category).sum ≤ 8) (hd : d' + 1 ≤ d)
    (k : ∀ (r : Option Value) (h' : ab_H), post' r h' → wp G d M fr n0 post (pc + 3) L (r.toList ++ rest) h') : wp G d M fr n0 post pc L st h :=
  fun p e s m args below meth c C hr hl => ab_callV C row hm ok hk ct he hst hn hsum ⟨hd, by show 64 * d' + 64 ≤ 64 * d; omega, Nat.le_refl _, Nat.le_refl _⟩ (fun r h' q => k r h' q p e s m args below meth c C hr hl)
theorem wp_tsw {n9 : Nat} {d9 lo hi : Int} {offs : Array Int} {x : Int32} {t : Nat} {off : Int} (row : ab_lk M.2.2.2.2.2.2 pc = some (.tableswitch d9 lo hi offs, n9)) (h1 : ¬ x.toInt < lo) (h2 : ¬ hi < x.toInt) (ho : offs[(x.toInt - lo).toNat]? = some off) (ht : (pc : Int) + off = (t : Int))
    (k : wp G d M fr n0 post t L st h) : wp G d M fr n0 post pc L (.int x :: st) h :=
  fun p e s m args below meth c C hr hl => ab_tsw C row h1 h2 ho ht (k p e s m args below meth c C hr hl)
theorem wp_tsd {n9 : Nat} {d9 lo hi : Int} {offs : Array Int} {x : Int32} {t : Nat} (row : ab_lk M.2.2.2.2.2.2 pc = some (.tableswitch d9 lo hi offs, n9)) (h1 : x.toInt < lo ∨ hi < x.toInt) (ht : (pc : Int) + d9 = (t : Int))
    (k : wp G d M fr n0 post t L st h) : wp G d M fr n0 post pc L (.int x :: st) h :=
  fun p e s m args below meth c C hr hl => ab_tsd C row h1 ht (k p e s m args below meth c C hr hl)
theorem wp_lsw {n9 : Nat} {d9 : Int} {ps : Array (Int × Int)} {x : Int32} {t : Nat} {off : Int} (row : ab_lk M.2.2.2.2.2.2 pc = some (.lookupswitch d9 ps, n9)) (hp : (ps.toList.zip (ps.toList.drop 1)).all (fun (a, next) => a.1 < next.1) = true) (ho : Op.lookupswitch.offset ps.toList d9 x.toInt = off) (ht : (pc : Int) + off = (t : Int))
    (k : wp G d M fr n0 post t L st h) : wp G d M fr n0 post pc L (.int x :: st) h :=
  fun p e s m args below meth c C hr hl => ab_lsw C row hp ho ht (k p e s m args below meth c C hr hl)
end WP
section WPL
variable {G : ab_G} {d : Nat} {M : ab_MD} {fr : Bool} {n0 : Nat} {post : Option Value → ab_H → Prop} {pc : Nat}
/-- a loop that counts up to n -/
theorem wp_down (n : Nat) (L : Nat → List (Option Value)) (hh : Nat → ab_H) (hn : wp G d M fr n0 post pc (L n) [] (hh n)) (hs : ∀ i, i < n → wp G d M fr n0 post pc (L (i + 1)) [] (hh (i + 1)) → wp G d M fr n0 post pc (L i) [] (hh i)) : wp G d M fr n0 post pc (L 0) [] (hh 0) := by
  have key : ∀ k i, i + k = n → wp G d M fr n0 post pc (L i) [] (hh i) := by
    intro k
    induction k with
    | zero => intro i hi; rw [show i = n by omega]; exact hn
    | succ k ih => intro i hi; exact hs i (by omega) (ih (i + 1) (by omega))
  exact key n 0 (by omega)
/-- the same with what holds at each turn -/
theorem wp_downI (n : Nat) (I : Nat → Prop) (L : Nat → List (Option Value)) (hh : Nat → ab_H) (h0 : I 0) (hn : I n → wp G d M fr n0 post pc (L n) [] (hh n)) (hs : ∀ i, i < n → I i → (I (i + 1) → wp G d M fr n0 post pc (L (i + 1)) [] (hh (i + 1))) → wp G d M fr n0 post pc (L i) [] (hh i)) : wp G d M fr n0 post pc (L 0) [] (hh 0) := by
  have key : ∀ k i, i + k = n → I i → wp G d M fr n0 post pc (L i) [] (hh i) := by
    intro k
    induction k with
    | zero => intro i hi hI; have hi : i = n := by omega
              subst hi; exact hn hI
    | succ k ih => intro i hi hI; exact hs i (by omega) hI (ih (i + 1) (by omega))
  exact key n 0 (by omega) h0
end WPL
/-- a contract that says the answer and the cells behind it -/
theorem ct_of {G : ab_G} {d : Nat} {M : ab_MD} {fr : Bool} {h h9 : ab_H} {n : Nat} {as : List Value} {r9 : Option Value} (ok : ab_OK M n) (hent : (lg_sl (as.map (ab_v (ab_ad G)))).length ≤ M.2.2.2.1) (k : ∀ (n0 : Nat) (post : Option Value → ab_H → Prop), post r9 h9 → wp G d M fr n0 post 0 (ab_pad M.2.2.2.1 (ab_exp as)) [] h) : ab_CT G d M fr as h 0 0 (fun r h' => r = r9 ∧ h' = h9) :=
  wp_ct ok hent (k _ _ ⟨rfl, rfl⟩)
section WPE
variable {G : ab_G} {d : Nat} {M : ab_MD} {fr : Bool} {n0 : Nat} {post : Option Value → ab_H → Prop} {pc : Nat} {L : List (Option Value)} {st : List Value} {h : ab_H}
/-- a static call whose contract says answer and cells -/
theorem wp_S {M' : ab_MD} {n d' idx : Nat} {as rest : List Value} {r9 : Option Value} {h9 : ab_H} (ct : ab_CT G d' M' fr as h 0 0 (fun r h' => r = r9 ∧ h' = h9)) (row : ab_lk M.2.2.2.2.2.2 pc = some (.invokestatic idx, 3)) (hm : ab_lk M.1.2.2.2.1 idx = some M'.2.1) (ok : ab_OK M' n) (hk : Cond.static M'.2.1 ∈ ab_T)
    (hst : st = as.reverse ++ rest) (hn : as.length = n) (hsum : (rest.map fun v => v.category).sum ≤ 8) (hd : d' + 1 ≤ d)
    (k : wp G d M fr n0 post (pc + 3) L (r9.toList ++ rest) h9) : wp G d M fr n0 post pc L st h :=
  wp_cS row hm ok hk ct hst hn hsum hd (fun r h' q => by obtain ⟨rfl, rfl⟩ := q; exact k)
theorem wp_V {M' : ab_MD} {n d' idx ci a9 : Nat} {fs : List Value} {as rest : List Value} {r9 : Option Value} {h9 : ab_H} (ct : ab_CT G d' M' fr (.ref a9 :: as) h 0 0 (fun r h' => r = r9 ∧ h' = h9)) (row : ab_lk M.2.2.2.2.2.2 pc = some (.invokevirtual idx, 3)) (hm : ab_lk M.1.2.2.2.1 idx = some M'.2.1) (ok : ab_OK M' n) (hk : ab_kV M' ci)
    (he : h[a9]? = some (.inr (ci, fs))) (hst : st = as.reverse ++ .ref a9 :: rest) (hn : as.length = n) (hsum : (rest.map fun v => v.category).sum ≤ 8) (hd : d' + 1 ≤ d)
    (k : wp G d M fr n0 post (pc + 3) L (r9.toList ++ rest) h9) : wp G d M fr n0 post pc L st h :=
  wp_cV row hm ok hk ct he hst hn hsum hd (fun r h' q => by obtain ⟨rfl, rfl⟩ := q; exact k)
end WPE
/-! setters: a field, a long field of cell 0, a place of a row of ints, of longs -/
abbrev sV (S : ms_S) (k : Nat) (x : Int32) : ms_S := (u2 S.1 0 k x, S.2)
abbrev sW (S : ms_S) (k : Nat) (x : Int64) : ms_S := (S.1, u2 S.2.1 0 k x, S.2.2)
abbrev sA (S : ms_S) (a i : Nat) (x : Int32) : ms_S := (S.1, S.2.1, S.2.2.1, u1 S.2.2.2.1 a (upd (S.2.2.2.1 a) i x), S.2.2.2.2)
abbrev sL (S : ms_S) (a i : Nat) (x : Int64) : ms_S := (S.1, S.2.1, S.2.2.1, S.2.2.2.1, u1 S.2.2.2.2 a (vp_updL (S.2.2.2.2 a) i x))
/-- a weaker end -/
theorem Met_mono {G : ab_G} {d : Nat} {M : ab_MD} {fr : Bool} {as : List Value} {h : ab_H} {mc ms : Nat} {post post' : Option Value → ab_H → Prop} (hc : ab_CT G d M fr as h mc ms post) (hp : ∀ r h', post r h' → post' r h') : ab_CT G d M fr as h mc ms post' := by
  intro p e ha hcas hclock s m args below hf happ hP hK
  obtain ⟨n9, o9, a1, a2, a3, ⟨⟨⟨r, h', b1, b2, b3⟩, b4⟩, b5⟩⟩ := hc p e ha hcas hclock s m args below hf happ hP hK
  exact ⟨n9, o9, a1, a2, a3, ⟨⟨⟨r, h', b1, hp r h' b2, b3⟩, b4⟩, b5⟩⟩
/-- a loop that counts up to n, over states that are only known by what holds of them -/
theorem wp_downX {G : ab_G} {d : Nat} {M : ab_MD} {fr : Bool} {n0 : Nat} {post : Option Value → ab_H → Prop} {pc : Nat} {X : Type} (n : Nat) (I : Nat → X → Prop) (L : Nat → X → List (Option Value)) (hh : X → ab_H) (hn : ∀ x, I n x → wp G d M fr n0 post pc (L n x) [] (hh x)) (hs : ∀ i x, i < n → I i x → (∀ y, I (i + 1) y → wp G d M fr n0 post pc (L (i + 1) y) [] (hh y)) → wp G d M fr n0 post pc (L i x) [] (hh x)) (x : X) (h0 : I 0 x) : wp G d M fr n0 post pc (L 0 x) [] (hh x) := by
  have key : ∀ k i x, i + k = n → I i x → wp G d M fr n0 post pc (L i x) [] (hh x) := by
    intro k
    induction k with
    | zero =>
      intro i x hi hI
      have hi : i = n := by omega
      subst hi
      exact hn x hI
    | succ k ih => intro i x hi hI; exact hs i x (by omega) hI (fun y hy => ih (i + 1) y (by omega) hy)
  exact key n 0 x (by omega) h0
