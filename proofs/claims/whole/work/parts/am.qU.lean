/-! ===== the program: a game played on ===== -/
def aGm : Nat → Bool := fun a => Nat.beq a 39
theorem aGm_pl : plA aGm := ⟨rfl, rfl, rfl, rfl, rfl, rfl, rfl, rfl, rfl, rfl⟩
/-- what is kept of games: nothing, or the right end -/
def mGM (X : ms_S) (P : tPL) (jb : Nat → Nat) (one two : Nat) : Prop := ∀ set, set < 512 → ∀ f, f < 7 → ∃ w, w < 2 ^ 28 ∧ X.2.2.2.1 39 (set * 7 + f) = nI w ∧ ∀ e, e < 7 → w / 2 ^ (e * 4) % 16 = 0 ∨ w / 2 ^ (e * 4) % 16 = pop set 9 + gvT P jb one two set f e
/-- what a game looks at -/
def gmC (X : ms_S) (P : tPL) (o : Nat → Option tDQ) (v : Nat) (jb : Nat → Nat) (one two : Nat) : Prop := bPl X P o ∧ bRT X P v jb ∧ X.2.2.2.1 38 0 = nI one ∧ X.2.2.2.1 38 1 = nI two ∧ one < 512 ∧ two < 512
theorem gmC_F {X Y : ms_S} {P : tPL} {o : Nat → Option tDQ} {v : Nat} {jb : Nat → Nat} {one two : Nat} (f : cF aGm X Y) (h : gmC X P o v jb one two) : gmC Y P o v jb one two := ⟨bPl_F f aGm_pl h.1, bRT_F f rfl rfl rfl rfl h.2.1, (congrFun (f.2.2.1 38 rfl) 0).trans h.2.2.1, (congrFun (f.2.2.1 38 rfl) 1).trans h.2.2.2.1, h.2.2.2.2⟩
/-- the ways of a piece, as the program tries them -/
def wyC (P : tPL) (jb : Nat → Nat) (f e p r : Nat) : Bool := if r = 0 then (jb e).testBit (P.2.2.1 p) else if r = 1 then (jb e).testBit (P.2.2.2.1 p) else if r = 2 then (jb (P.2.2.2.1 p)).testBit f else (jb (P.2.2.1 p)).testBit f
def wyK (P : tPL) (T : Nat → Nat → Nat → Nat) (set f e p r : Nat) : Nat := (if r = 0 then T (set ||| 2 ^ p) f (P.2.2.2.1 p) else if r = 1 then T (set ||| 2 ^ p) f (P.2.2.1 p) else if r = 2 then T (set ||| 2 ^ p) (P.2.2.1 p) e else T (set ||| 2 ^ p) (P.2.2.2.1 p) e) + 1
def wyR (P : tPL) (jb : Nat → Nat) (T : Nat → Nat → Nat → Nat) (set f e p b : Nat) : Nat → Nat
  | 0 => b
  | r + 1 => apG (wyC P jb f e p r) (wyK P T set f e p r) (wyR P jb T set f e p b r)
theorem wyR_4 {P : tPL} {jb : Nat → Nat} {T : Nat → Nat → Nat → Nat} {set f e p : Nat} {b : Option Nat} (hb : opN b < 11) (hT : ∀ x y, T (set ||| 2 ^ p) x y + 1 < 11) : wyR P jb T set f e p (opN b) 4 = opN (eb1 jb T set f e p (P.2.2.2.1 p) (P.2.2.1 p) (eb1 jb T set f e p (P.2.2.1 p) (P.2.2.2.1 p) b)) := by
  rw [eb1_ap (hT _ _) (hT _ _), eb1_ap (hT _ _) (hT _ _)]
  show apG ((jb (P.2.2.1 p)).testBit f) (T (set ||| 2 ^ p) (P.2.2.2.1 p) e + 1) (apG ((jb (P.2.2.2.1 p)).testBit f) (T (set ||| 2 ^ p) (P.2.2.1 p) e + 1) (apG ((jb e).testBit (P.2.2.2.1 p)) (T (set ||| 2 ^ p) f (P.2.2.1 p) + 1) (apG ((jb e).testBit (P.2.2.1 p)) (T (set ||| 2 ^ p) f (P.2.2.2.1 p) + 1) (opN b)))) = _
  rw [apG_cm (c := (jb e).testBit (P.2.2.2.1 p)) (d := (jb (P.2.2.2.1 p)).testBit f) (apG_lt hb (fun _ => hT _ _)) (hT _ _) (hT _ _)]
theorem mv_tab : ∀ m, m < 40 → nI m / nI 4 = nI (m / 4) ∧ nI m - nI m / nI 2 * nI 2 = nI (m % 2) ∧ nI m - nI m / nI 4 * nI 4 = nI (m % 4) := by decide +kernel
section CORE20
variable {G : ab_G} {tl : ab_H} {P : tPL} {o : Nat → Option tDQ} {v : Nat} {jb : Nat → Nat} {one two : Nat}
/-- one move -/
theorem u_move1 {D n0 : Nat} {K : Int32 → ms_S → Prop} {X : ms_S} {laid f e B p r : Nat} {pl fr : Int32} (hC : gmC X P o v jb one two) (hM : mGM X P jb one two) (hl : laid < 512) (hf : f < 7) (he : e < 7) (hp : p < P.1) (hr : r < 4) (hpo : pop laid 9 < 9) (hB : B < 11) (fb : Bool) (hfr : (((fr.toUInt32 >>> ((nI p).toUInt32 &&& Int32.toUInt32 31)).toInt32) &&& (nI 1)) = (nI 1) ↔ fb = true) (hnb : fb = true → laid.testBit p = false)
    (rec : fb = true → ∀ x y (Y : ms_S), x < 7 → y < 7 → gmC Y P o v jb one two → mGM Y P jb one two → ∀ K', (∀ Y', cF aGm Y Y' → mGM Y' P jb one two → K' (nI (pop laid 9 + (gvT P jb one two (laid ||| 2 ^ p) x y + 1))) Y') → ctI G (D + 1) M_X2_totalFrom false [.ref 37, .int (nI (laid ||| 2 ^ p)), .int (nI x), .int (nI y), .int (nI (pop laid 9 + 1))] lC Y tl K')
    (k : ∀ Y, cF aGm X Y → mGM Y P jb one two → L_X2_totalFrom_278 D G false n0 tl K Y (nI laid) (nI f) (nI e) (nI (pop laid 9)) pl (nI (pop laid 9 + (if fb = true then apG (wyC P jb f e p r) (wyK P (gvT P jb one two) laid f e p r) B else B))) fr (nI (4 * p + r))) :
    L_X2_totalFrom_64 D G false n0 tl K X (nI laid) (nI f) (nI e) (nI (pop laid 9)) pl (nI (pop laid 9 + B)) fr (nI (4 * p + r)) := by
  obtain ⟨hP, hR, c1, c2, c3, c4⟩ := id hC
  have p1 := hP.1
  obtain ⟨o1, o2, o3, o4, _⟩ := hP.2.2.2.2.1 p hp
  obtain ⟨m1, m2, m3⟩ := mv_tab (4 * p + r) (by omega)
  rw [show (4 * p + r) / 4 = p by omega] at m1
  rw [show (4 * p + r) % 4 = r by omega] at m3
  have hv9 : vp_in (nI p) 9 := (x_vp (by omega)).mpr (by omega)
  have hc : (nI p).toNatClampNeg = p := nI_clamp (by omega)
  have hT9 : ∀ x y, laid.testBit p = false → gvT P jb one two (laid ||| 2 ^ p) x y ≤ 9 := fun x y hb => gv9 P jb one two _ x y p1 (or_up laid hl p (by omega) hb).2.2
  -- isBetter
  have K257 : ∀ (c : Bool) (kk : Nat) Y, fb = true → cF aGm X Y → mGM Y P jb one two → c = wyC P jb f e p r → kk = wyK P (gvT P jb one two) laid f e p r → L_X2_totalFrom_257 D G false n0 tl K Y (nI laid) (nI f) (nI e) (nI (pop laid 9)) pl (nI (pop laid 9 + B)) fr (nI (4 * p + r)) (nI (pop laid 9 + (if c = true then kk else B))) := by
    intro c kk Y hfb y1 y2 hcc hkk
    have k := k Y y1 y2
    rw [if_pos hfb, ← hcc, ← hkk] at k
    have hk9 : kk < 20 := by
      rw [hkk]
      unfold wyK
      have := hnb hfb
      split
      · have := hT9 f (P.2.2.2.1 p) (hnb hfb); omega
      · split
        · have := hT9 f (P.2.2.1 p) (hnb hfb); omega
        · split
          · have := hT9 (P.2.2.1 p) e (hnb hfb); omega
          · have := hT9 (P.2.2.2.1 p) e (hnb hfb); omega
    refine b_X2_totalFrom_257 (u_better G Y tl (pop laid 9) (if c = true then kk else B) B (by omega) (by split <;> omega) (by omega) _ ?_)
    rw [x_b0]
    unfold apG at k
    cases c with
    | false =>
      rw [if_neg (show ¬ false = true by decide)] at k ⊢
      refine ⟨fun _ => b_X2_totalFrom_276 k, fun z => absurd (bt_self B) z⟩
    | true =>
      rw [if_pos (show true = true from rfl), gB_bt] at k
      rw [if_pos (show true = true from rfl)]
      refine ⟨fun z => b_X2_totalFrom_276 ?_, fun z => b_X2_totalFrom_276 ?_⟩
      · rw [z, if_neg (by decide)] at k
        exact k
      · rw [if_pos (bl_t z)] at k
        exact k
  -- the piece one way or the other
  have K157 : ∀ (a b : Nat), a < 7 → b < 7 → (r = 0 → a = P.2.2.1 p ∧ b = P.2.2.2.1 p) → (r = 1 → a = P.2.2.2.1 p ∧ b = P.2.2.1 p) → (r = 2 → a = P.2.2.1 p ∧ b = P.2.2.2.1 p) → (r = 3 → a = P.2.2.2.1 p ∧ b = P.2.2.1 p) → L_X2_totalFrom_157 D G false n0 tl K X (nI laid) (nI f) (nI e) (nI (pop laid 9)) pl (nI (pop laid 9 + B)) fr (nI (4 * p + r)) (nI p) (nI a) (nI b) := by
    intro a b ha hb q0 q1 q2 q3
    have k0 := k X cF.rf hM
    refine b_X2_totalFrom_157 ?_
    rw [hfr, m3, nI_leI (by decide) (by omega)]
    refine ⟨fun z => ⟨by decide, fun w => b_X2_totalFrom_217 ⟨by decide, ?_⟩, fun w => u_meets hR e a he ha _ ?_⟩, fun z => ?_⟩
    · rw [m3, nI_ltI (by omega) (by decide)]
      refine ⟨fun y => absurd y (by omega), fun _ => u_meets hR b f hb hf _ ?_⟩
      have hcc : (jb b).testBit f = wyC P jb f e p r := by
        unfold wyC
        rw [if_neg (by omega), if_neg (by omega)]
        by_cases y : r = 2
        · rw [if_pos y, (q2 y).2]
        · rw [if_neg y, (q3 (by omega)).2]
      have hkk : gvT P jb one two (laid ||| 2 ^ p) a e + 1 = wyK P (gvT P jb one two) laid f e p r := by
        unfold wyK
        rw [if_neg (show ¬ r = 0 by omega), if_neg (show ¬ r = 1 by omega)]
        by_cases y : r = 2
        · rw [if_pos y, (q2 y).1]
        · rw [if_neg y, (q3 (by omega)).1]
      rw [x_b0, nu_set (show p < 31 by omega), nI_add]
      refine ⟨fun y => ?_, fun y => rec z a e X ha he hC hM _ (fun Y' f' m' => ?_)⟩
      · have := K257 _ _ X z cF.rf hM hcc hkk
        rw [y, if_neg (by decide)] at this
        exact this
      · have := K257 _ _ Y' z f' m' hcc hkk
        rw [if_pos (bl_t y)] at this
        exact this
    · have hcc : (jb e).testBit a = wyC P jb f e p r := by
        unfold wyC
        by_cases y : r = 0
        · rw [if_pos y, (q0 y).1]
        · rw [if_neg y, if_pos (show r = 1 by omega), (q1 (by omega)).1]
      have hkk : gvT P jb one two (laid ||| 2 ^ p) f b + 1 = wyK P (gvT P jb one two) laid f e p r := by
        unfold wyK
        by_cases y : r = 0
        · rw [if_pos y, (q0 y).2]
        · rw [if_neg y, if_pos (show r = 1 by omega), (q1 (by omega)).2]
      rw [x_b0, nu_set (show p < 31 by omega), nI_add]
      refine ⟨fun y => b_X2_totalFrom_217 ⟨by decide, ?_⟩, fun y => rec z f b X hf hb hC hM _ (fun Y' f' m' => ?_)⟩
      · rw [m3, nI_ltI (by omega) (by decide)]
        refine ⟨fun _ => ?_, fun q => absurd q (by omega)⟩
        have := K257 _ _ X z cF.rf hM hcc hkk
        rw [y, if_neg (by decide)] at this
        exact this
      · have := K257 _ _ Y' z f' m' hcc hkk
        rw [if_pos (bl_t y)] at this
        exact this
    · rw [if_neg z] at k0
      exact k0
  have hmul : nI P.1 * nI 4 = nI (P.1 * 4) := pk_mul _ _
  refine b_X2_totalFrom_64 ?_
  rw [hP.2.2.1, hmul, nI_leI (by omega) (by omega), m1, m2, nI_eq (by omega) (by decide)]
  refine ⟨fun z => absurd z (by omega), fun _ => ⟨by decide, by decide, fun z => ?_, fun z => ?_⟩⟩
  · refine b_X2_totalFrom_97 ⟨fun w => absurd w (by decide), fun _ => ⟨hv9, b_X2_totalFrom_127 ⟨fun w => absurd w (by decide), fun _ => ⟨hv9, ?_⟩⟩⟩⟩
    rw [hc, o1, o3]
    exact K157 _ _ o4 o2 (fun q => absurd q (by omega)) (fun _ => ⟨rfl, rfl⟩) (fun q => absurd q (by omega)) (fun _ => ⟨rfl, rfl⟩)
  · refine b_X2_totalFrom_97 ⟨fun _ => ⟨hv9, b_X2_totalFrom_127 ⟨fun _ => ⟨hv9, ?_⟩, fun w => absurd rfl w⟩⟩, fun w => absurd rfl w⟩
    rw [hc, o1, o3]
    exact K157 _ _ o2 o4 (fun _ => ⟨rfl, rfl⟩) (fun q => absurd q (by omega)) (fun _ => ⟨rfl, rfl⟩) (fun q => absurd q (by omega))
end CORE20

