/-! ===== the program: bits of a long counted ===== -/
theorem bc_k1 : (6148914691236517205 : Int64) = lN (byN (fun _ => 85) 8) := by decide +kernel
theorem bc_k2 : (3689348814741910323 : Int64) = lN (byN (fun _ => 51) 8) := by decide +kernel
theorem bc_k3 : (1085102592571150095 : Int64) = lN (byN (fun _ => 15) 8) := by decide +kernel
theorem by_64 {c : Nat → Nat} (h : ∀ f, f < 8 → c f < 256) : byN c 8 < 2 ^ 64 := Nat.lt_of_lt_of_le (byN_lt h) (by decide)
theorem bc_1 {C : Nat → Nat} (hC : ∀ f, f < 8 → C f < 128) : lN (byN C 8) - (((lN (byN C 8)).toUInt64 >>> ((nI 1).toInt64.toUInt64 &&& Int64.toUInt64 63)).toInt64 &&& (6148914691236517205 : Int64)) = lN (byN (fun f => C f - (C f / 2 &&& 85)) 8) := by
  have hD := by_sub (c := C) (d := fun f => C f / 2 &&& 85) (n := 8) (fun f hf => (bc_byte (C f) (hC f hf)).1)
  have hs := by_shm (c := C) (s := 1) (m := 85) (n := 8) (by decide) (fun f hf => Nat.lt_trans (hC f hf) (by decide)) (by decide)
  have hr : byN C 8 / 2 ^ 1 &&& byN (fun _ => 85) 8 = byN (fun f => C f / 2 &&& 85) 8 := hs
  rw [nl_ushr (by decide) (by_64 (fun f hf => Nat.lt_trans (hC f hf) (by decide))), bc_k1, nl_and, hr, lN_sb hD.2, hD.1]
theorem bc_2 {D : Nat → Nat} (hD : ∀ f, f < 8 → D f < 256) : (lN (byN D 8) &&& (3689348814741910323 : Int64)) + (((lN (byN D 8)).toUInt64 >>> ((nI 2).toInt64.toUInt64 &&& Int64.toUInt64 63)).toInt64 &&& (3689348814741910323 : Int64)) = lN (byN (fun f => (D f &&& 51) + (D f / 4 &&& 51)) 8) := by
  have hs := by_shm (c := D) (s := 2) (m := 51) (n := 8) (by decide) hD (by decide)
  have hr : byN D 8 / 2 ^ 2 &&& byN (fun _ => 51) 8 = byN (fun f => D f / 4 &&& 51) 8 := hs
  rw [nl_ushr (by decide) (by_64 hD), bc_k2, nl_and, nl_and, hr, byN_and hD (fun _ _ => by decide), lN_add, byN_add]
theorem bc_3 {E : Nat → Nat} (hE : ∀ f, f < 8 → E f < 256) (hl : ∀ f, f < 8 → E f % 16 ≤ 4) (hh : ∀ f, f < 8 → E f / 16 ≤ 4) : (lN (byN E 8) + ((lN (byN E 8)).toUInt64 >>> ((nI 4).toInt64.toUInt64 &&& Int64.toUInt64 63)).toInt64) &&& (1085102592571150095 : Int64) = lN (byN (fun f => E f % 16 + E f / 16) 8) := by
  have hs := by_nib (e := E) hl hh
  have hr : (byN E 8 + byN E 8 / 2 ^ 4) &&& byN (fun _ => 15) 8 = byN (fun f => E f % 16 + E f / 16) 8 := hs
  rw [nl_ushr (by decide) (by_64 hE), bc_k3, lN_add, nl_and, hr]
theorem bc_4 {q : Nat} (s : Nat) (h : q < 2 ^ 64) (hs : s < 64) : lN q + ((lN q).toUInt64 >>> ((nI s).toInt64.toUInt64 &&& Int64.toUInt64 63)).toInt64 = lN (q + q / 2 ^ s) := by
  rw [nl_ushr hs h, lN_add]
theorem bc_5 (M : Nat) : (lN M).toInt32 &&& nI 127 = nI (M % 128) := by
  have hN : (nI M).toBitVec.toNat % 2 ^ 7 = M % 128 := by
    show M % 2 ^ 32 % 2 ^ 7 = _
    exact Nat.mod_mod_of_dvd _ ⟨33554432, by decide⟩
  rw [lN_i, pk_and _ 7 (by decide), hN]
theorem bc_q {q : Nat → Nat} (hq : ∀ f, f < 8 → q f ≤ 8) : byN q 8 < 2 ^ 60 := by
  rw [by8]
  have a0 := hq 0 (by decide); have a1 := hq 1 (by decide); have a2 := hq 2 (by decide); have a3 := hq 3 (by decide)
  have a4 := hq 4 (by decide); have a5 := hq 5 (by decide); have a6 := hq 6 (by decide); have a7 := hq 7 (by decide)
  omega
theorem bc_s {q : Nat} (h : q < 2 ^ 60) : q < 2 ^ 64 ∧ q + q / 256 < 2 ^ 64 ∧ q + q / 256 + (q + q / 256) / 65536 < 2 ^ 64 := by omega
theorem bc_j {G : ab_G} {fr : Bool} {n0 : Nat} {tl : ab_H} {K : Int32 → ms_S → Prop} {S : ms_S} {q : Nat} (h : q < 2 ^ 60) (k : K (nI ((q + q / 256 + (q + q / 256) / 65536 + (q + q / 256 + (q + q / 256) / 65536) / 4294967296) % 128)) S) : L_J13_bitCount_l_34 G fr n0 tl K S (lN q) := by
  obtain ⟨h1, h2, h3⟩ := bc_s h
  refine b_J13_bitCount_l_34 ?_
  rw [bc_4 8 h1 (by decide)]
  refine b_J13_bitCount_l_41 ?_
  rw [bc_4 16 h2 (by decide)]
  refine b_J13_bitCount_l_48 ?_
  rw [bc_4 32 h3 (by decide)]
  refine b_J13_bitCount_l_55 ?_
  rw [bc_5]
  exact k
theorem u_bitL (G : ab_G) {fr : Bool} {lay : List ms_D} (S : ms_S) (tl : ab_H) (C : Nat → Nat) (hC : ∀ f, f < 8 → C f < 128) (K : Int32 → ms_S → Prop) (k : K (nI (pop (C 0) 8 + pop (C 1) 8 + pop (C 2) 8 + pop (C 3) 8 + pop (C 4) 8 + pop (C 5) 8 + pop (C 6) 8 + pop (C 7) 8)) S) : ctI G 1 M_J13_bitCount_l fr [.long (lN (byN C 8))] lay S tl K := by
  refine ctI.pu (v9 := nI (pop (C 0) 8 + pop (C 1) 8 + pop (C 2) 8 + pop (C 3) 8 + pop (C 4) 8 + pop (C 5) 8 + pop (C 6) 8 + pop (C 7) 8)) ?_ k
  refine m_J13_bitCount_l (fun n0 => ?_)
  rw [bc_1 hC]
  refine b_J13_bitCount_l_10 ?_
  rw [bc_2 (fun f hf => Nat.lt_of_le_of_lt (Nat.sub_le _ _) (Nat.lt_trans (hC f hf) (by decide)))]
  refine b_J13_bitCount_l_24 ?_
  rw [bc_3 (fun f hf => Nat.lt_of_le_of_lt (bc_byte (C f) (hC f hf)).2.1 (by decide)) (fun f hf => (bc_byte (C f) (hC f hf)).2.2.2.1) (fun f hf => (bc_byte (C f) (hC f hf)).2.2.2.2), byN_c (d := fun f => pop (C f) 8) (fun f hf => (bc_byte (C f) (hC f hf)).2.2.1)]
  have hq : ∀ f, f < 8 → pop (C f) 8 ≤ 8 := fun f _ => pop_le _ 8
  exact bc_j (bc_q (q := fun f => pop (C f) 8) hq) (by rw [by_sum (q := fun f => pop (C f) 8) hq])

