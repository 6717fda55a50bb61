/-! ===== a contract that makes nothing serves also while the world is made ===== -/
theorem ab_lift {G : ab_G} {d : Nat} {M : ab_MD} {as : List Value} {h : ab_H} {post : Option Value → ab_H → Prop} (ct : ab_CT G d M false as h 0 0 post) (hlen : ∀ r h', post r h' → h'.length = h.length) : ab_CT G d M true as h 0 0 post := by
  intro p e ha hc hk s m args below hf happ hP hK
  obtain ⟨h1, h2, i1, i2, i3, i4⟩ := id hP
  obtain ⟨n, o, a1, a2, a3, ⟨⟨r, h', e1, e2, ⟨j1, j2, -, -⟩, -⟩, hF⟩, L, hFE, hL⟩ := ct p e ha hc hk s m args below hf happ ⟨h1, h2, i1, i2, (fun q => by cases q), (fun q => by cases q)⟩ hK
  have hsz : (stepsAlone p.tables e n s).heap.size = s.heap.size := by
    have h3 := hFE.2.2.2.1
    have h4 := hFE.2.2.2.2.1
    have h3 : s.heap.size ≤ (stepsAlone p.tables e n s).heap.size := h3
    have h4 : (stepsAlone p.tables e n s).heap.size ≤ s.heap.size + 0 := h4
    omega
  have hl := hlen r h' e2
  exact ⟨n, o, a1, a2, a3, ⟨⟨r, h', e1, e2, ⟨j1, j2, i3, fun q => ⟨(i4 q).1, by rw [hsz, (i4 q).2, hl]⟩⟩, fun _ => hl⟩, hF⟩, L, hFE, hL⟩
theorem ctI.up {G : ab_G} {d : Nat} {M : ab_MD} {as : List Value} {lay : List ms_D} {S : ms_S} {tl : ab_H} {K : Int32 → ms_S → Prop} (ct : ctI G d M false as lay S tl K) : ctI G d M true as lay S tl K :=
  ab_lift ct (fun r h' ⟨v, S', _, e2, _⟩ => by rw [e2, List.length_append, List.length_append, ms_h_len, ms_h_len])
theorem ctU.up {G : ab_G} {d : Nat} {M : ab_MD} {as : List Value} {lay : List ms_D} {S : ms_S} {tl : ab_H} {K : ms_S → Prop} (ct : ctU G d M false as lay S tl K) : ctU G d M true as lay S tl K :=
  ab_lift ct (fun r h' ⟨S', _, e2, _⟩ => by rw [e2, List.length_append, List.length_append, ms_h_len, ms_h_len])

