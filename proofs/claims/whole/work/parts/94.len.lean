/-! a call makes no more cells than it may -/
theorem Con.len {d : Nat} {y : Mth} {mc ms : Nat} {as : List Value} {M : Mem} {Φ : Option Value → Mem → Prop} (h : Con d y mc ms as M Φ) : Con d y mc ms as M (fun o M2 => (sh M2).length ≤ (sh M).length + mc ∧ Φ o M2) := by
  intro E p e ha hc hk s m args below hf happ hP hK
  obtain ⟨n, o, h1, h2, h3, ⟨r, M', ho, hΦ, hW, hs⟩, L, hF, hL⟩ := h E p e ha hc hk s m args below hf happ hP hK
  refine ⟨n, o, h1, h2, h3, ⟨r, M', ho, ⟨?_, hΦ⟩, hW, hs⟩, L, hF, hL⟩
  have e1 := hW.1
  have e2 := hP.2.2.1
  obtain ⟨_, _, hsb⟩ := hF
  have e3 : (stepsAlone p.tables e n s).heap.size ≤ s.heap.size + mc := hsb.2.2.1
  omega
theorem Con.imp {d : Nat} {y : Mth} {mc ms : Nat} {as : List Value} {M : Mem} {Φ Ψ : Option Value → Mem → Prop} (h : Con d y mc ms as M Φ) (hi : ∀ o M2, Φ o M2 → Ψ o M2) : Con d y mc ms as M Ψ := by
  intro E p e ha hc hk s m args below hf happ hP hK
  obtain ⟨n, o, h1, h2, h3, ⟨r, M', ho, hΦ, hW, hs⟩, L, hF, hL⟩ := h E p e ha hc hk s m args below hf happ hP hK
  exact ⟨n, o, h1, h2, h3, ⟨r, M', ho, hi _ _ hΦ, hW, hs⟩, L, hF, hL⟩
theorem Con.lenV {d : Nat} {y : Mth} {mc ms : Nat} {as : List Value} {M : Mem} {K : Mem → Prop} (h : Con d y mc ms as M (PV fun M2 => (sh M2).length ≤ (sh M).length + mc → K M2)) : Con d y mc ms as M (PV K) := (Con.len h).imp (fun _ _ q => ⟨q.2.1, q.2.2 q.1⟩)
