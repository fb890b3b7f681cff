/-! the law's loop: what its cases share -/
def m_ML_law : Mth := (x, code, maxLocals, ret)
/-- what every call keeps: it makes no more cells than it may; the script stays -/
def GR (mc : Nat) (M M2 : Mem) : Prop := (sh M).length ≤ (sh M2).length ∧ (sh M2).length ≤ (sh M).length + mc ∧ (sc M2).1 = (sc M).1 ∧ ∀ j, j < (sc M).1 → (sc M2).2 j = (sc M).2 j
theorem Con.gr {d : Nat} {y : Mth} {mc ms : Nat} {as : List Value} {M : Mem} {Φ : Option Value → Mem → Prop} (h : Con d y mc ms as M Φ) : Con d y mc ms as M (fun o M2 => GR mc M M2 ∧ Φ o M2) := by
  intro E p e ha hc hk s m args below hf happ hP hK
  obtain ⟨n, o, h1, h2, h3, ⟨r, M', ho, hΦ, hW, hs⟩, L, hF, hL⟩ := h E p e ha hc hk s m args below hf happ hP hK
  have e1 := hW.1
  have e2 := hP.2.2.1
  have e3 : (stepsAlone p.tables e n s).heap.size ≤ s.heap.size + mc := hF.2.2.2.2.1
  obtain ⟨-, -, -, -, scr, b1, b2, b3⟩ := hP.2.2
  obtain ⟨-, -, -, -, scr', c1, c2, c3⟩ := id hW
  obtain rfl : scr = scr' := Option.some.inj (b1.symm.trans c1)
  refine ⟨n, o, h1, h2, h3, ⟨r, M', ho, ⟨⟨by omega, by omega, c2.symm.trans b2, fun j hj => ?_⟩, hΦ⟩, hW, hs⟩, L, hF, hL⟩
  have x1 := b3 j hj
  have x2 := c3 j (by rw [← c2, b2]; exact hj)
  rw [x1] at x2
  injection x2 with x2
  injection x2 with x2
  exact x2.symm
theorem Con.grI {d : Nat} {y : Mth} {mc ms : Nat} {as : List Value} {M : Mem} {K : Int32 → Mem → Prop} (h : Con d y mc ms as M (PI fun v M2 => GR mc M M2 → K v M2)) : Con d y mc ms as M (PI K) := (Con.gr h).imp (fun _ _ ⟨g, v, e, k⟩ => ⟨v, e, k g⟩)
theorem Con.grL {d : Nat} {y : Mth} {mc ms : Nat} {as : List Value} {M : Mem} {K : Int64 → Mem → Prop} (h : Con d y mc ms as M (PL fun v M2 => GR mc M M2 → K v M2)) : Con d y mc ms as M (PL K) := (Con.gr h).imp (fun _ _ ⟨g, v, e, k⟩ => ⟨v, e, k g⟩)
theorem Con.grV {d : Nat} {y : Mth} {mc ms : Nat} {as : List Value} {M : Mem} {K : Mem → Prop} (h : Con d y mc ms as M (PV fun M2 => GR mc M M2 → K M2)) : Con d y mc ms as M (PV K) := (Con.gr h).imp (fun _ _ ⟨g, e, k⟩ => ⟨e, k g⟩)
def SCR (L : Nat) (xs : Nat → Int32) (M : Mem) : Prop := (sc M).1 = L ∧ ∀ j, j < L → (sc M).2 j = xs j
theorem SCR.gr {L mc : Nat} {xs : Nat → Int32} {M M2 : Mem} (h : SCR L xs M) (g : GR mc M M2) : SCR L xs M2 := ⟨g.2.2.1.trans h.1, fun j hj => (g.2.2.2 j (by rw [h.1]; exact hj)).trans (h.2 j hj)⟩
/-- the law's loop, at each head: both objects hold one state -/
def LI (L : Nat) (xs : Nat → Int32) (c : Nat) (σ : St) (M : Mem) : Prop := WF σ ∧ XA σ M ∧ MA σ M ∧ (113 ≤ (sh M).length ∧ (sh M).length ≤ c) ∧ SCR L xs M
theorem LI.nx {L c mc : Nat} {xs : Nat → Int32} {σ τ : St} {M M1 M2 : Mem} (I : LI L xs c σ M) (hw : WF τ) (h1 : SX τ M M1) (g1 : GR mc M M1) (h2 : SM τ M1 M2) (g2 : GR 0 M1 M2) (hm : mc ≤ 3) : LI L xs (c + 3) τ M2 := by
  obtain ⟨-, -, -, ⟨i1, i2⟩, i3⟩ := I
  have a1 := g1.1
  have a2 := g1.2.1
  have b1 := g2.1
  have b2 := g2.2.1
  exact ⟨hw, h2.2 τ hw.T6 h1.1, h2.1, ⟨by omega, by omega⟩, (i3.gr g1).gr g2⟩
abbrev lc4 (i : Nat) : List (Option Value) := [some (.ref 1048776), some (.ref 0), some (.ref 78), some (.int (nI i))]
/-- script[i + k], for 1 ≤ k ≤ 5 -/
theorem la_arg {d c n pc k i L : Nat} {xs : Nat → Int32} {st : List Value} {M : Mem} {Φ : Option Value → Mem → Prop} (hd : decode code pc = .ok (.aload_n 0, 1) ∧ decode code (pc + 1) = .ok (.iload_n 3, 1) ∧ decode code (pc + 2) = .ok (.iconst k, 1) ∧ decode code (pc + 3) = .ok (.iadd, 1) ∧ decode code (pc + 4) = .ok (.iaload, 1)) (hk : Int32.ofInt (k : Int) = nI k) (hs : SCR L xs M) (hL : L ≤ 3072) (hi : i + k < L) (kk : Ex d m_ML_law c n (pc + 5) (lc4 i) (.int (xs (i + k)) :: st) M Φ) : Ex d m_ML_law c n pc (lc4 i) st M Φ := by
  obtain ⟨h0, h1, h2, h3, h4⟩ := hd
  refine ex_aload_n (k := 0) (x := 1048776) h0 rfl ?_
  refine ex_iload_n (k := 3) (x := nI i) h1 rfl ?_
  refine ex_iconst (v := nI k) h2 hk ?_
  refine ex_iadd h3 ?_
  rw [nI_add]
  refine ex_sld (k := i + k) h4 (by rw [hs.1]; exact vN hi (by omega)) (nI_clamp (by omega)) ?_
  rw [hs.2 _ hi]
  exact kk
