/-! what a piece of code leaves as it was, row by row of the state -/
/-- the rows of x that hold something from one call to the next are not these -/
def sxr (j : Nat) : Bool := decide (j = 48 ∨ j = 49 ∨ j = 52 ∨ (55 ≤ j ∧ j ≤ 62) ∨ j = 65 ∨ (78 ≤ j ∧ j < 113))
def rxr (j : Nat) : Bool := decide (j = 51 ∨ (78 ≤ j ∧ j < 113))
def smr (j : Nat) : Bool := decide (j < 78 ∨ j = 103 ∨ 105 ≤ j)
def FrX (M M2 : Mem) : Prop := (∀ j, j < (sh M).length → sxr j = false → mi M2 j = mi M j) ∧ (∀ j, j < (sh M).length → rxr j = false → mr M2 j = mr M j) ∧ (∀ (j : Nat) (kn : Nat × Nat), (sh M)[j]? = some kn → (sh M2)[j]? = some kn) ∧ (sh M).length ≤ (sh M2).length
theorem FrX.l {M M2 : Mem} (f : FrX M M2) : ∀ j, j < (sh M).length → sxr j = false → mi M2 j = mi M j := f.1
theorem FrX.r {M M2 : Mem} (f : FrX M M2) : ∀ j, j < (sh M).length → rxr j = false → mr M2 j = mr M j := f.2.1
theorem FrX.s {M M2 : Mem} (f : FrX M M2) : ∀ (j : Nat) (kn : Nat × Nat), (sh M)[j]? = some kn → (sh M2)[j]? = some kn := f.2.2.1
theorem FrG.X {L R : List Nat} {M M2 : Mem} (f : FrG L R M M2) (hL : L.all sxr = true) (hR : R.all rxr = true) : FrX M M2 := ⟨fun j hj q => f.row hj (fun hm => by have := List.all_eq_true.mp hL j hm; rw [q] at this; cases this), fun j hj q => f.rrow hj (fun hm => by have := List.all_eq_true.mp hR j hm; rw [q] at this; cases this), fun _ _ h => f.shp h, f.len⟩
theorem FrX.c {M M2 : Mem} (f : FrX M M2) (hF : Fx M) {j : Nat} (h : j < 75) (q : sxr j = false) : mi M2 j = mi M j := f.l j (by have := hF.len; omega) q
theorem FrX.d {M M2 : Mem} (f : FrX M M2) (hF : Fx M) {j : Nat} (h : j < 75) (q : rxr j = false) : mr M2 j = mr M j := f.r j (by have := hF.len; omega) q
theorem sxr_n {j : Nat} (h : j < 48 ∨ 66 ≤ j ∧ j < 78 ∨ 113 ≤ j) : sxr j = false := by simp only [sxr, decide_eq_false_iff_not]; omega
theorem rxr_n {j : Nat} (h : j < 51 ∨ 52 ≤ j ∧ j < 78 ∨ 113 ≤ j) : rxr j = false := by simp only [rxr, decide_eq_false_iff_not]; omega
theorem CodeAt.fr {M M2 : Mem} (f : FrX M M2) {a : Nat} {l : List Int32} (h : CodeAt M a l) : CodeAt M2 a l := by
  obtain ⟨h1, h2, h3⟩ := h
  refine ⟨h1, f.s _ _ h2, fun k c hk => ?_⟩
  rw [f.l a (List.getElem?_eq_some_iff.mp h2).1 (sxr_n (by omega))]
  exact h3 k c hk
theorem XLand.fr {σ : St} {M M2 : Mem} (f : FrX M M2) (hF : Fx M) (hT : oT σ ≤ 6) (h : XLand σ M) : XLand σ M2 := by
  have c : ∀ j, j < 48 → mi M2 j = mi M j := fun j hj => f.c hF (by omega) (sxr_n (by omega))
  obtain ⟨h1, h2, h3, h4, h5, h6, h7, h8⟩ := h
  refine ⟨by rw [c 1 (by decide)]; exact h1, by rw [c 1 (by decide)]; exact h2, by rw [c 1 (by decide)]; exact h3, by rw [c 1 (by decide)]; exact h4, fun t ht => ?_, fun a b ha hb => ?_, fun a b ha hb => ?_, fun i w d hi => ?_⟩
  · rw [c 2 (by decide), c 3 (by decide), c 4 (by decide), c 5 (by decide)]; exact h5 t ht
  · rw [c (7 + a) (by omega)]; exact h6 a b ha hb
  · rw [c (14 + a) (by omega)]; exact h7 a b ha hb
  · rw [c 20 (by decide), c 21 (by decide)]; exact h8 i w d hi
theorem XKept.fr {σ : St} {M M2 : Mem} (f : FrX M M2) (hF : Fx M) (h : XKept σ M) : XKept σ M2 := by
  have c : ∀ j, j < 48 → mi M2 j = mi M j := fun j hj => f.c hF (by omega) (sxr_n (by omega))
  unfold XKept at h ⊢
  cases hI : oIm σ with
  | none =>
    rw [hI] at h
    obtain ⟨h1, h2, h3⟩ := h
    exact ⟨by rw [c 0 (by decide)]; exact h1, by rw [c 22 (by decide)]; exact h2, fun a b ha hb => by rw [c (28 + a) (by omega)]; exact h3 a b ha hb⟩
  | some g =>
    rw [hI] at h
    obtain ⟨h1, h2, h3, h4, h5, h6, h7, h8⟩ := h
    refine ⟨by rw [c 0 (by decide)]; exact h1, by rw [c 22 (by decide)]; exact h2, by rw [c 22 (by decide)]; exact h3, by rw [c 22 (by decide)]; exact h4, by rw [c 22 (by decide)]; exact h5, fun t ht => ?_, fun a b ha hb => ?_, fun i w d hi => ?_⟩
    · rw [c 24 (by decide), c 25 (by decide), c 26 (by decide)]; exact h6 t ht
    · rw [c (28 + a) (by omega)]; exact h7 a b ha hb
    · rw [c 41 (by decide), c 42 (by decide)]; exact h8 i w d hi
theorem XTape.fr {σ : St} {M M2 : Mem} (f : FrX M M2) (hF : Fx M) (h : XTape σ M) : XTape σ M2 := by
  unfold XTape
  rw [f.c hF (j := 43) (by decide) rfl, f.c hF (j := 44) (by decide) rfl]
  exact h
theorem XText.fr {σ : St} {M M2 : Mem} (f : FrX M M2) (hF : Fx M) (h : XText σ M) : XText σ M2 := by
  obtain ⟨h1, h2⟩ := h
  refine ⟨by rw [f.c hF (j := 46) (by decide) rfl]; exact h1, fun i n w hi => ?_⟩
  obtain ⟨r, a, b, e1, e2, e3, e4, e5, e6, e7⟩ := h2 i n w hi
  have hl := (List.getElem?_eq_some_iff.mp e3).1
  exact ⟨r, a, b, by rw [f.d hF (j := 47) (by decide) rfl]; exact e1, e2, f.s _ _ e3, by rw [f.r r hl (rxr_n (by omega))]; exact e4, by rw [f.r r hl (rxr_n (by omega))]; exact e5, e6.fr f, e7.fr f⟩
theorem XGiv.fr {σ : St} {M M2 : Mem} (f : FrX M M2) (hF : Fx M) (h : XGiv σ M) : XGiv σ M2 := by
  obtain ⟨h1, h2⟩ := h
  refine ⟨by rw [f.c hF (j := 0) (by decide) rfl]; exact h1, fun g k ns hi => ?_⟩
  obtain ⟨p, u, e1, e2, e3, e4, e5, e6, e7, e8⟩ := h2 g k ns hi
  have hl := (List.getElem?_eq_some_iff.mp e3).1
  have hl2 := (List.getElem?_eq_some_iff.mp e7).1
  exact ⟨p, u, by rw [f.d hF (j := 50) (by decide) rfl]; exact e1, e2, f.s _ _ e3, by rw [f.l p hl (sxr_n (by omega))]; exact e4, by rw [f.r p hl (rxr_n (by omega))]; exact e5, e6, f.s _ _ e7, fun t v hv => by rw [f.l u hl2 (sxr_n (by omega))]; exact e8 t v hv⟩
theorem XFound.fr {σ : St} {M M2 : Mem} (f : FrX M M2) (hF : Fx M) (h : XFound σ M) : XFound σ M2 := by
  unfold XFound
  rw [f.c hF (j := 53) (by decide) rfl, f.c hF (j := 54) (by decide) rfl]
  exact h
theorem XRound.fr {σ : St} {M M2 : Mem} (f : FrX M M2) (hF : Fx M) (h : XRound σ M) : XRound σ M2 := by
  unfold XRound
  rw [f.c hF (j := 63) (by decide) rfl, f.c hF (j := 64) (by decide) rfl]
  exact h
theorem XSheet.fr {σ : St} {M M2 : Mem} (f : FrX M M2) (hF : Fx M) (h : XSheet σ M) : XSheet σ M2 := fun s hs => by
  rw [f.c hF (j := 67 + 2 * s) (by omega) (sxr_n (by omega)), f.c hF (j := 68 + 2 * s) (by omega) (sxr_n (by omega))]
  exact h s hs
theorem XA.fr {σ : St} {M M2 : Mem} (h : XA σ M) (hT : oT σ ≤ 6) (f : FrX M M2) (hF2 : Fx M2) : XA σ M2 := by
  obtain ⟨hF, h1, h2, h3, h4, h5, h6, h7, h8⟩ := h
  exact ⟨hF2, h1.fr f hF hT, h2.fr f hF, h3.fr f hF, h4.fr f hF, h5.fr f hF, h6.fr f hF, h7.fr f hF, h8.fr f hF⟩
def FrM (M M2 : Mem) : Prop := (∀ j, j < 113 → smr j = false → mi M2 j = mi M j) ∧ ml M2 104 = ml M 104
theorem FrG.M {L R : List Nat} {M M2 : Mem} (f : FrG L R M M2) (hF : Fm M) (hL : L.all smr = true) : FrM M M2 := by
  have hl := hF.len
  exact ⟨fun j hj q => f.row (by omega) (fun hm => by have := List.all_eq_true.mp hL j hm; rw [q] at this; cases this), f.lrow (by omega)⟩
theorem MA.fr {σ : St} {M M2 : Mem} (h : MA σ M) (f : FrM M M2) (hF2 : Fm M2) : MA σ M2 := by
  obtain ⟨hF, h0, h1, h2, h3, h4, h5, h6, h7, h8⟩ := h
  obtain ⟨c, c4⟩ := f
  refine ⟨hF2, by rw [c4]; exact h0, ?_, ?_, ?_, ?_, ?_, ?_, ?_, ?_⟩
  · unfold MLand
    rw [c 78 (by decide) rfl, c 79 (by decide) rfl, c 80 (by decide) rfl, c 81 (by decide) rfl, c 82 (by decide) rfl, c 83 (by decide) rfl, c 84 (by decide) rfl, c 85 (by decide) rfl]
    exact h1
  · unfold MKept
    rw [c 78 (by decide) rfl, c 94 (by decide) rfl, c 95 (by decide) rfl, c 96 (by decide) rfl, c 97 (by decide) rfl, c 98 (by decide) rfl, c 99 (by decide) rfl]
    exact h2
  · unfold MTape
    rw [c 78 (by decide) rfl, c 86 (by decide) rfl]
    exact h3
  · unfold MText
    rw [c 78 (by decide) rfl, c 87 (by decide) rfl, c 88 (by decide) rfl]
    exact h4
  · unfold MGiv
    rw [c 78 (by decide) rfl, c 89 (by decide) rfl, c 90 (by decide) rfl, c 91 (by decide) rfl]
    exact h5
  · unfold MFound
    rw [c 78 (by decide) rfl, c 92 (by decide) rfl]
    exact h6
  · unfold MRound
    rw [c 78 (by decide) rfl, c 93 (by decide) rfl]
    exact h7
  · unfold MSheet
    rw [c 100 (by decide) rfl, c 101 (by decide) rfl, c 102 (by decide) rfl]
    exact h8
/-- x's writes leave what m has, m's what x has -/
def lowR (n : Nat) (L : List Nat) : Bool := L.all (fun j => decide (j < n ∨ 113 ≤ j))
theorem FrG.MX {L R : List Nat} {M M2 : Mem} (f : FrG L R M M2) (hF : Fm M) (hL : L.all (fun j => decide (j < 78)) = true) : FrM M M2 := f.M hF (List.all_eq_true.mpr fun j hj => by
  have := List.all_eq_true.mp hL j hj
  simp only [decide_eq_true_eq, smr] at this ⊢
  omega)
theorem FrG.XM {L R : List Nat} {M M2 : Mem} (f : FrG L R M M2) (hL : L.all (fun j => decide (78 ≤ j ∧ j < 113)) = true) (hR : R.all (fun j => decide (78 ≤ j ∧ j < 113)) = true) : FrX M M2 := f.X (List.all_eq_true.mpr fun j hj => by
  have := List.all_eq_true.mp hL j hj
  simp only [decide_eq_true_eq, sxr] at this ⊢
  omega) (List.all_eq_true.mpr fun j hj => by
  have := List.all_eq_true.mp hR j hj
  simp only [decide_eq_true_eq, rxr] at this ⊢
  omega)
