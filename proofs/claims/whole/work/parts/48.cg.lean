/-! each piece of the state by the rows that it speaks of -/
theorem XLand.cg {σ : St} {M M2 : Mem} (c : ∀ j, 1 ≤ j → j < 22 → mi M2 j = mi M j) (hT : oT σ ≤ 6) (h : XLand σ M) : XLand σ M2 := by
  obtain ⟨h1, h2, h3, h4, h5, h6, h7, h8⟩ := h
  refine ⟨by rw [c 1 (by decide) (by decide)]; exact h1, by rw [c 1 (by decide) (by decide)]; exact h2, by rw [c 1 (by decide) (by decide)]; exact h3, by rw [c 1 (by decide) (by decide)]; exact h4, fun t ht => ?_, fun a b ha hb => ?_, fun a b ha hb => ?_, fun i w d hi => ?_⟩
  · rw [c 2 (by decide) (by decide), c 3 (by decide) (by decide), c 4 (by decide) (by decide), c 5 (by decide) (by decide)]; exact h5 t ht
  · rw [c (7 + a) (by omega) (by omega)]; exact h6 a b ha hb
  · rw [c (14 + a) (by omega) (by omega)]; exact h7 a b ha hb
  · rw [c 20 (by decide) (by decide), c 21 (by decide) (by decide)]; exact h8 i w d hi
theorem XKept.cg {σ : St} {M M2 : Mem} (c0 : mi M2 0 2 = mi M 0 2) (c : ∀ j, 22 ≤ j → j < 43 → mi M2 j = mi M j) (h : XKept σ M) : XKept σ M2 := by
  unfold XKept at h ⊢
  cases hI : oIm σ with
  | none =>
    rw [hI] at h
    obtain ⟨h1, h2, h3⟩ := h
    exact ⟨by rw [c0]; exact h1, by rw [c 22 (by decide) (by decide)]; exact h2, fun a b ha hb => by rw [c (28 + a) (by omega) (by omega)]; exact h3 a b ha hb⟩
  | some g =>
    rw [hI] at h
    obtain ⟨h1, h2, h3, h4, h5, h6, h7, h8⟩ := h
    refine ⟨by rw [c0]; exact h1, by rw [c 22 (by decide) (by decide)]; exact h2, by rw [c 22 (by decide) (by decide)]; exact h3, by rw [c 22 (by decide) (by decide)]; exact h4, by rw [c 22 (by decide) (by decide)]; exact h5, fun t ht => ?_, fun a b ha hb => ?_, fun i w d hi => ?_⟩
    · rw [c 24 (by decide) (by decide), c 25 (by decide) (by decide), c 26 (by decide) (by decide)]; exact h6 t ht
    · rw [c (28 + a) (by omega) (by omega)]; exact h7 a b ha hb
    · rw [c 41 (by decide) (by decide), c 42 (by decide) (by decide)]; exact h8 i w d hi
theorem XTape.cg {σ : St} {M M2 : Mem} (c1 : mi M2 43 1 = mi M 43 1) (c2 : mi M2 44 = mi M 44) (h : XTape σ M) : XTape σ M2 := by
  unfold XTape
  rw [c1, c2]
  exact h
def HiSame (M M2 : Mem) : Prop := (∀ (j : Nat) (kn : Nat × Nat), (sh M)[j]? = some kn → (sh M2)[j]? = some kn) ∧ ∀ j, j < (sh M).length → (75 ≤ j ∧ j < 78 ∨ 113 ≤ j) → mi M2 j = mi M j ∧ mr M2 j = mr M j
theorem HiSame.wi {M : Mem} {j k : Nat} {v : Int32} (hj : j < 75 ∨ 78 ≤ j ∧ j < 113) : HiSame M (wi M j k v) := ⟨fun _ _ h => h, fun i _ hi => ⟨mi_n (by omega), rfl⟩⟩
theorem HiSame.tr {M M2 M3 : Mem} (f : HiSame M M2) (g : HiSame M2 M3) (hl : (sh M).length ≤ (sh M2).length) : HiSame M M3 := ⟨fun j kn h => g.1 j kn (f.1 j kn h), fun j hj hi => ⟨(g.2 j (by omega) hi).1.trans (f.2 j hj hi).1, (g.2 j (by omega) hi).2.trans (f.2 j hj hi).2⟩⟩
theorem CodeAt.cg {M M2 : Mem} (f : HiSame M M2) {a : Nat} {l : List Int32} (h : CodeAt M a l) : CodeAt M2 a l := by
  obtain ⟨h1, h2, h3⟩ := h
  refine ⟨h1, f.1 _ _ h2, fun k c hk => ?_⟩
  rw [(f.2 a (List.getElem?_eq_some_iff.mp h2).1 h1).1]
  exact h3 k c hk
theorem XText.cg {σ : St} {M M2 : Mem} (f : HiSame M M2) (c1 : mi M2 46 2 = mi M 46 2) (c2 : mr M2 47 = mr M 47) (h : XText σ M) : XText σ M2 := by
  obtain ⟨h1, h2⟩ := h
  refine ⟨by rw [c1]; exact h1, fun i n w hi => ?_⟩
  obtain ⟨r, a, b, e1, e2, e3, e4, e5, e6, e7⟩ := h2 i n w hi
  have hl := (List.getElem?_eq_some_iff.mp e3).1
  have hr := (f.2 r hl (by omega)).2
  exact ⟨r, a, b, by rw [c2]; exact e1, e2, f.1 _ _ e3, by rw [hr]; exact e4, by rw [hr]; exact e5, e6.cg f, e7.cg f⟩
theorem XGiv.cg {σ : St} {M M2 : Mem} (f : HiSame M M2) (c1 : mi M2 0 6 = mi M 0 6) (c2 : mr M2 50 = mr M 50) (h : XGiv σ M) : XGiv σ M2 := by
  obtain ⟨h1, h2⟩ := h
  refine ⟨by rw [c1]; exact h1, fun g k ns hi => ?_⟩
  obtain ⟨p, u, e1, e2, e3, e4, e5, e6, e7, e8⟩ := h2 g k ns hi
  have hl := (List.getElem?_eq_some_iff.mp e3).1
  have hl2 := (List.getElem?_eq_some_iff.mp e7).1
  have hp := f.2 p hl (by omega)
  exact ⟨p, u, by rw [c2]; exact e1, e2, f.1 _ _ e3, by rw [hp.1]; exact e4, by rw [hp.2]; exact e5, e6, f.1 _ _ e7, fun t v hv => by rw [(f.2 u hl2 (by omega)).1]; exact e8 t v hv⟩
theorem XFound.cg {σ : St} {M M2 : Mem} (c1 : mi M2 53 4 = mi M 53 4) (c2 : mi M2 54 = mi M 54) (h : XFound σ M) : XFound σ M2 := by
  unfold XFound
  rw [c1, c2]
  exact h
theorem XRound.cg {σ : St} {M M2 : Mem} (c1 : mi M2 63 3 = mi M 63 3) (c2 : mi M2 64 = mi M 64) (h : XRound σ M) : XRound σ M2 := by
  unfold XRound
  rw [c1, c2]
  exact h
theorem XSheet.cg {σ : St} {M M2 : Mem} (c : ∀ j, 67 ≤ j → j < 75 → mi M2 j = mi M j) (h : XSheet σ M) : XSheet σ M2 := fun s hs => by
  rw [c (67 + 2 * s) (by omega) (by omega), c (68 + 2 * s) (by omega) (by omega)]
  exact h s hs
/-- a write to a row of the land alone: the rest stays -/
theorem XA.land {σ τ : St} {M : Mem} {j k : Nat} {v : Int32} (hx : XA σ M) (hj : 1 ≤ j ∧ j < 22) (e : (oTp σ, oTx σ, oGv σ, oFo σ, oRo σ, oIm σ, oSo σ, oSs σ, oSc σ) = (oTp τ, oTx τ, oGv τ, oFo τ, oRo τ, oIm τ, oSo τ, oSs τ, oSc τ)) (hL : XLand τ (wi M j k v)) : XA τ (wi M j k v) := by
  obtain ⟨hF, h1, h2, h3, h4, h5, h6, h7, h8⟩ := hx
  injection e with a1 e; injection e with a2 e; injection e with a3 e; injection e with a4 e; injection e with a5 e; injection e with a6 e; injection e with a7 e; injection e with a8 a9
  have hs : HiSame M (wi M j k v) := HiSame.wi (by omega)
  have n : ∀ i, ¬ i = j → mi (wi M j k v) i = mi M i := fun i hi => mi_n hi
  refine ⟨hF.fwi, hL, ?_, ?_, ?_, ?_, ?_, ?_, ?_⟩
  · have := h2.cg (M2 := wi M j k v) (by rw [n 0 (by omega)]) (fun i _ _ => n i (by omega))
    unfold XKept at this ⊢
    rw [← a6]; exact this
  · have := h3.cg (M2 := wi M j k v) (by rw [n 43 (by omega)]) (n 44 (by omega))
    unfold XTape at this ⊢
    rw [← a1]; exact this
  · have := h4.cg (M2 := wi M j k v) hs (by rw [n 46 (by omega)]) rfl
    unfold XText at this ⊢
    rw [← a2]; exact this
  · have := h5.cg (M2 := wi M j k v) hs (by rw [n 0 (by omega)]) rfl
    unfold XGiv at this ⊢
    rw [← a3]; exact this
  · have := h6.cg (M2 := wi M j k v) (by rw [n 53 (by omega)]) (n 54 (by omega))
    unfold XFound at this ⊢
    rw [← a4]; exact this
  · have := h7.cg (M2 := wi M j k v) (by rw [n 63 (by omega)]) (n 64 (by omega))
    unfold XRound at this ⊢
    rw [← a5]; exact this
  · have := h8.cg (M2 := wi M j k v) (fun i _ _ => n i (by omega))
    unfold XSheet at this ⊢
    rw [← a7, ← a8, ← a9]; exact this
