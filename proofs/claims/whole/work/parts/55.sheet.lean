/-! a row filled; sheets -/
section FIL
variable {d bc bs a N : Nat} {v : Int32} {M0 : Mem} {Φ : Option Value → Mem → Prop}
theorem fil5 (ha : (sh M0)[a]? = some (100, N)) (hN : N < 2 ^ 30) (H : ∀ M2, Fx M2 → FrG [a] [] M0 M2 → (∀ k, k < N → mi M2 a k = v) → Φ none M2) :
    ∀ (n i : Nat) (M : Mem), i + n = N → Fx M → FrG [a] [] M0 M → (∀ k, k < i → mi M a k = v) → Ex (d + 1) m_Arrays_fill bc bs 5 [some (.ref a), some (.int v), some (.int (nI i)), some (.int (nI N))] [] M Φ := by
  intro n
  induction n with
  | zero =>
    intro i M hi hF hfr hg
    obtain rfl : i = N := by omega
    exact k_Arrays_fill_5 hF ⟨fun _ => H M hF hfr hg, fun q => absurd (nI_le (Nat.le_refl _) (by omega)) q⟩
  | succ n ih =>
    intro i M hi hF hfr hg
    refine k_Arrays_fill_5 hF ⟨fun q => absurd q (by rw [nI_leI (by omega) (by omega)]; omega), fun _ => ⟨N, hfr.shp ha, vN (by omega) (by omega), ?_⟩⟩
    rw [nI_clamp (by omega), nI_add]
    refine ih (i + 1) _ (by omega) hF.fwi (hfr.fwi (by simp)) (fun k hk => ?_)
    rw [mi_w]
    by_cases q : k = i
    · rw [q, u1_s]
    · rw [u1_n q]; exact hg k (by omega)
end FIL
theorem sx_fill {d a N : Nat} {v : Int32} {M : Mem} {K : Mem → Prop} (hF : Fx M) (ha : (sh M)[a]? = some (100, N)) (hN : N < 2 ^ 30) (h : ∀ M2, Fx M2 → FrG [a] [] M M2 → (∀ k, k < N → mi M2 a k = v) → K M2) : Con (d + 1) m_Arrays_fill 0 0 [.ref a, .int v] M (PV K) := by
  refine Con.ent (k := 2) F_Arrays_fill.1 rfl (Nat.le_of_ble_eq_true rfl) (k_Arrays_fill_0 hF ⟨N, ha, ?_⟩)
  exact fil5 ha hN (fun M2 hF2 f2 g => ⟨rfl, h M2 hF2 f2 g⟩) N 0 M (by omega) hF (FrG.rf _ _) (fun k hk => absurd hk (Nat.not_lt_zero _))
theorem XA.sheetF {σ τ : St} {L : List Nat} {M M2 : Mem} (hx : XA σ M) (f : FrG L [] M M2) (hL : L.all (fun j => decide (67 ≤ j ∧ j < 75)) = true) (hT : oT σ ≤ 6)
    (e : (oT σ, oW σ, oSz σ, oMy σ, oWi σ, oBe σ, oRd σ, oFe σ, oRu σ) = (oT τ, oW τ, oSz τ, oMy τ, oWi τ, oBe τ, oRd τ, oFe τ, oRu τ)) (e2 : (oTp σ, oTx σ, oGv σ, oFo σ, oRo σ, oIm σ) = (oTp τ, oTx τ, oGv τ, oFo τ, oRo τ, oIm τ)) (hl : XSheet τ M2) : XA τ M2 := by
  obtain ⟨hF, h1, h2, h3, h4, h5, h6, h7, h8⟩ := hx
  injection e with b1 e; injection e with b2 e; injection e with b3 e; injection e with b4 e; injection e with b5 e; injection e with b6 e; injection e with b7 e; injection e with b8 b9
  injection e2 with a1 e2; injection e2 with a2 e2; injection e2 with a3 e2; injection e2 with a4 e2; injection e2 with a5 a6
  have hlen := hF.len
  have nn : ∀ i, i < (sh M).length → ¬ (67 ≤ i ∧ i < 75) → mi M2 i = mi M i := fun i hi hn => f.row hi (fun hm => hn (by have := List.all_eq_true.mp hL i hm; simpa using this))
  have n : ∀ i, i < 67 → mi M2 i = mi M i := fun i hi => nn i (by omega) (by omega)
  have rr : ∀ i, i < (sh M).length → mr M2 i = mr M i := fun i hi => f.rrow hi (by simp)
  have hs : HiSame M M2 := ⟨fun j kn h => f.shp h, fun j hj hi => ⟨nn j hj (by omega), rr j hj⟩⟩
  refine ⟨f.fx hF, ?_, ?_, ?_, ?_, ?_, ?_, ?_, hl⟩
  · have := h1.cg (M2 := M2) (fun i _ _ => n i (by omega)) hT
    unfold XLand at this ⊢
    rw [← b1, ← b2, ← b3, ← b4, ← b5, ← b6, ← b7, ← b8, ← b9]; exact this
  · have := h2.cg (M2 := M2) (by rw [n 0 (by omega)]) (fun i _ _ => n i (by omega))
    unfold XKept at this ⊢
    rw [← a6]; exact this
  · have := h3.cg (M2 := M2) (by rw [n 43 (by omega)]) (n 44 (by omega))
    unfold XTape at this ⊢
    rw [← a1]; exact this
  · have := h4.cg (M2 := M2) hs (by rw [n 46 (by omega)]) (rr 47 (by omega))
    unfold XText at this ⊢
    rw [← a2]; exact this
  · have := h5.cg (M2 := M2) hs (by rw [n 0 (by omega)]) (rr 50 (by omega))
    unfold XGiv at this ⊢
    rw [← a3]; exact this
  · have := h6.cg (M2 := M2) (by rw [n 53 (by omega)]) (n 54 (by omega))
    unfold XFound at this ⊢
    rw [← a4]; exact this
  · have := h7.cg (M2 := M2) (by rw [n 63 (by omega)]) (n 64 (by omega))
    unfold XRound at this ⊢
    rw [← a5]; exact this
theorem MA.sheetF {σ τ : St} {L : List Nat} {M M2 : Mem} (hm : MA σ M) (f : FrG L [] M M2) (hL : L.all (fun j => decide (100 ≤ j ∧ j < 103)) = true)
    (e : (oT σ, oW σ, oSz σ, oMy σ, oWi σ, oBe σ, oRd σ, oFe σ, oRu σ) = (oT τ, oW τ, oSz τ, oMy τ, oWi τ, oBe τ, oRd τ, oFe τ, oRu τ)) (e2 : (oTp σ, oTx σ, oGv σ, oFo σ, oRo σ, oIm σ) = (oTp τ, oTx τ, oGv τ, oFo τ, oRo τ, oIm τ)) (hl : MSheet τ M2) : MA τ M2 := by
  obtain ⟨hF, h0, h1, h2, h3, h4, h5, h6, h7, h8⟩ := hm
  injection e with b1 e; injection e with b2 e; injection e with b3 e; injection e with b4 e; injection e with b5 e; injection e with b6 e; injection e with b7 e; injection e with b8 b9
  injection e2 with a1 e2; injection e2 with a2 e2; injection e2 with a3 e2; injection e2 with a4 e2; injection e2 with a5 a6
  have hlen := hF.len
  have n : ∀ i, i < 100 → mi M2 i = mi M i := fun i hi => f.row (by omega) (fun hm => by have := List.all_eq_true.mp hL i hm; simp only [decide_eq_true_eq] at this; omega)
  refine ⟨f.fm hF (by simp), by rw [f.lrow (j := 104) (by omega)]; exact h0, ?_, ?_, ?_, ?_, ?_, ?_, ?_, hl⟩
  · unfold MLand at h1 ⊢
    rw [← b1, ← b2, ← b3, ← b4, ← b5, ← b6, ← b7, ← b8, ← b9, n 78 (by decide), n 79 (by decide), n 80 (by decide), n 81 (by decide), n 82 (by decide), n 83 (by decide), n 84 (by decide), n 85 (by decide)]
    exact h1
  · unfold MKept at h2 ⊢
    rw [← a6, n 78 (by decide), n 94 (by decide), n 95 (by decide), n 96 (by decide), n 97 (by decide), n 98 (by decide), n 99 (by decide)]
    exact h2
  · unfold MTape at h3 ⊢
    rw [← a1, n 78 (by decide), n 86 (by decide)]
    exact h3
  · unfold MText at h4 ⊢
    rw [← a2, n 78 (by decide), n 87 (by decide), n 88 (by decide)]
    exact h4
  · unfold MGiv at h5 ⊢
    rw [← a3, n 78 (by decide), n 89 (by decide), n 90 (by decide), n 91 (by decide)]
    exact h5
  · unfold MFound at h6 ⊢
    rw [← a4, n 78 (by decide), n 92 (by decide)]
    exact h6
  · unfold MRound at h7 ⊢
    rw [← a5, n 78 (by decide), n 93 (by decide)]
    exact h7
theorem XA.sheetS {σ τ : St} {L : List Nat} {M M2 : Mem} (hx : XA σ M) (f : FrG L [] M M2) (hL : L.all (fun j => decide (67 ≤ j ∧ j < 75)) = true) (hT : oT σ ≤ 6)
    (e : (oT σ, oW σ, oSz σ, oMy σ, oWi σ, oBe σ, oRd σ, oFe σ, oRu σ) = (oT τ, oW τ, oSz τ, oMy τ, oWi τ, oBe τ, oRd τ, oFe τ, oRu τ)) (e2 : (oTp σ, oTx σ, oGv σ, oFo σ, oRo σ, oIm σ) = (oTp τ, oTx τ, oGv τ, oFo τ, oRo τ, oIm τ)) (hl : XSheet τ M2) : SX τ M M2 := ⟨hx.sheetF f hL hT e e2 hl, fun _ hm => XA.keepM f (all_sub hL (fun j h => by simp only [decide_eq_true_eq] at h ⊢; omega)) rfl hm⟩
theorem MA.sheetS {σ τ : St} {L : List Nat} {M M2 : Mem} (hm : MA σ M) (f : FrG L [] M M2) (hL : L.all (fun j => decide (100 ≤ j ∧ j < 103)) = true)
    (e : (oT σ, oW σ, oSz σ, oMy σ, oWi σ, oBe σ, oRd σ, oFe σ, oRu σ) = (oT τ, oW τ, oSz τ, oMy τ, oWi τ, oBe τ, oRd τ, oFe τ, oRu τ)) (e2 : (oTp σ, oTx σ, oGv σ, oFo σ, oRo σ, oIm σ) = (oTp τ, oTx τ, oGv τ, oFo τ, oRo τ, oIm τ)) (hl : MSheet τ M2) : SM τ M M2 := ⟨hm.sheetF f hL e e2 hl, fun _ h6 hx => MA.keepX f (all_sub hL (fun j h => by simp only [decide_eq_true_eq] at h ⊢; omega)) h6 hx⟩
