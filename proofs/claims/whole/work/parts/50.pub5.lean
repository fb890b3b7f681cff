/-! calls on the land: week, force, feast; givingTold -/
def others (σ : St) := (oTp σ, oTx σ, oGv σ, oFo σ, oRo σ, oIm σ, oSo σ, oSs σ, oSc σ)
theorem XA.landF {σ τ : St} {L : List Nat} {M M2 : Mem} (hx : XA σ M) (f : FrG L [] M M2) (hL : L.all (fun j => decide (1 ≤ j ∧ j < 22)) = true) (e : others σ = others τ) (hl : XLand τ M2) : XA τ M2 := by
  obtain ⟨hF, h1, h2, h3, h4, h5, h6, h7, h8⟩ := hx
  unfold others at e
  injection e with a1 e; injection e with a2 e; injection e with a3 e; injection e with a4 e; injection e with a5 e; injection e with a6 e; injection e with a7 e; injection e with a8 a9
  have hlen := hF.len
  have nn : ∀ i, i < (sh M).length → ¬ (1 ≤ i ∧ i < 22) → mi M2 i = mi M i := fun i hi hn => f.row hi (fun hm => hn (by have := List.all_eq_true.mp hL i hm; simpa using this))
  have n : ∀ i, i < 75 → ¬ (1 ≤ i ∧ i < 22) → mi M2 i = mi M i := fun i hi hn => nn i (by omega) hn
  have rr : ∀ i, i < (sh M).length → mr M2 i = mr M i := fun i hi => f.rrow hi (by simp)
  have hs : HiSame M M2 := ⟨fun j kn h => f.shp h, fun j hj hi => ⟨nn j hj (by omega), rr j hj⟩⟩
  refine ⟨f.fx hF, hl, ?_, ?_, ?_, ?_, ?_, ?_, ?_⟩
  · have := h2.cg (M2 := M2) (by rw [n 0 (by omega) (by omega)]) (fun i _ _ => n i (by omega) (by omega))
    unfold XKept at this ⊢
    rw [← a6]; exact this
  · have := h3.cg (M2 := M2) (by rw [n 43 (by omega) (by omega)]) (n 44 (by omega) (by omega))
    unfold XTape at this ⊢
    rw [← a1]; exact this
  · have := h4.cg (M2 := M2) hs (by rw [n 46 (by omega) (by omega)]) (rr 47 (by omega))
    unfold XText at this ⊢
    rw [← a2]; exact this
  · have := h5.cg (M2 := M2) hs (by rw [n 0 (by omega) (by omega)]) (rr 50 (by omega))
    unfold XGiv at this ⊢
    rw [← a3]; exact this
  · have := h6.cg (M2 := M2) (by rw [n 53 (by omega) (by omega)]) (n 54 (by omega) (by omega))
    unfold XFound at this ⊢
    rw [← a4]; exact this
  · have := h7.cg (M2 := M2) (by rw [n 63 (by omega) (by omega)]) (n 64 (by omega) (by omega))
    unfold XRound at this ⊢
    rw [← a5]; exact this
  · have := h8.cg (M2 := M2) (fun i _ _ => n i (by omega) (by omega))
    unfold XSheet at this ⊢
    rw [← a7, ← a8, ← a9]; exact this
theorem XA.landS {σ τ : St} {L : List Nat} {M M2 : Mem} (hx : XA σ M) (f : FrG L [] M M2) (hL : L.all (fun j => decide (1 ≤ j ∧ j < 22)) = true) (e : others σ = others τ) (hl : XLand τ M2) : SX τ M M2 := ⟨hx.landF f hL e hl, fun _ hm => XA.keepM f (all_sub hL (fun j h => by simp only [decide_eq_true_eq] at h ⊢; omega)) rfl hm⟩
theorem MA.landF {σ τ : St} {L : List Nat} {M M2 : Mem} (hm : MA σ M) (f : FrG L [] M M2) (hL : L.all (fun j => decide (78 ≤ j ∧ j < 86)) = true) (h78 : ∀ k, k ≠ 0 → k ≠ 6 → k ≠ 7 → k ≠ 15 → mi M2 78 k = mi M 78 k) (e : others σ = others τ) (hl : MLand τ M2) : MA τ M2 := by
  obtain ⟨hF, h0, h1, h2, h3, h4, h5, h6, h7, h8⟩ := hm
  unfold others at e
  injection e with a1 e; injection e with a2 e; injection e with a3 e; injection e with a4 e; injection e with a5 e; injection e with a6 e; injection e with a7 e; injection e with a8 a9
  have hlen := hF.len
  have n : ∀ i, 86 ≤ i → i < 113 → mi M2 i = mi M i := fun i hi hn => f.row (by omega) (fun hm => by have := List.all_eq_true.mp hL i hm; simp only [decide_eq_true_eq] at this; omega)
  have g : ∀ k, k ≠ 0 → k ≠ 6 → k ≠ 7 → k ≠ 15 → mi M2 78 k = mi M 78 k := h78
  refine ⟨f.fm hF (by simp), by rw [f.lrow (j := 104) (by omega)]; exact h0, hl, ?_, ?_, ?_, ?_, ?_, ?_, ?_⟩
  · unfold MKept at h2 ⊢
    rw [← a6, g 25 (by decide) (by decide) (by decide) (by decide), g 26 (by decide) (by decide) (by decide) (by decide), g 27 (by decide) (by decide) (by decide) (by decide), g 28 (by decide) (by decide) (by decide) (by decide), g 29 (by decide) (by decide) (by decide) (by decide), n 94 (by decide) (by decide), n 95 (by decide) (by decide), n 96 (by decide) (by decide), n 97 (by decide) (by decide), n 98 (by decide) (by decide), n 99 (by decide) (by decide)]
    exact h2
  · unfold MTape at h3 ⊢
    rw [← a1, g 11 (by decide) (by decide) (by decide) (by decide), n 86 (by decide) (by decide)]
    exact h3
  · unfold MText at h4 ⊢
    rw [← a2, g 14 (by decide) (by decide) (by decide) (by decide), n 87 (by decide) (by decide), n 88 (by decide) (by decide)]
    exact h4
  · unfold MGiv at h5 ⊢
    rw [← a3, g 16 (by decide) (by decide) (by decide) (by decide), n 89 (by decide) (by decide), n 90 (by decide) (by decide), n 91 (by decide) (by decide)]
    exact h5
  · unfold MFound at h6 ⊢
    rw [← a4, g 20 (by decide) (by decide) (by decide) (by decide), g 21 (by decide) (by decide) (by decide) (by decide), n 92 (by decide) (by decide)]
    exact h6
  · unfold MRound at h7 ⊢
    rw [← a5, g 23 (by decide) (by decide) (by decide) (by decide), n 93 (by decide) (by decide)]
    exact h7
  · unfold MSheet at h8 ⊢
    rw [← a7, ← a8, ← a9, n 100 (by decide) (by decide), n 101 (by decide) (by decide), n 102 (by decide) (by decide)]
    exact h8
theorem MA.landS {σ τ : St} {L : List Nat} {M M2 : Mem} (hm : MA σ M) (f : FrG L [] M M2) (hL : L.all (fun j => decide (78 ≤ j ∧ j < 86)) = true) (h78 : ∀ k, k ≠ 0 → k ≠ 6 → k ≠ 7 → k ≠ 15 → mi M2 78 k = mi M 78 k) (e : others σ = others τ) (hl : MLand τ M2) : SM τ M M2 := ⟨hm.landF f hL h78 e hl, fun _ h6 hx => MA.keepX f (all_sub hL (fun j h => by simp only [decide_eq_true_eq] at h ⊢; omega)) h6 hx⟩
theorem wi_f {M : Mem} {j k b : Nat} {v : Int32} (h : b ≠ k) : mi (wi M j k v) j b = mi M j b := by rw [mi_w, u1_n h]
theorem wi_e {M : Mem} {j k : Nat} {v : Int32} : mi (wi M j k v) j k = v := by rw [mi_w, u1_s]
/-- week n: answer and state -/
def okW (n : Int32) : Bool := isB 2 7 n
def pWeek (σ : St) (n : Int32) : Int32 := if okW n = true then nI (oW σ) else -2
def tWeek (σ : St) (n : Int32) : St := if okW n = true then sW σ n.toNatClampNeg else σ
theorem sX_week {d : Nat} {σ : St} {n : Int32} {M : Mem} {K : Int32 → Mem → Prop} (hx : XA σ M) (h : ∀ M2, SX (tWeek σ n) M M2 → K (pWeek σ n) M2) : Con (d + 1) m_MD_week 0 0 [.ref 0, .int n] M (PI K) := by
  obtain ⟨hF, hL, hx2⟩ := id hx
  unfold tWeek pWeek okW at h
  have e2 : (nI 2).toInt = 2 := rfl
  have e7 : (nI 7).toInt = 7 := rfl
  have hno : ¬ (isB 2 7 n = true) → K (-2) M := fun q => by
    have := h M (by rw [if_neg q]; exact SX.rf hx)
    rwa [if_neg q] at this
  refine Con.ent (k := 1) F_MD_week.1 rfl (Nat.le_of_ble_eq_true rfl) (k_MD_week_0 hF ⟨fun q => PI.mk rfl (hno ?_), fun q => ⟨fun q2 => ?_, fun q2 => PI.mk rfl (hno ?_)⟩⟩)
  · rw [isB_t]; rw [i_lt] at q; omega
  · rw [i_lt] at q; rw [i_le] at q2
    obtain ⟨k, hk, rfl⟩ : ∃ k, k < 8 ∧ n = nI k := i_of (by omega) (by omega) (by omega)
    have hb : isB 2 7 (nI k) = true := by rw [isB_t]; omega
    have := h (wi M 1 9 (nI k)) (by
      rw [if_pos hb, nI_clamp (by omega)]
      refine hx.landS (L := [1]) ((FrG.rf _ _).fwi (by decide)) rfl rfl ?_
      obtain ⟨g1, g2, g3, g4, g5, g6, g7, g8⟩ := hL
      have nr : ∀ i, i ≠ 1 → mi (wi M 1 9 (nI k)) i = mi M i := fun i hi => mi_n hi
      refine ⟨by rw [wi_f (by decide)]; exact g1, wi_e, by rw [wi_f (by decide)]; exact g3, by rw [wi_f (by decide)]; exact g4, ?_, ?_, ?_, ?_⟩
      · rw [nr 2 (by decide), nr 3 (by decide), nr 4 (by decide), nr 5 (by decide)]; exact g5
      · intro a b ha hb; rw [nr (7 + a) (by omega)]; exact g6 a b ha hb
      · intro a b ha hb; rw [nr (14 + a) (by omega)]; exact g7 a b ha hb
      · rw [nr 20 (by decide), nr 21 (by decide)]; exact g8)
    rw [if_pos hb] at this
    exact PI.mk hL.2.1 this
  · rw [isB_t]; rw [i_le] at q2; omega
theorem sM_week {d : Nat} {σ : St} {n : Int32} {M : Mem} {K : Int32 → Mem → Prop} (hm : MA σ M) (h : ∀ M2, SM (tWeek σ n) M M2 → K (pWeek σ n) M2) : Con (d + 2) m_MM_week 0 0 [.ref 78, .int n] M (PI K) := by
  obtain ⟨hF, hw0, hL, hx2⟩ := id hm
  unfold tWeek pWeek okW at h
  refine Con.ent (k := 1) F_MM_week.1 rfl (Nat.le_of_ble_eq_true rfl) (k_MM_week_0 hF ?_)
  refine sm_in hF ?_
  rw [show (nI 2).toInt = 2 from rfl, show (nI 7).toInt = 7 from rfl]
  refine ⟨hF, fun q => ?_, fun q => PI.mk rfl ?_⟩
  · have q2 := isB_t.mp q
    obtain ⟨k, hk, rfl⟩ : ∃ k, k < 8 ∧ n = nI k := i_of (by omega) (by omega) (by omega)
    have := h (wi M 78 6 (nI k)) (by
      rw [if_pos q, nI_clamp (by omega)]
      refine hm.landS (L := [78]) ((FrG.rf _ _).fwi (by decide)) rfl (fun j _ h6 _ _ => wi_f h6) rfl ?_
      obtain ⟨g1, g2, g3, g4, g5, g6, g7⟩ := hL
      have nr : ∀ i, i ≠ 78 → mi (wi M 78 6 (nI k)) i = mi M i := fun i hi => mi_n hi
      refine ⟨by rw [wi_f (by decide)]; exact g1, wi_e, by rw [wi_f (by decide)]; exact g3, by rw [wi_f (by decide)]; exact g4, ?_, ?_, ?_⟩
      · rw [nr 79 (by decide), nr 80 (by decide), nr 81 (by decide), nr 82 (by decide)]; exact g5
      · rw [nr 83 (by decide)]; exact g6
      · rw [nr 84 (by decide), nr 85 (by decide)]; exact g7)
    rw [if_pos q] at this
    exact PI.mk hL.2.1 this
  · have := h M (by rw [q]; exact SM.rf hm)
    rwa [q] at this
