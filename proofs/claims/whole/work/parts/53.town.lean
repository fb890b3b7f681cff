/-! town -/
def pTown (σ : St) (b : Int32) : Int32 := if isB 0 99 b = true then (if oT σ = 6 then -4 else nI (oT σ)) else -2
def newT (σ : St) (k : Nat) : St := (oT σ + 1, oW σ, u1 (oSz σ) (oT σ) k, u1 (oMy σ) (oT σ) 127, u1 (oWi σ) (oT σ) (-1), u1 (oBe σ) (oT σ) (-1), oRd σ, oFe σ, oTp σ, oTx σ, oRu σ, oGv σ, oFo σ, oRo σ, oIm σ, oSo σ, oSs σ, oSc σ)
def tTown (σ : St) (b : Int32) : St := if isB 0 99 b = true then (if oT σ = 6 then σ else newT σ b.toNatClampNeg) else σ
theorem WF.newT {σ : St} (h : WF σ) {k : Nat} (hk : k ≤ 99) (h5 : oT σ < 6) : WF (newT σ k) := by
  obtain ⟨x0, b, c, ⟨x1, x2, x3, x4⟩, tp, tx, ⟨gv1, gv2⟩, fo, ro, im, ss⟩ := h
  refine ⟨?_, b, ?_, ⟨?_, ?_, x3, x4⟩, tp, tx, ⟨gv1, ?_⟩, fo, ro, ?_, ss⟩
  · show oT σ + 1 ≤ 6; omega
  · intro t
    show u1 (oSz σ) (oT σ) k t ≤ 99
    unfold u1
    split
    · exact hk
    · exact c t
  · intro t ht
    have ht : t < oT σ + 1 := ht
    show u1 (oMy σ) (oT σ) 127 t ≤ 127 ∧ (u1 (oWi σ) (oT σ) (-1) t = -1 ∨ ∃ k, k ≤ 6 ∧ u1 (oWi σ) (oT σ) (-1) t = nI k) ∧ (u1 (oBe σ) (oT σ) (-1) t = -1 ∨ ∃ k, k < oT σ + 1 ∧ k ≠ t ∧ u1 (oBe σ) (oT σ) (-1) t = nI k)
    by_cases q : t = oT σ
    · subst q
      rw [u1_s, u1_s, u1_s]
      exact ⟨Nat.le_refl _, .inl rfl, .inl rfl⟩
    · rw [u1_n q, u1_n q, u1_n q]
      obtain ⟨y1, y2, y3⟩ := x1 t (by omega)
      refine ⟨y1, y2, ?_⟩
      rcases y3 with y3 | ⟨k, a, b, c⟩
      · exact .inl y3
      · exact .inr ⟨k, by omega, b, c⟩
  · intro a b
    obtain ⟨y1, y2, y3, y4⟩ := x2 a b
    exact ⟨y1, y2, y3, fun q => y4 (by have q : oT σ + 1 ≤ a := q; omega)⟩
  · intro q hq
    obtain ⟨a, b, c⟩ := gv2 q hq
    refine ⟨a, ?_, c⟩
    show q.2.length ≤ oT σ + 1
    omega
  · intro g hg
    obtain ⟨a, b⟩ := im g hg
    refine ⟨?_, b⟩
    show iT g ≤ oT σ + 1
    omega
theorem WF.town {σ : St} (h : WF σ) (b : Int32) : WF (tTown σ b) := by
  unfold tTown
  split
  · rename_i q
    split
    · exact h
    · have h6 := h.T6
      obtain ⟨k, hk, rfl⟩ := isB_w q
      rw [nI_clamp (by omega)]
      exact h.newT (by omega) (by omega)
  · exact h
theorem sX_town {d : Nat} {σ : St} {b : Int32} {M : Mem} {K : Int32 → Mem → Prop} (hw : WF σ) (hx : XA σ M) (h : ∀ M2, SX (tTown σ b) M M2 → K (pTown σ b) M2) : Con (d + 3) m_MD_town 0 0 [.ref 0, .int b] M (PI K) := by
  obtain ⟨hF, hL, hx2⟩ := id hx
  have h6 := hw.T6
  unfold tTown pTown at h
  have hno : ¬ (isB 0 99 b = true) → K (-2) M := fun q => by
    have := h M (by rw [if_neg q]; exact SX.rf hx)
    rwa [if_neg q] at this
  refine Con.of (lo := [some (.ref 0), some (.int b)]) F_MD_town.1 rfl (Nat.le_of_ble_eq_true rfl) (k_MD_town_0 hF ⟨fun z => PI.mk rfl (hno ?_), fun z => ⟨fun z2 => ?_, fun z2 => PI.mk rfl (hno ?_)⟩⟩)
  · rw [isB_t]; rw [i_lt, i_0] at z; omega
  · rw [i_lt, i_0] at z; rw [i_le, show (nI 99).toInt = 99 from rfl] at z2
    have hb : isB 0 99 b = true := by rw [isB_t]; omega
    obtain ⟨k, hk, rfl⟩ := isB_w hb
    rw [if_pos hb, nI_clamp (by omega)] at h
    obtain ⟨g1, g2, g3, g4, g5, g6, g7, g8⟩ := id hL
    refine Con.of (lo := [some (.ref 1), some (.int (nI k))]) F_Land_settle.1 rfl (Nat.le_of_ble_eq_true rfl) (k_Land_settle_0 hF ?_)
    rw [g1, nI_clamp (by omega), nI_add]
    refine ⟨fun z3 => ?_, fun z3 => PB.mk rfl ⟨hF, fun _ => PI.mk rfl ?_, (fun z => nomatch z)⟩⟩
    · rw [nI_ltI (by omega) (by omega)] at z3
      have hT6 : ¬ oT σ = 6 := by omega
      rw [if_neg hT6] at h
      have v := vN z3 (by decide)
      refine ⟨v, v, v, v, ?_⟩
      have f1 : FrG [1, 2, 3, 4, 5, 14, 15, 16, 17, 18, 19] [] M (wi (wi (wi (wi (wi M 2 (oT σ) (nI k)) 3 (oT σ) (nI 127)) 4 (oT σ) (-1)) 5 (oT σ) (-1)) 1 8 (nI (oT σ + 1))) := (((((FrG.rf _ _).fwi (by decide)).fwi (by decide)).fwi (by decide)).fwi (by decide)).fwi (by decide)
      have n1 : ∀ q, 6 ≤ q → mi (wi (wi (wi (wi (wi M 2 (oT σ) (nI k)) 3 (oT σ) (nI 127)) 4 (oT σ) (-1)) 5 (oT σ) (-1)) 1 8 (nI (oT σ + 1))) q = mi M q := fun q hq => by rw [mi_n (by omega), mi_n (by omega), mi_n (by omega), mi_n (by omega), mi_n (by omega)]
      have hlen := hF.len
      refine sx_measure (T := oT σ + 1) (rd := oRd σ) hF.fwi.fwi.fwi.fwi.fwi wi_e (by omega) (fun x y => hw.rd x y) (fun x y hx hy => by rw [n1 (7 + x) (by omega)]; exact g6 x y hx hy) (fun M2 hF2 f2 g => ⟨hF2, PB.mk rfl ⟨hF2, (fun z => nomatch z), fun _ => ?_⟩⟩)
      have n2 : ∀ q, (q < 14 ∨ 20 ≤ q) → q < 75 → mi M2 q = mi (wi (wi (wi (wi (wi M 2 (oT σ) (nI k)) 3 (oT σ) (nI 127)) 4 (oT σ) (-1)) 5 (oT σ) (-1)) 1 8 (nI (oT σ + 1))) q := fun q hq h75 => f2.row (show q < (sh M).length by omega) (R14_no (by omega))
      have hh := h M2 (by
        refine hx.landS (f1.tr (f2.wk (fun q hq => ?_) (by simp))) (by decide) rfl ?_
        · revert q; unfold R14; decide
        · refine ⟨by rw [n2 1 (by omega) (by omega)]; exact wi_e, ?_, ?_, ?_, fun t ht => ?_, fun x y hx hy => ?_, g, ?_⟩
          · rw [n2 1 (by omega) (by omega), wi_f (by decide), mi_n (by decide), mi_n (by decide), mi_n (by decide), mi_n (by decide)]; exact g2
          · rw [n2 1 (by omega) (by omega), wi_f (by decide), mi_n (by decide), mi_n (by decide), mi_n (by decide), mi_n (by decide)]; exact g3
          · rw [n2 1 (by omega) (by omega), wi_f (by decide), mi_n (by decide), mi_n (by decide), mi_n (by decide), mi_n (by decide)]; exact g4
          · have ht : t < oT σ + 1 := ht
            show _ = nI (u1 (oSz σ) (oT σ) k t) ∧ _ = nI (u1 (oMy σ) (oT σ) 127 t) ∧ _ = u1 (oWi σ) (oT σ) (-1) t ∧ _ = u1 (oBe σ) (oT σ) (-1) t
            rw [n2 2 (by omega) (by omega), n2 3 (by omega) (by omega), n2 4 (by omega) (by omega), n2 5 (by omega) (by omega)]
            rw [mi_n (j := 1) (i := 2) (by decide), mi_n (j := 5) (i := 2) (by decide), mi_n (j := 4) (i := 2) (by decide), mi_n (j := 3) (i := 2) (by decide), mi_w,
              mi_n (j := 1) (i := 3) (by decide), mi_n (j := 5) (i := 3) (by decide), mi_n (j := 4) (i := 3) (by decide), mi_w, mi_n (j := 2) (i := 3) (by decide),
              mi_n (j := 1) (i := 4) (by decide), mi_n (j := 5) (i := 4) (by decide), mi_w, mi_n (j := 3) (i := 4) (by decide), mi_n (j := 2) (i := 4) (by decide),
              mi_n (j := 1) (i := 5) (by decide), mi_w, mi_n (j := 4) (i := 5) (by decide), mi_n (j := 3) (i := 5) (by decide), mi_n (j := 2) (i := 5) (by decide)]
            by_cases q : t = oT σ
            · subst q
              rw [u1_s, u1_s, u1_s, u1_s, u1_s, u1_s, u1_s, u1_s]
              exact ⟨rfl, rfl, rfl, rfl⟩
            · rw [u1_n q, u1_n q, u1_n q, u1_n q, u1_n q, u1_n q, u1_n q, u1_n q]
              exact g5 t (by omega)
          · rw [n2 (7 + x) (by omega) (by omega), n1 (7 + x) (by omega)]
            exact g6 x y hx hy
          · rw [n2 20 (by omega) (by omega), n2 21 (by omega) (by omega), n1 20 (by omega), n1 21 (by omega)]
            exact g8)
      rw [if_pos hb, if_neg hT6] at hh
      refine PI.mk ?_ hh
      rw [n2 1 (by omega) (by omega), wi_e, nI_sub1 (by omega)]
      rfl
    · rw [nI_ltI (by omega) (by omega)] at z3
      have hT6 : oT σ = 6 := by omega
      rw [if_pos hT6] at h
      have hh := h M (SX.rf hx)
      rwa [if_pos hb, if_pos hT6] at hh
  · rw [isB_t]; rw [i_le, show (nI 99).toInt = 99 from rfl] at z2; omega
theorem sM_town {d : Nat} {σ : St} {b : Int32} {M : Mem} {K : Int32 → Mem → Prop} (hw : WF σ) (hm : MA σ M) (h : ∀ M2, SM (tTown σ b) M M2 → K (pTown σ b) M2) : Con (d + 2) m_MM_town 0 0 [.ref 78, .int b] M (PI K) := by
  obtain ⟨hF, hw0, hL, hx2⟩ := id hm
  have h6 := hw.T6
  unfold tTown pTown at h
  refine Con.of (lo := [some (.ref 78), some (.int b)]) F_MM_town.1 rfl (Nat.le_of_ble_eq_true rfl) (k_MM_town_0 hF ?_)
  refine sm_inD hF (by omega) (fun q => ⟨hF, (fun z => nomatch z), fun _ => PI.mk rfl ?_⟩) (fun k hk e q => ⟨hF, fun _ => ?_, (fun z => nomatch z)⟩)
  · rw [show ((99 : Nat) : Int) = 99 from rfl] at q
    have := h M (by rw [q]; exact SM.rf hm)
    rwa [q] at this
  · rw [show ((99 : Nat) : Int) = 99 from rfl] at q
    subst e
    rw [if_pos q, nI_clamp (by omega)] at h
    obtain ⟨g1, g2, g3, g4, g5, g6, g7⟩ := id hL
    rw [g1, nI_clamp (by omega), nI_eq (by omega) (by omega), nI_add, nI_sub1 (by omega)]
    refine ⟨fun z3 => ?_, fun z3 => PI.mk rfl ?_⟩
    · rw [if_neg z3] at h
      have v := vN (show oT σ < 6 by omega) (by decide)
      refine ⟨v, v, v, v, ?_⟩
      have n1 : ∀ q, 83 ≤ q → mi (wi (wi (wi (wi (wi M 79 (oT σ) (nI k)) 80 (oT σ) (nI 127)) 81 (oT σ) (-1)) 82 (oT σ) (-1)) 78 0 (nI (oT σ + 1))) q = mi M q := fun q hq => by rw [mi_n (by omega), mi_n (by omega), mi_n (by omega), mi_n (by omega), mi_n (by omega)]
      have hh := h (wi (wi (wi (wi (wi M 79 (oT σ) (nI k)) 80 (oT σ) (nI 127)) 81 (oT σ) (-1)) 82 (oT σ) (-1)) 78 0 (nI (oT σ + 1))) (by
        refine hm.landS (L := [78, 79, 80, 81, 82]) ((((((FrG.rf _ _).fwi (by decide)).fwi (by decide)).fwi (by decide)).fwi (by decide)).fwi (by decide)) rfl (fun q h0 _ _ _ => by rw [wi_f h0, mi_n (by decide), mi_n (by decide), mi_n (by decide), mi_n (by decide)]) rfl ?_
        refine ⟨wi_e, ?_, ?_, ?_, fun t ht => ?_, fun x y hx hy => ?_, ?_⟩
        · rw [wi_f (by decide), mi_n (by decide), mi_n (by decide), mi_n (by decide), mi_n (by decide)]; exact g2
        · rw [wi_f (by decide), mi_n (by decide), mi_n (by decide), mi_n (by decide), mi_n (by decide)]; exact g3
        · rw [wi_f (by decide), mi_n (by decide), mi_n (by decide), mi_n (by decide), mi_n (by decide)]; exact g4
        · have ht : t < oT σ + 1 := ht
          show _ = nI (u1 (oSz σ) (oT σ) k t) ∧ _ = nI (u1 (oMy σ) (oT σ) 127 t) ∧ _ = u1 (oWi σ) (oT σ) (-1) t ∧ _ = u1 (oBe σ) (oT σ) (-1) t
          rw [mi_n (j := 78) (i := 79) (by decide), mi_n (j := 82) (i := 79) (by decide), mi_n (j := 81) (i := 79) (by decide), mi_n (j := 80) (i := 79) (by decide), mi_w,
            mi_n (j := 78) (i := 80) (by decide), mi_n (j := 82) (i := 80) (by decide), mi_n (j := 81) (i := 80) (by decide), mi_w, mi_n (j := 79) (i := 80) (by decide),
            mi_n (j := 78) (i := 81) (by decide), mi_n (j := 82) (i := 81) (by decide), mi_w, mi_n (j := 80) (i := 81) (by decide), mi_n (j := 79) (i := 81) (by decide),
            mi_n (j := 78) (i := 82) (by decide), mi_w, mi_n (j := 81) (i := 82) (by decide), mi_n (j := 80) (i := 82) (by decide), mi_n (j := 79) (i := 82) (by decide)]
          by_cases q : t = oT σ
          · subst q
            rw [u1_s, u1_s, u1_s, u1_s, u1_s, u1_s, u1_s, u1_s]
            exact ⟨rfl, rfl, rfl, rfl⟩
          · rw [u1_n q, u1_n q, u1_n q, u1_n q, u1_n q, u1_n q, u1_n q, u1_n q]
            exact g5 t (by omega)
        · rw [n1 83 (by omega)]
          exact g6 x y hx hy
        · rw [n1 84 (by omega), n1 85 (by omega)]
          exact g7)
      rw [if_pos q, if_neg z3] at hh
      exact PI.mk rfl hh
    · rw [if_pos z3] at h
      have hh := h M (SM.rf hm)
      rwa [if_pos q, if_pos z3] at hh
