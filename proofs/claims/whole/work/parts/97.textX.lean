/-! text: x's side, the call -/
theorem XA.textS {σ : St} {L : List (List Int32 × List Int32)} {M M2 : Mem} (hw : WF σ) (hx : XA σ M) (f : FrG [43, 45, 46] [47] M M2) (hF2 : Fx M2) (h1 : mi M2 43 1 = nI 0) (ht : XText (sTx (sTp σ []) L) M2) : SX (sTx (sTp σ []) L) M M2 := by
  obtain ⟨hF, g1, g2, g3, g4, g5, g6, g7, g8⟩ := hx
  have hlen := hF.len
  have n : ∀ j, j < 75 → j ≠ 43 → j ≠ 45 → j ≠ 46 → mi M2 j = mi M j := fun j a b c d => f.row (by omega) (by simp; omega)
  have rr : ∀ i, i < 75 → i ≠ 47 → mr M2 i = mr M i := fun i hi b => f.rrow (by omega) (by simp; omega)
  have hs := f.hi rfl rfl
  exact ⟨⟨hF2, g1.cg (fun j a b => n j (by omega) (by omega) (by omega) (by omega)) hw.T6, g2.cg (by rw [n 0 (by omega) (by omega) (by omega) (by omega)]) (fun j a b => n j (by omega) (by omega) (by omega) (by omega)), ⟨h1, fun i b hi => by cases hi⟩, ht, g5.cg hs (by rw [n 0 (by omega) (by omega) (by omega) (by omega)]) (rr 50 (by omega) (by omega)), g6.cg (by rw [n 53 (by omega) (by omega) (by omega) (by omega)]) (n 54 (by omega) (by omega) (by omega) (by omega)), g7.cg (by rw [n 63 (by omega) (by omega) (by omega) (by omega)]) (n 64 (by omega) (by omega) (by omega) (by omega)), g8.cg (fun j a b => n j (by omega) (by omega) (by omega) (by omega))⟩, fun _ hm => XA.keepM f rfl rfl hm⟩
theorem sX_text {d : Nat} {σ : St} {M : Mem} {K : Int32 → Mem → Prop} (hw : WF σ) (hx : XA σ M) (h113 : 113 ≤ (sh M).length) (hlen : (sh M).length + 3 < 1048576) (h : ∀ M2, SX (tText σ) M M2 → K (pText σ) M2) : Con (d + 47) m_MD_text 3 330 [.ref 0] M (PI K) := by
  obtain ⟨hF, -, -, hTp, hT, -⟩ := id hx
  have h6' : (oTx σ).length ≤ 6 := hw.2.2.2.2.2.1.2.1
  have h1' : 1 ≤ (oTx σ).length := hw.2.2.2.2.2.1.1
  have htp := hw.tp
  have h160 := htp.1
  have hb : ∀ i, byt (oTp σ) i < 256 := byt_256 htp.2
  have t0 : TBx (oTp σ) M := ⟨hTp.1, fun i hi => hTp.2 i _ (byt_at hi)⟩
  have hl := hF.len
  unfold tText pText at h
  refine Con.ent (k := 1) F_MD_text.1 rfl (Nat.le_of_ble_eq_true rfl) (k_MD_text_0 hF ?_)
  rw [hT.1, nI_eq (by omega) (by decide)]
  refine ⟨fun q => ⟨⟨Nat.le_refl _, Nat.le_refl _⟩, ?_⟩, fun q => PI.mk rfl (by
    have := h M (by rw [if_pos q]; exact SX.rf hx)
    rwa [if_pos q] at this)⟩
  rw [if_neg q, if_neg q] at h
  refine sx_readRule hF t0 hb h160 (.inr h113) hlen (fun f M1 e hF1 f1 a1 a2 => ⟨hF1, fun _ => PI.mk (by rw [a1]) ?_, (fun _ z => nomatch z)⟩) (fun O1 O2 hh a b M1 e hF1 f1 a1 a2 _ a3 a4 a5 a6 a7 => ⟨hF1, (fun z => nomatch z), fun p ep => ?_⟩)
  · rw [e] at h
    refine h M1 ?_
    rw [← tx_self]
    refine hx.textS hw (f1.wk (by simp) (by simp)) hF1 a2 ?_
    rw [tx_self]
    exact hT.cg (f1.hi rfl rfl) (by rw [f1.row (j := 46) (by omega) (by decide)]) (f1.rrow (by omega) (by simp))
  · cases ep
    rw [e] at h
    have e46 : mi M1 46 = mi M 46 := f1.row (by omega) (by decide)
    have e47 : mr M1 47 = mr M 47 := f1.rrow (by omega) (by simp)
    have hF2 : Fx (wr M1 47 (oTx σ).length (some hh)) := hF1.fwr _ (by
      intro l hl2 q2
      cases hl2
      rw [List.getElem?_eq_none_iff.mpr (Nat.zero_le _)]
      exact fun z => by cases z)
    refine Con.of (lo := [some (.ref 46), some (.ref hh)]) F_Law_learn.1 rfl (Nat.le_of_ble_eq_true rfl) (k_Law_learn_0 hF1 ?_)
    rw [e46, hT.1, nI_clamp (by omega), nI_add]
    refine ⟨fun z => absurd z (by rw [nI_leI (by omega) (by omega)]; omega), fun _ => ⟨vN (by omega) (by decide), a3, hF2, rfl, hF2.fwi, PI.mk ?_ (h _ ?_)⟩⟩
    · rw [wi_e, nI_sub1 (by omega), Nat.add_sub_cancel]
    · refine hx.textS hw (((f1.wk (L2 := [43, 45, 46]) (R2 := [47]) (by simp) (by simp)).fwr (by simp)).fwi (by simp)) hF2.fwi (by rw [mi_n (by decide)]; exact a1) ⟨?_, fun i n w hi => ?_⟩
      · rw [wi_e]
        show _ = nI (oTx σ ++ [(O1, O2)]).length
        rw [List.length_append]; rfl
      · have hs := f1.hi rfl rfl
        have e47b : mr (wi (wr M1 47 (oTx σ).length (some hh)) 46 2 (nI ((oTx σ).length + 1))) 47 = u1 (mr M 47) (oTx σ).length (some hh) := by
          show u2 (mr M1) 47 (oTx σ).length (some hh) 47 = _
          rw [u2_s, e47]
        have emr : ∀ j, j ≠ 47 → mr (wi (wr M1 47 (oTx σ).length (some hh)) 46 2 (nI ((oTx σ).length + 1))) j = mr M1 j := fun j hj => u2_n hj
        have emi : ∀ j, j ≠ 46 → mi (wi (wr M1 47 (oTx σ).length (some hh)) 46 2 (nI ((oTx σ).length + 1))) j = mi M1 j := fun j hj => mi_n hj
        have cat : ∀ {p : Nat} {l : List Int32}, CodeAt M1 p l → CodeAt (wi (wr M1 47 (oTx σ).length (some hh)) 46 2 (nI ((oTx σ).length + 1))) p l := fun {p l} hc => ⟨hc.1, hc.2.1, fun k c hk => by rw [emi p (by have := hc.1; omega)]; exact hc.2.2 k c hk⟩
        rw [e47b]
        rcases ap1 (show (oTx σ ++ [(O1, O2)])[i]? = some (n, w) from hi) with ⟨y, y2⟩ | ⟨y, y2⟩
        · obtain ⟨r, a', b', x1, x2, x3, x4, x5, x6, x7⟩ := hT.2 i n w y2
          have hlr := (List.getElem?_eq_some_iff.mp x3).1
          have hr := (hs.2 r hlr (by omega)).2
          rw [u1_n (by omega)]
          exact ⟨r, a', b', x1, x2, hs.1 _ _ x3, by rw [emr r (by omega), hr]; exact x4, by rw [emr r (by omega), hr]; exact x5, cat (x6.cg hs), cat (x7.cg hs)⟩
        · injection y2 with y3 y4
          subst y y3 y4
          rw [u1_s]
          exact ⟨hh, a, b, rfl, a2, a3, by rw [emr hh (by omega)]; exact a4, by rw [emr hh (by omega)]; exact a5, cat a6, cat a7⟩
