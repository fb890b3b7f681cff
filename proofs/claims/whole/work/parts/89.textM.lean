/-! text: m's side -/
def FTm (T : Nat) (M0 M : Mem) : Prop := FrG [78, 87, 88, 105] [] M0 M ∧ (∀ k, ¬ c4 k → mi M 78 k = mi M0 78 k) ∧ (∀ i, i < 200 * T → mi M 87 i = mi M0 87 i) ∧ ∀ i, i < 4 * T → mi M 88 i = mi M0 88 i
theorem FTm.r {T : Nat} {M0 M M2 : Mem} (hF : Fm M0) (h : FTm T M0 M) (g : FRm T M M2) : FTm T M0 M2 := ⟨h.1.tr (g.1.wk (by simp) (by simp)), fun k hk => (g.2.1 k hk).trans (h.2.1 k hk), fun i hi => (g.2.2 i hi).trans (h.2.2.1 i hi), fun i hi => by
  rw [g.1.row (j := 88) (by have := (h.1.fm hF (by simp)).len; omega) (by decide)]; exact h.2.2.2 i hi⟩
theorem FTm.n {T : Nat} {M0 M M2 : Mem} (hF : Fm M0) (h : FTm T M0 M) (g : FNm M M2) : FTm T M0 M2 := h.r hF ((FRm.rf T M).n (h.1.fm hF (by simp)) g)
theorem FTm.s {T : Nat} {M0 M : Mem} {k : Nat} {v : Int32} (h : FTm T M0 M) (hk : 4 * T ≤ k) : FTm T M0 (wi M 88 k v) := ⟨h.1.fwi (by simp), fun j hj => by rw [mi_n (by decide)]; exact h.2.1 j hj, fun i hi => by rw [mi_n (by decide)]; exact h.2.2.1 i hi, fun i hi => by rw [wi_f (by omega)]; exact h.2.2.2 i hi⟩
theorem FTm.tb {T : Nat} {tp : List Nat} {M0 M : Mem} (h : FTm T M0 M) (hF : Fm M0) (t : TBm tp M0) : TBm tp M := ⟨by rw [h.2.1 11 (by unfold c4; omega)]; exact t.1, fun i hi => by rw [h.1.row (by have := hF.len; omega) (by decide)]; exact t.2 i hi⟩
theorem FTm.wd {T : Nat} {M0 M : Mem} (h : FTm T M0 M) (hF : Fm M0) (t : WDm M0) : WDm M := fun k w q => by rw [h.1.lrow (by have := hF.len; omega)]; exact t k w q
theorem tx_self {σ : St} : sTx (sTp σ []) (oTx σ) = sTp σ [] := rfl
theorem MA.textS {σ : St} {L : List (List Int32 × List Int32)} {M M2 : Mem} (hm : MA σ M) (f : FrG [78, 87, 88, 105] [] M M2) (c : ∀ k, ¬ c4 k → k ≠ 11 → k ≠ 14 → mi M2 78 k = mi M 78 k) (h11 : mi M2 78 11 = nI 0) (ht : MText (sTx (sTp σ []) L) M2) : SM (sTx (sTp σ []) L) M M2 := by
  obtain ⟨hF, h0, h1, h2, h3, h4, h5, h6, h7, h8⟩ := hm
  have hlen := hF.len
  have n : ∀ j, 79 ≤ j → j < 105 → j ≠ 87 → j ≠ 88 → mi M2 j = mi M j := fun j a b c d => f.row (by omega) (by simp; omega)
  have c' : ∀ k, k < 40 → k ≠ 11 → k ≠ 14 → mi M2 78 k = mi M 78 k := fun k a b d => c k (by unfold c4; omega) b d
  exact ⟨⟨f.fm hF (by simp), by rw [f.lrow (j := 104) (by omega)]; exact h0, h1.cg (fun k hk => c' k (by omega) (by omega) (by omega)) (fun j a b => n j (by omega) (by omega) (by omega) (by omega)), h2.cg (fun k a b => c' k (by omega) (by omega) (by omega)) (fun j a b => n j (by omega) (by omega) (by omega) (by omega)), ⟨h11, fun i b hi => by cases hi⟩, ht, h5.cg (c' 16 (by decide) (by decide) (by decide)) (n 89 (by omega) (by omega) (by omega) (by omega)) (n 90 (by omega) (by omega) (by omega) (by omega)) (n 91 (by omega) (by omega) (by omega) (by omega)), h6.cg (c' 20 (by decide) (by decide) (by decide)) (c' 21 (by decide) (by decide) (by decide)) (n 92 (by omega) (by omega) (by omega) (by omega)), h7.cg (c' 23 (by decide) (by decide) (by decide)) (n 93 (by omega) (by omega) (by omega) (by omega)), h8.cg (n 100 (by omega) (by omega) (by omega) (by omega)) (n 101 (by omega) (by omega) (by omega) (by omega)) (n 102 (by omega) (by omega) (by omega) (by omega))⟩, fun _ h6 hx => MA.keepX f rfl h6 hx⟩
theorem byt_at {tp : List Nat} {i : Nat} (h : i < tp.length) : tp[i]? = some (byt tp i) := by
  unfold byt
  rw [List.getD_eq_getElem?_getD, List.getElem?_eq_getElem h]; rfl
theorem byt_256 {tp : List Nat} (h : ∀ b ∈ tp, b < 256) (i : Nat) : byt tp i < 256 := by
  unfold byt
  rw [List.getD_eq_getElem?_getD]
  cases e : tp[i]? with
  | none => exact (by decide : (0 : Nat) < 256)
  | some b => exact h b (List.mem_of_getElem? e)
section TXM
variable {d bc bs T : Nat} {σ : St} {M0 : Mem} {K : Int32 → Mem → Prop}
theorem MT_old {τ : St} (hw : WF σ) (hm : MA σ M0) (hT : T = (oTx σ).length) {M M2 : Mem} (f : FTm T M0 M) (e87 : mi M2 87 = mi M 87) (e88 : ∀ i, i < 4 * T → mi M2 88 i = mi M 88 i) : ∀ i n w, (oTx σ)[i]? = some (n, w) → mi M2 88 (4 * i) = 0 ∧ mi M2 88 (4 * i + 1) = nI n.length ∧ mi M2 88 (4 * i + 2) = nI (n.length + w.length) ∧ ∀ k c, (n ++ w)[k]? = some c → mi M2 87 (200 * i + k) = c := by
  intro i n w hi
  obtain ⟨a, b, c, e⟩ := hm.2.2.2.2.2.1.2 i n w hi
  have hl := (List.getElem?_eq_some_iff.mp hi).1
  have h160 := (hw.2.2.2.2.2.1.2.2.2 (n, w) (List.mem_of_getElem? hi)).2.2
  refine ⟨by rw [e88 _ (by omega), f.2.2.2 _ (by omega)]; exact a, by rw [e88 _ (by omega), f.2.2.2 _ (by omega)]; exact b, by rw [e88 _ (by omega), f.2.2.2 _ (by omega)]; exact c, fun k c2 hk => ?_⟩
  have hk2 := (List.getElem?_eq_some_iff.mp hk).1
  rw [List.length_append] at hk2
  have h160 : n.length + w.length ≤ 160 := h160
  rw [e87, f.2.2.1 _ (by omega)]
  exact e k c2 hk
/-- with a fault -/
theorem tm122f {f : Nat} {l2 : Int32} {M : Mem} (hw : WF σ) (hm : MA σ M0) (hT : T = (oTx σ).length) (h6 : T < 6) (hft : FTm T M0 M) (h41 : mi M 78 41 = nI f) (h : ∀ M2, SM (sTp σ []) M0 M2 → K (-100 - nI f) M2) : Ex (d + 1) m_MM_text bc bs 122 [some (.ref 78), some (.int (nI 0)), some (.int l2)] [] M (PI K) := by
  have hF := hft.1.fm hm.1 (by simp)
  have h14 : mi M 78 14 = nI T := by rw [hft.2.1 14 (by unfold c4; omega), hm.2.2.2.2.2.1.1, hT]
  refine k_MM_text_122 hF ?_
  rw [h14, pk_mul, nI_add, nI_clamp (by omega), h41]
  refine ⟨vN (by omega) (by decide), fun q => absurd rfl q, fun _ => PI.mk rfl (h _ ?_)⟩
  rw [← tx_self]
  refine MA.textS hm (((hft.s (by omega)).1.fwi (by simp))) (fun k a b _ => by rw [wi_f b, mi_n (by decide)]; exact hft.2.1 k a) wi_e ⟨?_, ?_⟩
  · rw [wi_f (by decide), mi_n (by decide), h14, hT]; rfl
  · exact MT_old (τ := σ) hw hm hT hft (by rw [mi_n (by decide), mi_n (by decide)]) (fun i hi => by rw [mi_n (by decide), wi_f (by omega)])
theorem tm101f {f : Nat} {l2 : Int32} {M : Mem} (hw : WF σ) (hm : MA σ M0) (hT : T = (oTx σ).length) (h6 : T < 6) (hft : FTm T M0 M) (h41 : mi M 78 41 = nI f) (h : ∀ M2, SM (sTp σ []) M0 M2 → K (-100 - nI f) M2) : Ex (d + 1) m_MM_text bc bs 26 [some (.ref 78), some (.int (nI 0)), some (.int l2)] [] M (PI K) := by
  have hF := hft.1.fm hm.1 (by simp)
  have go : Ex (d + 1) m_MM_text bc bs 101 [some (.ref 78), some (.int (nI 0)), some (.int l2)] [] M (PI K) := k_MM_text_101 hF ⟨fun _ => tm122f hw hm hT h6 hft h41 h, fun q => absurd rfl q⟩
  exact k_MM_text_26 hF ⟨fun _ => go, fun _ => ⟨fun _ => go, fun q => absurd rfl q⟩⟩
theorem tm59f {f l : Nat} {M : Mem} (hw : WF σ) (hm : MA σ M0) (hT : T = (oTx σ).length) (h6 : T < 6) (hl : l < 2) (hft : FTm T M0 M) (h41 : mi M 78 41 = nI f) (h : ∀ M2, SM (sTp σ []) M0 M2 → K (-100 - nI f) M2) : Ex (d + 1) m_MM_text bc bs 59 [some (.ref 78), some (.int (nI 1)), some (.int (nI l))] [] M (PI K) := by
  have hF := hft.1.fm hm.1 (by simp)
  have h14 : mi M 78 14 = nI T := by rw [hft.2.1 14 (by unfold c4; omega), hm.2.2.2.2.2.1.1, hT]
  refine k_MM_text_59 hF ?_
  rw [h14, pk_mul, nI_add, nI_clamp (by omega)]
  exact ⟨vN (by omega) (by decide), fun _ => tm101f hw hm hT h6 (hft.s (by omega)) (by rw [mi_n (by decide)]; exact h41) h, fun q => absurd rfl q⟩
/-- one half of a TEXT: its key, then its E -/
theorem tm26 {l p : Nat} {W : List Int32} {ts : List Tok} {M : Mem} (hw : WF σ) (hm : MA σ M0) (hT : T = (oTx σ).length) (h6 : T < 6) (hl : l < 2) (hft : FTm T M0 M) (h40 : mi M 78 40 = nI p) (hO : OutM T W M) (hTL : TL (oTp σ) p ts) (hlen : W.length + ts.length < 190)
    (HY : ∀ s v tl W2 ts2 q M2, ts = (s, 3, l) :: tl → v = l → mR tl true true [] W = .inr (W2, ts2) → FTm T M0 M2 → OutM T W2 M2 → mi M2 78 40 = nI q → TL (oTp σ) q ts2 → (∀ i, 4 * T ≤ i → i ≠ 4 * T + l → mi M2 88 i = mi M 88 i) → mi M2 88 (4 * T + l) = nI W.length → Ex (d + 6) m_MM_text bc bs 26 [some (.ref 78), some (.int (nI 1)), some (.int (nI (l + 1)))] [] M2 (PI K))
    (h : ∀ f, (∃ s k v tl, ts = (s, k, v) :: tl ∧ ((¬ (k = 3 ∧ v = l) ∧ f = s) ∨ (k = 3 ∧ v = l) ∧ mR tl true true [] W = .inl f)) → ∀ M2, SM (sTp σ []) M0 M2 → K (-100 - nI f) M2) : Ex (d + 6) m_MM_text bc bs 26 [some (.ref 78), some (.int (nI 1)), some (.int (nI l))] [] M (PI K) := by
  have hF := hft.1.fm hm.1 (by simp)
  have htp := hw.tp
  have h160 := htp.1
  have hb : ∀ i, byt (oTp σ) i < 256 := byt_256 htp.2
  have t0 : TBm (oTp σ) M0 := ⟨hm.2.2.2.2.1.1, fun i hi => hm.2.2.2.2.1.2 i _ (byt_at hi)⟩
  refine k_MM_text_26 hF ⟨fun q => absurd q (by rw [nI_leI (by omega) (by omega)]; omega), fun _ => ⟨fun q => absurd q (by decide), fun _ => ?_⟩⟩
  refine sm_next h160 hb hF (hft.tb hm.1 t0) (hft.wd hm.1 hm.2.1) h40 hTL (fun M1 f1 c1 => ⟨f1.1.fm hF (by simp), ?_⟩)
  obtain ⟨s, k, v, tl, e, g41, g42, g43, g40, hs⟩ := c1
  have hF1 := f1.1.fm hF (by simp)
  have hft1 := hft.n hm.1 f1
  have hk0 := hTL.k.1 (s, k, v) (by rw [e]; exact List.mem_cons_self)
  have hk62 : k < 62 := kOK_lt hk0
  have h14 : mi M1 78 14 = nI T := by rw [hft1.2.1 14 (by unfold c4; omega), hm.2.2.2.2.2.1.1, hT]
  rw [g42, mtk_eq (by omega) (by decide) (by decide)]
  refine ⟨fun z => tm59f hw hm hT h6 hl hft1 g41 (h s ⟨s, k, v, tl, e, .inl ⟨fun y => z y.1, rfl⟩⟩), fun z => ?_⟩
  have gv := g43 (by omega)
  have hv2 : v < 2 := by
    have hk0 : k = 0 ∨ kOK k v := hk0
    unfold kOK at hk0; omega
  rw [gv, nI_eq (by omega) (by omega)]
  refine ⟨fun y => tm59f hw hm hT h6 hl hft1 g41 (h s ⟨s, k, v, tl, e, .inl ⟨fun y2 => y y2.2, rfl⟩⟩), fun y => ?_⟩
  have e48 : mi M1 78 48 = nI W.length := by rw [f1.2 48 (by omega)]; exact hO.1
  rw [h14, pk_mul, nI_add, nI_clamp (by omega), e48]
  refine ⟨vN (by omega) (by decide), fun q => absurd q (by decide), fun _ => ?_⟩
  obtain ⟨q, a40, aTL⟩ := g40 (by omega)
  have hft2 : FTm T M0 (wi M1 88 (4 * T + l) (nI W.length)) := hft1.s (by omega)
  have hlen2 : tl.length < ts.length := by rw [e]; exact Nat.lt_succ_self _
  refine sm_eRead (W := W) h160 hb (hft2.1.fm hm.1 (by simp)) (hft2.tb hm.1 t0) (hft2.wd hm.1 hm.2.1) h6 (by rw [mi_n (by decide)]; exact h14) (by omega) (FRm.rf _ _) ⟨by rw [mi_n (by decide)]; exact e48, fun i c hi => by rw [mi_n (by decide), f1.1.row (by have := hF.len; omega) (by decide)]; exact hO.2 i c hi⟩ (by rw [mi_n (by decide)]; exact a40) aTL (fun f M2 hR f2 x41 hf => ⟨(hft2.r hm.1 f2).1.fm hm.1 (by simp), fun _ => ?_, (fun z => nomatch z)⟩) (fun W2 ts2 q2 M2 hR f2 hO2 x40 xTL => ⟨(hft2.r hm.1 f2).1.fm hm.1 (by simp), (fun z => nomatch z), fun _ => ?_⟩) <;> rw [nI_add]
  · exact tm101f hw hm hT h6 (hft2.r hm.1 f2) x41 (h f ⟨s, k, v, tl, e, .inr ⟨⟨z, y⟩, hR⟩⟩)
  · subst y z
    have e88 : mi M2 88 = mi (wi M1 88 (4 * T + v) (nI W.length)) 88 := f2.1.row (by have := hF1.len; exact Nat.lt_of_lt_of_le (show 88 < 113 by decide) this) (by decide)
    refine HY s v tl W2 ts2 q2 M2 e rfl hR (hft2.r hm.1 f2) hO2 x40 xTL (fun i _ hi => ?_) (by rw [e88, wi_e])
    rw [e88, wi_f hi, f1.1.row (by have := hF.len; omega) (by decide)]
theorem sM_text {M : Mem} (hw : WF σ) (hm : MA σ M) (h : ∀ M2, SM (tText σ) M M2 → K (pText σ) M2) : Con (d + 6) m_MM_text 0 0 [.ref 78] M (PI K) := by
  have h14 := hm.2.2.2.2.2.1.1
  have h6' : (oTx σ).length ≤ 6 := hw.2.2.2.2.2.1.2.1
  have htp := hw.tp
  have h160 := htp.1
  have hb : ∀ i, byt (oTp σ) i < 256 := byt_256 htp.2
  have t0 : TBm (oTp σ) M := ⟨hm.2.2.2.2.1.1, fun i hi => hm.2.2.2.2.1.2 i _ (byt_at hi)⟩
  unfold tText pText at h
  refine Con.ent (k := 2) F_MM_text.1 rfl (Nat.le_of_ble_eq_true rfl) (k_MM_text_0 hm.1 ?_)
  rw [h14, nI_eq (by omega) (by decide)]
  refine ⟨fun q => ?_, fun q => PI.mk rfl (by
    have := h M (by rw [if_pos q]; exact SM.rf hm)
    rwa [if_pos q] at this)⟩
  rw [if_neg q, if_neg q] at h
  have h6 : (oTx σ).length < 6 := by omega
  have hTL := TL.o (oTp σ)
  have hlen := hTL.k.2
  have hkk := hTL.k.1
  have bad : ∀ f, txtR (oTp σ) = .inl f → ∀ M2, SM (sTp σ []) M M2 → K (-100 - nI f) M2 := fun f e M2 hs => by
    rw [e] at h
    exact h M2 hs
  unfold txtR at bad
  have er : txtR (oTp σ) = txtN (tks (oTp σ) ((oTp σ).length + 1) 0) := rfl
  rw [er] at h
  generalize tks (oTp σ) ((oTp σ).length + 1) 0 = ts0 at *
  have f0 : FTm (oTx σ).length M (wi (wi M 78 40 (nI 0)) 78 48 (nI 0)) := ⟨((FrG.rf _ _).fwi (by simp)).fwi (by simp), fun k hk => by rw [wi_f (by unfold c4 at hk; omega), wi_f (by unfold c4 at hk; omega)], fun i hi => by rw [mi_n (by decide), mi_n (by decide)], fun i hi => by rw [mi_n (by decide), mi_n (by decide)]⟩
  refine tm26 (T := (oTx σ).length) (W := []) (p := 0) (l := 0) hw hm rfl h6 (by decide) f0 (by rw [wi_f (by decide), wi_e]) ⟨wi_e, fun i c hi => by cases hi⟩ hTL (by rw [List.length_nil]; omega) ?_ ?_
  · intro s v tl W2 ts2 q2 M2 e hv hR hft hO x40 xTL o88 c88
    subst hv e
    rw [txtN_c, if_pos ⟨rfl, rfl⟩, hR] at bad h
    obtain ⟨ka, la, ia⟩ := mR_e (fun x hx => hkk x (List.mem_cons_of_mem _ hx)) hR
    rw [List.length_cons] at hlen
    refine tm26 (T := (oTx σ).length) (W := W2) (p := q2) (l := 1) hw hm rfl h6 (by decide) hft x40 hO xTL (by omega) ?_ ?_
    · intro s1 v1 tl1 W3 ts3 q3 M3 e1 hv1 hR1 hft1 hO1 y40 yTL o88b c88b
      subst hv1 e1
      rw [show W2 = W2 ++ [] from (List.append_nil _).symm, mR_pre] at hR1
      cases eR : mR tl1 true true [] [] with
      | inl f => rw [eR] at hR1; cases hR1
      | inr r =>
        obtain ⟨O2, tsx⟩ := r
        rw [eR] at hR1
        injection hR1 with hR1
        injection hR1 with g1 g2
        subst g2
        rw [show txt1 (.inr (W2, (s1, 3, 1) :: tl1)) = txtW W2 ((s1, 3, 1) :: tl1) from rfl, txtW_c, if_pos ⟨rfl, rfl⟩, eR] at bad h
        have hF3 := hft1.1.fm hm.1 (by simp)
        have e101 : Ex (d + 6) m_MM_text 0 0 101 [some (.ref 78), some (.int (nI 1)), some (.int (nI (1 + 1)))] [] M3 (PI K) := by
          refine k_MM_text_101 hF3 ⟨fun z => absurd z (by decide), fun _ => ?_⟩
          refine sm_next h160 hb hF3 (hft1.tb hm.1 t0) (hft1.wd hm.1 hm.2.1) y40 yTL (fun M4 f4 c4' => ⟨f4.1.fm hF3 (by simp), ?_⟩)
          obtain ⟨s4, k4, v4, tl4, e4, g41, g42, g43, g40, hs4⟩ := c4'
          subst e4
          rw [show txt2 W2 (.inr (O2, (s4, k4, v4) :: tl4)) = txt3 W2 O2 ((s4, k4, v4) :: tl4) from rfl, txt3_c] at bad h
          have hk62 : k4 < 62 := kOK_lt (yTL.k.1 (s4, k4, v4) List.mem_cons_self)
          have e0 : mi M4 78 42 = 0 ↔ k4 = 0 := by
            rw [g42]; exact mtk_eq (c := 0) (by omega) (by decide) (by decide)
          have hft4 := hft1.n hm.1 f4
          rw [e0]
          refine ⟨fun z => ?_, fun z => ?_⟩
          · rw [if_neg z] at bad
            exact tm122f hw hm rfl h6 hft4 g41 (bad s4 rfl)
          · rw [if_pos z] at h
            have hF4 := hft4.1.fm hm.1 (by simp)
            have h14b : mi M4 78 14 = nI (oTx σ).length := by rw [hft4.2.1 14 (by unfold c4; omega), h14]
            have r88 : mi M4 88 = mi M3 88 := f4.1.row (by have := hF3.len; omega) (by decide)
            have r87 : mi M4 87 = mi M3 87 := f4.1.row (by have := hF3.len; omega) (by decide)
            have e48 : mi M4 78 48 = nI W3.length := by rw [f4.2 48 (by omega)]; exact hO1.1
            refine k_MM_text_122 hF4 ?_
            rw [h14b, pk_mul, nI_add, nI_clamp (by omega), nI_add, nI_sub1 (by omega), Nat.add_sub_cancel, e48]
            refine ⟨vN (by omega) (by decide), fun _ => PI.mk rfl (h _ ?_), fun y => absurd y (by decide)⟩
            refine MA.textS hm (((hft4.s (by omega)).1.fwi (by simp)).fwi (by simp)) (fun k a b c => by rw [wi_f c, wi_f b, mi_n (by decide)]; exact hft4.2.1 k a) (by rw [wi_f (by decide), wi_e]) ⟨by rw [wi_e]; show _ = nI (oTx σ ++ [(W2, O2)]).length; rw [List.length_append]; rfl, fun i n w hi => ?_⟩
            rcases ap1 (show (oTx σ ++ [(W2, O2)])[i]? = some (n, w) from hi) with ⟨y, y2⟩ | ⟨y, y2⟩
            · exact MT_old (τ := σ) hw hm rfl hft4 (by rw [mi_n (by decide), mi_n (by decide), mi_n (by decide)]) (fun j hj => by rw [mi_n (by decide), mi_n (by decide), wi_f (by omega)]) i n w y2
            · injection y2 with y3 y4
              subst y y3 y4
              refine ⟨?_, ?_, ?_, fun k c hk => ?_⟩
              · rw [mi_n (by decide), mi_n (by decide), wi_f (by omega), r88, o88b _ (by omega) (by omega)]
                exact c88
              · rw [mi_n (by decide), mi_n (by decide), wi_f (by omega), r88]
                exact c88b
              · rw [mi_n (by decide), mi_n (by decide), wi_e, ← g1, List.length_append]
              · rw [mi_n (by decide), mi_n (by decide), mi_n (by decide), r87]
                exact hO1.2 k c (by rw [← g1]; exact hk)
        exact k_MM_text_26 hF3 ⟨fun _ => e101, fun z => absurd (nI_le (by decide) (by decide)) z⟩
    · rintro f ⟨s1, k1, v1, tl1, e1, hh⟩
      subst e1
      refine bad f ?_
      rw [show txt1 (.inr (W2, (s1, k1, v1) :: tl1)) = txtW W2 ((s1, k1, v1) :: tl1) from rfl, txtW_c]
      rcases hh with ⟨z1, z2⟩ | ⟨z1, z2⟩
      · rw [if_neg z1, z2]
      · rw [if_pos z1]
        rw [show W2 = W2 ++ [] from (List.append_nil _).symm, mR_pre] at z2
        cases eR : mR tl1 true true [] [] with
        | inl f2 =>
          rw [eR] at z2
          injection z2 with z2
          rw [← z2]; rfl
        | inr r => rw [eR] at z2; cases z2
  · rintro f ⟨s1, k1, v1, tl1, e1, hh⟩
    subst e1
    refine bad f ?_
    rw [txtN_c]
    rcases hh with ⟨z1, z2⟩ | ⟨z1, z2⟩
    · rw [if_neg z1, z2]
    · rw [if_pos z1, z2]; rfl
end TXM
