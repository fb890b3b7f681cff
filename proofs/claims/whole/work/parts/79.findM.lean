/-! find: m's side -/
theorem p2_sh : ∀ e, e < 7 → ∀ i, i < 7 → i < e → ¬ nI (2 ^ e) >>> (nI i &&& 31) = nI 1 := by decide +kernel
theorem p2_se : ∀ e, e < 7 → nI (2 ^ e) >>> (nI e &&& 31) = nI 1 := by decide +kernel
theorem p2_eq : ∀ a, a < 7 → ∀ b, b < 7 → (nI (2 ^ a) = nI (2 ^ b) ↔ a = b) := by decide +kernel
theorem sm_dayIn {d e : Nat} {M : Mem} {K : Int32 → Mem → Prop} (hF : Fm M) (he : e < 7) (h : K (nI e) M) : Con (d + 1) m_MM_dayIn 0 0 [.int (nI (2 ^ e))] M (PI K) := by
  have go : ∀ (n i : Nat), i + n = e → Ex (d + 1) m_MM_dayIn 0 0 2 [some (.int (nI (2 ^ e))), some (.int (nI i))] [] M (PI K) := by
    intro n
    induction n with
    | zero =>
      intro i hi
      obtain rfl : i = e := by omega
      exact k_MM_dayIn_2 hF ⟨fun _ => PI.mk rfl h, fun q => absurd (p2_se _ he) q⟩
    | succ n ih =>
      intro i hi
      refine k_MM_dayIn_2 hF ⟨fun q => absurd q (p2_sh _ he _ (by omega) (by omega)), fun _ => ?_⟩
      rw [nI_add]
      exact ih (i + 1) (by omega)
  exact Con.ent (k := 1) F_MM_dayIn.1 rfl (Nat.le_of_ble_eq_true rfl) (k_MM_dayIn_0 hF (go e 0 (by omega)))
/-- the marks of a whole way -/
def Wy (σ : St) (D : Nat → Nat) (M : Mem) : Prop := ∀ t, t < oT σ → mi M 109 t = nI (2 ^ D t) ∧ D t < oW σ
section OTH
variable {d bc bs : Nat} {σ : St} {D : Nat → Nat} {M0 : Mem} {K : Int32 → Mem → Prop}
theorem otm4 {i : Nat} {gv : Nat × List Nat} (hw : WF σ) (hF : Fm M0) (hL : MLand σ M0) (hg : GivM M0 i gv) (hi : i < 12) (hgw : GivW (oT σ) gv) (hD : Wy σ D M0) (H : K (nI (otN σ gv.2 D)) M0) : ∀ (n t : Nat), t + n = oT σ → Ex (d + 2) m_MM_others bc bs 4 [some (.ref 78), some (.int (nI i)), some (.int (nI (cntLT (fun t => !decide (numV gv.2 t = nI (D t))) t))), some (.int (nI t))] [] M0 (PI K) := by
  have h6 := hw.T6
  have hW := hw.W
  have hl := hgw.2.1
  intro n
  induction n with
  | zero =>
    intro t ht
    obtain rfl : t = oT σ := by omega
    refine k_MM_others_4 hF ?_
    rw [hL.1]
    exact ⟨fun _ => PI.mk rfl H, fun q => absurd (nI_le (Nat.le_refl _) (by omega)) q⟩
  | succ n ih =>
    intro t ht
    obtain ⟨d1, d2⟩ := hD t (by omega)
    have nx := ih (t + 1) (by omega)
    rw [cnt_s] at nx
    refine k_MM_others_4 hF ?_
    rw [hL.1, nI_clamp (show i < 2 ^ 31 by omega), nI_clamp (show t < 2 ^ 31 by omega), hg.2.1, nI_add t 1, d1, pk_mul, nI_add (6 * i) t]
    refine ⟨fun q => absurd q (by rw [nI_leI (by omega) (by omega)]; omega), fun _ => ⟨vN hi (by decide), fun q => ?_, fun q => ?_⟩⟩
    · rw [nI_leI (by omega) (by omega)] at q
      have e : numV gv.2 t = -1 := by
        unfold numV
        rw [List.getElem?_eq_none_iff.mpr q]
      rw [e, decide_eq_false (by rw [i_eq, i_m1, nI_T (by omega)]; omega), Bool.not_false, if_pos rfl] at nx
      rw [nI_add]; exact nx
    · rw [nI_leI (by omega) (by omega)] at q
      refine ⟨vN (by omega) (by decide), vN (by omega) (by decide), sm_dayIn hF (by omega) ⟨hF, ?_⟩⟩
      have e : mi M0 91 ((nI (6 * i + t)).toNatClampNeg) = numV gv.2 t := by
        rw [nI_clamp (by omega), hg.2.2 t (gv.2[t]'(by omega)) (List.getElem?_eq_getElem (by omega))]
        unfold numV
        rw [List.getElem?_eq_getElem (by omega)]
      rw [e]
      refine ⟨fun q2 => ?_, fun q2 => ?_⟩
      · rw [decide_eq_false q2, Bool.not_false, if_pos rfl] at nx
        rw [nI_add]; exact nx
      · rw [decide_eq_true q2, Bool.not_true, if_neg (by decide)] at nx
        rw [nI_add]; exact nx
theorem sm_others {i : Nat} {gv : Nat × List Nat} (hw : WF σ) (hF : Fm M0) (hL : MLand σ M0) (hg : GivM M0 i gv) (hi : i < 12) (hgw : GivW (oT σ) gv) (hD : Wy σ D M0) (H : K (nI (otN σ gv.2 D)) M0) : Con (d + 2) m_MM_others 0 0 [.ref 78, .int (nI i)] M0 (PI K) :=
  Con.ent (k := 2) F_MM_others.1 rfl (Nat.le_of_ble_eq_true rfl) (k_MM_others_0 hF (otm4 hw hF hL hg hi hgw hD H (oT σ) 0 (by omega)))
def kwN (t e h o : Nat) : Nat := (((t * 7 + e) * 100 + h) * 7 + o)
theorem kwN_lt {t e h o : Nat} (h1 : t < 6) (h2 : e < 7) (h3 : h < 100) (h4 : o < 7) : kwN t e h o < 29400 := by unfold kwN; omega
theorem kwN_inj {t e h o t2 e2 g2 o2 : Nat} (h2 : e < 7) (h3 : h < 100) (h4 : o < 7) (x2 : e2 < 7) (x3 : g2 < 100) (x4 : o2 < 7) (q : kwN t e h o = kwN t2 e2 g2 o2) : t = t2 ∧ e = e2 ∧ h = g2 ∧ o = o2 := by unfold kwN at q; omega
def CW (σ : St) (M : Mem) : Prop := ∀ t e h o, t < oT σ → e < 7 → h < 100 → o < 7 → ¬ mi M 111 (kwN t e h o) = 0 → mi M 110 (kwN t e h o) = worthV σ t e h o
def LK : List Nat := [106, 107, 110, 111]
theorem sm_keptWorth {t e h o : Nat} (hw : WF σ) (hF : Fm M0) (hL : MLand σ M0) (hT : MText σ M0) (hC : CW σ M0) (ht : t < oT σ) (he : e < 7) (hh : h < 100) (ho : o < 7) (H : ∀ M2, FrG LK [] M0 M2 → CW σ M2 → K (worthV σ t e h o) M2) : Con (d + 4) m_MM_keptWorth 0 0 [.ref 78, .int (nI t), .int (nI e), .int (nI h), .int (nI o)] M0 (PI K) := by
  have h6 := hw.T6
  have hl := hF.len
  have hi := kwN_lt (t := t) (by omega) he hh ho
  have ei : ((((nI t * nI 7 + nI e) * nI 100 + nI h) * nI 7) + nI o) = nI (kwN t e h o) := by
    simp only [pk_mul, nI_add]
    rfl
  refine Con.ent (k := 1) F_MM_keptWorth.1 rfl (Nat.le_of_ble_eq_true rfl) (k_MM_keptWorth_0 hF ?_)
  simp only [ei]
  rw [nI_clamp (show kwN t e h o < 2 ^ 31 by omega)]
  have hv : vp_in (nI (kwN t e h o)) 29400 := vN hi (by decide)
  refine ⟨hv, fun q => ⟨hv, PI.mk (hC t e h o ht he hh ho q) (H M0 (FrG.rf _ _) hC)⟩, fun _ => ?_⟩
  refine sm_worthBy hF hw hL hT ht (fun M2 hF2 f2 => ⟨hF2, hv, hv, hv, PI.mk wi_e (H _ (((f2.wk (by unfold LK; simp) (by simp)).fwi (by decide)).fwi (by decide)) ?_)⟩)
  intro t2 e2 h2 o2 a1 a2 a3 a4 hq
  rw [mi_w] at hq
  rw [mi_n (by decide), mi_w]
  by_cases y : kwN t2 e2 h2 o2 = kwN t e h o
  · obtain ⟨rfl, rfl, rfl, rfl⟩ := kwN_inj a2 a3 a4 he hh ho y
    rw [u1_s]
  · rw [u1_n y] at hq
    rw [u1_n y]
    rw [mi_n (by decide), f2.row (by omega) (by decide)] at hq
    rw [f2.row (by omega) (by decide)]
    exact hC t2 e2 h2 o2 a1 a2 a3 a4 hq
/-- what worthWay reads -/
def WP (σ : St) (D : Nat → Nat) (M : Mem) : Prop := Fm M ∧ MLand σ M ∧ MText σ M ∧ F103 σ M ∧ CW σ M ∧ Wy σ D M
theorem WP.k {M : Mem} (h : WP σ D M0) (f : FrG LK [] M0 M) (hC : CW σ M) : WP σ D M := by
  obtain ⟨h1, h2, h3, h4, h5, h6⟩ := h
  have hl := h1.len
  have fM := f.M h1 rfl
  refine ⟨f.fm h1 (by simp), h2.fr fM, h3.fr fM, ?_, hC, ?_⟩
  · unfold F103; rw [f.row (by omega) (by decide)]; exact h4
  · unfold Wy; rw [f.row (by omega) (by decide)]; exact h6
theorem ww49 {t : Nat} {S : Int32} (hw : WF σ) (h0 : WP σ D M0) (ht : t < oT σ) (H : ∀ M2, WP σ D M2 → FrG LK [] M0 M2 → Ex (d + 5) m_MM_worthWay bc bs 4 [some (.ref 78), some (.int (S + worthV σ t (D t) (hwV σ D t) (owV σ D t))), some (.int (nI (t + 1))), none, none, none, none, none] [] M2 (PI K)) :
    ∀ (n o : Nat), o + n = oT σ → Ex (d + 5) m_MM_worthWay bc bs 49 [some (.ref 78), some (.int S), some (.int (nI t)), some (.int (nI (D t))), some (.int (nI (2 ^ dB (oW σ) (D t)))), some (.int (nI (minLT (fun o => decide (o ≠ t) && decide (D o = dB (oW σ) (D t))) (fun o => far (oT σ) (oRd σ) t o) o))), some (.int (nI (cntLT (fun o => decide (o ≠ t) && decide (D o = D t)) o))), some (.int (nI o))] [] M0 (PI K) := by
  obtain ⟨hF, hL, hT, h3, hC, hD⟩ := id h0
  have h6 := hw.T6
  have hW := hw.W
  obtain ⟨d1, d2⟩ := hD t ht
  have hb := dB_lt (W := oW σ) (d := D t) (by omega)
  intro n
  induction n with
  | zero =>
    intro o ho
    obtain rfl : o = oT σ := by omega
    have hm := min_le (fun o => decide (o ≠ t) && decide (D o = dB (oW σ) (D t))) (fun o => far (oT σ) (oRd σ) t o) (oT σ)
    have hc := cnt_le (fun o => decide (o ≠ t) && decide (D o = D t)) (oT σ)
    refine k_MM_worthWay_49 hF ?_
    rw [hL.1]
    refine ⟨fun _ => sm_keptWorth hw hF hL hT hC ht (by omega) (by omega) (by omega) (fun M2 f2 c2 => ⟨f2.fm hF (by simp), ?_⟩), fun q => absurd (nI_le (Nat.le_refl _) (by omega)) q⟩
    rw [nI_add]
    exact H M2 (h0.k f2 c2) f2
  | succ n ih =>
    intro o ho
    have hoT : o < oT σ := by omega
    obtain ⟨e1, e2⟩ := hD o hoT
    have hm := min_le (fun o => decide (o ≠ t) && decide (D o = dB (oW σ) (D t))) (fun o => far (oT σ) (oRd σ) t o) o
    have hf := hw.far t o
    have nx := ih (o + 1) (by omega)
    rw [min_s, cnt_s] at nx
    have hx : mi M0 103 ((nI 6 * nI t + nI o).toNatClampNeg) = nI (far (oT σ) (oRd σ) t o) := by
      rw [pk_mul, nI_add, nI_clamp (by omega)]
      exact h3 t o (by omega) (by omega)
    have hv36 : vp_in (nI 6 * nI t + nI o) 36 := by
      rw [pk_mul, nI_add]
      exact vN (by omega) (by decide)
    have vo : vp_in (nI o) 6 := vN (by omega) (by decide)
    have vt : vp_in (nI t) 6 := vN (by omega) (by decide)
    -- the count, by the day
    have cnt : ∀ m : Nat, m = (if (decide (o ≠ t) && decide (D o = dB (oW σ) (D t))) = true then min (minLT (fun o => decide (o ≠ t) && decide (D o = dB (oW σ) (D t))) (fun o => far (oT σ) (oRd σ) t o) o) (far (oT σ) (oRd σ) t o) else minLT (fun o => decide (o ≠ t) && decide (D o = dB (oW σ) (D t))) (fun o => far (oT σ) (oRd σ) t o) o) →
        (o = t → Ex (d + 5) m_MM_worthWay bc bs 49 [some (.ref 78), some (.int S), some (.int (nI t)), some (.int (nI (D t))), some (.int (nI (2 ^ dB (oW σ) (D t)))), some (.int (nI m)), some (.int (nI (cntLT (fun o => decide (o ≠ t) && decide (D o = D t)) o) + nI 0)), some (.int (nI o + nI 1))] [] M0 (PI K)) ∧
        (¬ o = t → (¬ nI (2 ^ D o) = nI (2 ^ D t) → Ex (d + 5) m_MM_worthWay bc bs 49 [some (.ref 78), some (.int S), some (.int (nI t)), some (.int (nI (D t))), some (.int (nI (2 ^ dB (oW σ) (D t)))), some (.int (nI m)), some (.int (nI (cntLT (fun o => decide (o ≠ t) && decide (D o = D t)) o) + nI 0)), some (.int (nI o + nI 1))] [] M0 (PI K)) ∧
        (nI (2 ^ D o) = nI (2 ^ D t) → Ex (d + 5) m_MM_worthWay bc bs 49 [some (.ref 78), some (.int S), some (.int (nI t)), some (.int (nI (D t))), some (.int (nI (2 ^ dB (oW σ) (D t)))), some (.int (nI m)), some (.int (nI (cntLT (fun o => decide (o ≠ t) && decide (D o = D t)) o) + nI 1)), some (.int (nI o + nI 1))] [] M0 (PI K))) := by
      intro m em
      rw [← em] at nx
      simp only [nI_add]
      refine ⟨fun q => ?_, fun q => ⟨fun q2 => ?_, fun q2 => ?_⟩⟩
      · rw [if_neg (show ¬ (decide (o ≠ t) && decide (D o = D t)) = true by rw [decide_eq_false (by omega), Bool.false_and]; decide)] at nx
        exact nx
      · rw [p2_eq _ (by omega) _ (by omega)] at q2
        rw [if_neg (show ¬ (decide (o ≠ t) && decide (D o = D t)) = true by rw [decide_eq_false q2, Bool.and_false]; decide)] at nx
        exact nx
      · rw [p2_eq _ (by omega) _ (by omega)] at q2
        rw [if_pos (show (decide (o ≠ t) && decide (D o = D t)) = true by rw [decide_eq_true q2, decide_eq_true q]; rfl)] at nx
        exact nx
    have s108 : minLT (fun o => decide (o ≠ t) && decide (D o = dB (oW σ) (D t))) (fun o => far (oT σ) (oRd σ) t o) o = (if (decide (o ≠ t) && decide (D o = dB (oW σ) (D t))) = true then min (minLT (fun o => decide (o ≠ t) && decide (D o = dB (oW σ) (D t))) (fun o => far (oT σ) (oRd σ) t o) o) (far (oT σ) (oRd σ) t o) else minLT (fun o => decide (o ≠ t) && decide (D o = dB (oW σ) (D t))) (fun o => far (oT σ) (oRd σ) t o) o) →
        Ex (d + 5) m_MM_worthWay bc bs 108 [some (.ref 78), some (.int S), some (.int (nI t)), some (.int (nI (D t))), some (.int (nI (2 ^ dB (oW σ) (D t)))), some (.int (nI (minLT (fun o => decide (o ≠ t) && decide (D o = dB (oW σ) (D t))) (fun o => far (oT σ) (oRd σ) t o) o))), some (.int (nI (cntLT (fun o => decide (o ≠ t) && decide (D o = D t)) o))), some (.int (nI o))] [] M0 (PI K) := by
      intro em
      obtain ⟨c1, c2⟩ := cnt _ em
      refine k_MM_worthWay_108 hF ?_
      rw [nI_clamp (show o < 2 ^ 31 by omega), nI_clamp (show t < 2 ^ 31 by omega), e1, d1, nI_eq (by omega) (by omega)]
      exact ⟨c1, fun q => ⟨vo, vt, c2 q⟩⟩
    refine k_MM_worthWay_49 hF ?_
    rw [hL.1, hx, nI_clamp (show o < 2 ^ 31 by omega), nI_clamp (show t < 2 ^ 31 by omega), e1, d1, nI_eq (show o < 2 ^ 31 by omega) (show t < 2 ^ 31 by omega)]
    refine ⟨fun q => absurd q (by rw [nI_leI (by omega) (by omega)]; omega), fun _ => ⟨fun q => s108 ?_, fun q => ⟨vo, fun q2 => s108 ?_, fun q2 => ⟨hv36, fun q3 => s108 ?_, fun q3 => ⟨hv36, ?_⟩⟩⟩⟩⟩
    · rw [if_neg (by rw [decide_eq_false (by omega), Bool.false_and]; decide)]
    · rw [p2_eq _ (by omega) _ (by omega)] at q2
      rw [if_neg (by rw [decide_eq_false q2, Bool.and_false]; decide)]
    · rw [p2_eq _ (by omega) _ (by omega)] at q2
      rw [nI_leI (by omega) (by omega)] at q3
      rw [if_pos (by rw [decide_eq_true q2, decide_eq_true q]; rfl), Nat.min_eq_left q3]
    · rw [p2_eq _ (by omega) _ (by omega)] at q2
      rw [nI_leI (by omega) (by omega)] at q3
      obtain ⟨c1, c2⟩ := cnt (far (oT σ) (oRd σ) t o) (by rw [if_pos (by rw [decide_eq_true q2, decide_eq_true q]; rfl), Nat.min_eq_right (by omega)])
      exact ⟨c1, fun z => ⟨vo, vt, c2 z⟩⟩
theorem ww4 (hw : WF σ) (H : ∀ M2, WP σ D M2 → FrG LK [] M0 M2 → K (wwV σ D) M2) : ∀ (n t : Nat) (M : Mem), t + n = oT σ → WP σ D M → FrG LK [] M0 M → Ex (d + 5) m_MM_worthWay bc bs 4 [some (.ref 78), some (.int (sumI (fun _ => true) (fun t => worthV σ t (D t) (hwV σ D t) (owV σ D t)) t)), some (.int (nI t)), none, none, none, none, none] [] M (PI K) := by
  have h6 := hw.T6
  have hW := hw.W
  intro n
  induction n with
  | zero =>
    intro t M ht h0 hfr
    obtain rfl : t = oT σ := by omega
    refine k_MM_worthWay_4 h0.1 ?_
    rw [h0.2.1.1]
    exact ⟨fun _ => PI.mk rfl (H M h0 hfr), fun q => absurd (nI_le (Nat.le_refl _) (by omega)) q⟩
  | succ n ih =>
    intro t M ht h0 hfr
    obtain ⟨hF, hL, hT, h3, hC, hD⟩ := id h0
    obtain ⟨d1, d2⟩ := hD t (by omega)
    have hb := dB_lt (W := oW σ) (d := D t) (by omega)
    refine k_MM_worthWay_4 hF ?_
    rw [hL.1, nI_clamp (show t < 2 ^ 31 by omega), d1]
    refine ⟨fun q => absurd q (by rw [nI_leI (by omega) (by omega)]; omega), fun _ => ⟨vN (by omega) (by decide), sm_dayIn hF (by omega) ⟨hF, ?_⟩⟩⟩
    rw [hL.2.1, before_N d2 (by omega), one_N (by omega)]
    refine ⟨by rw [i_eq, i_0, nI_T (by omega)]; omega, ?_⟩
    refine ww49 hw h0 (by omega) (fun M2 p2 f2 => ?_) (oT σ) 0 (by omega)
    have := ih (t + 1) M2 (by omega) p2 (hfr.tr f2)
    rw [sum_s, if_pos rfl] at this
    exact this
theorem sm_worthWay (hw : WF σ) (h0 : WP σ D M0) (H : ∀ M2, WP σ D M2 → FrG LK [] M0 M2 → K (wwV σ D) M2) : Con (d + 5) m_MM_worthWay 0 0 [.ref 78] M0 (PI K) :=
  Con.ent (k := 7) F_MM_worthWay.1 rfl (Nat.le_of_ble_eq_true rfl) (k_MM_worthWay_0 h0.1 (ww4 hw H (oT σ) 0 M0 (by omega) h0 (FrG.rf _ _)))
end OTH
