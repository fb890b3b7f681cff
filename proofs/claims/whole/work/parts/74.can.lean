/-! can, least, both sides -/
theorem memT_63 : ∀ T, T < 7 → memT T 63 = List.range T ∧ memT T (2 ^ T - 1) = List.range T := by decide
def waysV (σ : St) (W : Nat) : List (List (Nat × Nat)) := exW σ W (List.range (oT σ)) []
theorem rg_len {T : Nat} : (List.range T).length = T := List.length_range
theorem rg_at {T j : Nat} (h : j < T) : (List.range T).getD j 0 = j := by
  rw [List.getD_eq_getElem?_getD, List.getElem?_range h]; rfl
theorem rg_in {T : Nat} : incr (List.range T) := fun i j h1 h2 => by
  rw [rg_len] at h2
  rw [rg_at (by omega), rg_at h2]; exact h1
theorem rg_T {T : Nat} : ∀ j, j < (List.range T).length → (List.range T).getD j 0 < T := fun j h => by
  rw [rg_len] at h
  rw [rg_at h]; exact h
def LW : List Nat := [48, 49, 58, 59, 60, 61, 62]
def pCan (σ : St) : Int32 := nI (min 100000 (waysV σ (oW σ)).length)
theorem sx_start {d m : Nat} {W : Nat} {σ : St} {M : Mem} {K : Mem → Prop} (hw : WF σ) (hm : m < 128) (hW : W ≤ 7) (h0 : YX σ M) (hnr : NrX σ W M) (h : ∀ M2, ItX σ W (memT (oT σ) m) false (exW σ W (memT (oT σ) m) []) M2 → FrG LW [] M M2 → K M2) : Con (d + 2) m_Ways_begin 0 0 [.ref 58, .int (nI m)] M (PV K) := by
  have hl := h0.1.len
  refine sx_begin hw hm h0 (fun M2 y2 f2 c2 g8 g2 => h M2 ⟨⟨y2, ⟨by rw [c2 2 (by decide) (by decide)]; exact hnr.1, ?_⟩, g2⟩, g8, rfl⟩ (f2.wk (by unfold LW; simp) (by simp)))
  rw [f2.row (j := 59) (by omega) (by decide)]
  exact hnr.2
theorem ItX.yx {σ : St} {W : Nat} {ts : List Nat} {b : Bool} {L : List (List (Nat × Nat))} {M : Mem} (h : ItX σ W ts b L M) : BX σ W ts M := h.1
section CAN
variable {d bc bs : Nat} {σ : St} {M0 : Mem} {K : Int32 → Mem → Prop}
theorem cw25 (hw : WF σ) (H : ∀ M2, YX σ M2 → FrG LW [] M0 M2 → K (pCan σ) M2) : ∀ (L : List (List (Nat × Nat))) (c : Nat) (b : Bool) (M : Mem), c ≤ 100000 → ItX σ (oW σ) (List.range (oT σ)) b L M → FrG LW [] M0 M → pCan σ = nI (min 100000 (c + L.length)) → Ex (d + 4) m_Finder_countWays bc bs 25 [some (.ref 53), some (.int (nI c))] [] M (PI K) := by
  have h6 := hw.T6
  have hW := hw.W
  intro L
  induction L with
  | nil =>
    intro c b M hc h0 hfr hp
    have hB := h0.yx
    refine k_Finder_countWays_25 hB.1.1 ⟨fun q => PI.mk ?_ (H M hB.1 hfr), fun q => ?_⟩
    · rw [nI_leI (by omega) (by omega)] at q
      rw [hp]
      congr 1
      simp only [List.length_nil]
      omega
    · rw [nI_leI (by omega) (by omega)] at q
      refine sx_next hw hW rg_in rg_T (by rw [rg_len]; omega) h0 (fun _ M2 b2 f2 => ⟨b2.1.1, fun _ => PI.mk ?_ (H M2 b2.1 (hfr.tr (f2.wk (by unfold LW; simp) (by simp)))), (fun z => nomatch z)⟩) (fun w L2 M2 hL => by cases hL)
      rw [hp]
      congr 1
      simp only [List.length_nil]
      omega
  | cons w L ih =>
    intro c b M hc h0 hfr hp
    have hB := h0.yx
    rw [List.length_cons] at hp
    refine k_Finder_countWays_25 hB.1.1 ⟨fun q => PI.mk ?_ (H M hB.1 hfr), fun q => ?_⟩
    · rw [nI_leI (by omega) (by omega)] at q
      rw [hp]
      congr 1
      omega
    · rw [nI_leI (by omega) (by omega)] at q
      refine sx_next hw hW rg_in rg_T (by rw [rg_len]; omega) h0 (fun hL => by cases hL) (fun w2 L2 M2 hL i2 f2 _ => ⟨i2.yx.1.1, (fun z => nomatch z), fun _ => ?_⟩)
      injection hL with e1 e2
      subst e1 e2
      rw [nI_add]
      refine ih (c + 1) true M2 (by omega) i2 (hfr.tr (f2.wk (by unfold LW; simp) (by simp))) ?_
      rw [hp]
      congr 2
      omega
theorem sX_can {M : Mem} (hw : WF σ) (hx : XA σ M) (h : ∀ M2, SX σ M M2 → K (pCan σ) M2) : Con (d + 6) m_MD_can 0 0 [.ref 0] M (PI K) := by
  obtain ⟨hF, hL, -, -, hT, -⟩ := id hx
  have h6 := hw.T6
  have hW := hw.W
  refine Con.of (lo := [some (.ref 0)]) F_MD_can.1 rfl (Nat.le_of_ble_eq_true rfl) (k_MD_can_0 hF ?_)
  refine Con.ent (k := 1) F_Finder_countWays.1 rfl (Nat.le_of_ble_eq_true rfl) (k_Finder_countWays_0 hF ?_)
  rw [hL.2.1]
  refine sx_suppose hw hW.2 ⟨hF, hL, hT⟩ (fun M2 y2 f2 n2 => ⟨y2.1, ?_⟩)
  refine sx_start (m := 63) hw (by decide) hW.2 y2 n2 (fun M3 i3 f3 => ⟨i3.yx.1.1, ?_⟩)
  rw [(memT_63 (oT σ) (by omega)).1] at i3
  refine cw25 (K := fun r M => Fx M ∧ PI K (some (.int r)) M) hw (fun M4 y4 f4 => ⟨y4.1, PI.mk rfl (h M4 (hx.q hw f4 y4.1 (by decide) rfl))⟩) _ 0 false M3 (by omega) i3 ((f2.wk (by unfold LW; simp) (by simp)).tr f3) ?_
  unfold pCan waysV
  rw [Nat.zero_add]
def LN : List Nat := [103, 106, 107, 108, 109]
theorem sm_all {M : Mem} (hw : WF σ) (hF : Fm M) (hL : MLand σ M) (h : K (nI (2 ^ oT σ - 1)) M) : Con (d + 1) m_MM_all 0 0 [.ref 78] M (PI K) := by
  have h6 := hw.T6
  have hp := Nat.two_pow_pos (oT σ)
  refine Con.of (lo := [some (.ref 78)]) F_MM_all.1 rfl (Nat.le_of_ble_eq_true rfl) (k_MM_all_0 hF ?_)
  rw [hL.1, one_N (by omega), nI_sub1 (by omega)]
  exact PI.mk rfl h
theorem pa_lt {T : Nat} (h : T ≤ 6) : 2 ^ T - 1 < 128 := by
  have := Nat.pow_le_pow_right (n := 2) (by decide) h
  omega
theorem ItM.g {m : Nat} {L : List (List (Nat × Nat))} {M : Mem} (h : ItM σ m L M) : GM σ M := by
  obtain ⟨D, f, h1, -⟩ := h
  exact h1.g
theorem cm16 (hw : WF σ) (H : ∀ M2, GM σ M2 → FrG LN [] M0 M2 → K (pCan σ) M2) : ∀ (L : List (List (Nat × Nat))) (c : Nat) (M : Mem), c ≤ 100000 → ItM σ (2 ^ oT σ - 1) L M → FrG LN [] M0 M → pCan σ = nI (min 100000 (c + 1 + L.length)) → Ex (d + 5) m_MM_can bc bs 16 [some (.ref 78), some (.int (nI c)), some (.int (b2i true))] [] M (PI K) := by
  have h6 := hw.T6
  intro L
  induction L with
  | nil =>
    intro c M hc h0 hfr hp
    have hG := h0.g
    refine k_MM_can_16 hG.1 ⟨fun q => absurd q (by decide), fun _ => ⟨fun q => PI.mk ?_ (H M hG hfr), fun q => ?_⟩⟩
    · rw [nI_leI (by omega) (by omega)] at q
      rw [hp]
      congr 1
      simp only [List.length_nil]
      omega
    · rw [nI_leI (by omega) (by omega)] at q
      refine sm_all hw hG.1 hG.2.1 ⟨hG.1, ?_⟩
      refine sm_nextC hw (pa_lt h6) h0 (fun _ M2 g2 f2 => ⟨g2.1, ?_⟩) (fun w L2 M2 D hL => by cases hL)
      rw [nI_add]
      refine k_MM_can_16 g2.1 ⟨fun _ => PI.mk ?_ (H M2 g2 (hfr.tr (f2.wk (by unfold LN; simp) (by simp)))), fun q => absurd rfl q⟩
      rw [hp]
      congr 1
      simp only [List.length_nil]
      omega
  | cons w L ih =>
    intro c M hc h0 hfr hp
    have hG := h0.g
    rw [List.length_cons] at hp
    refine k_MM_can_16 hG.1 ⟨fun q => absurd q (by decide), fun _ => ⟨fun q => PI.mk ?_ (H M hG hfr), fun q => ?_⟩⟩
    · rw [nI_leI (by omega) (by omega)] at q
      rw [hp]
      congr 1
      omega
    · rw [nI_leI (by omega) (by omega)] at q
      refine sm_all hw hG.1 hG.2.1 ⟨hG.1, ?_⟩
      refine sm_nextC hw (pa_lt h6) h0 (fun hL => by cases hL) (fun w2 L2 M2 D hL i2 f2 _ _ => ⟨i2.g.1, ?_⟩)
      injection hL with e1 e2
      subst e1 e2
      rw [nI_add]
      refine ih (c + 1) M2 (by omega) i2 (hfr.tr (f2.wk (by unfold LN; simp) (by simp))) ?_
      rw [hp]
      congr 2
      omega
theorem sM_can {M : Mem} (hw : WF σ) (hm : MA σ M) (h : ∀ M2, SM σ M M2 → K (pCan σ) M2) : Con (d + 5) m_MM_can 0 0 [.ref 78] M (PI K) := by
  obtain ⟨hF, -, hL, -, -, hT, -⟩ := id hm
  have h6 := hw.T6
  refine Con.ent (k := 2) F_MM_can.1 rfl (Nat.le_of_ble_eq_true rfl) (k_MM_can_0 hF ?_)
  refine sm_looks hF hw hL hT (fun M2 hF2 f2 g103 g108 => ⟨hF2, ?_⟩)
  have fM := f2.M hF rfl
  have G2 : GM σ M2 := ⟨hF2, hL.fr fM, hT.fr fM, g108⟩
  have fr2 : FrG LN [] M M2 := f2.wk (by unfold LN; simp) (by simp)
  have e : exW σ (oW σ) (memT (oT σ) (2 ^ oT σ - 1)) [] = waysV σ (oW σ) := by rw [(memT_63 (oT σ) (by omega)).2]; rfl
  have H : ∀ M2, GM σ M2 → FrG LN [] M M2 → K (pCan σ) M2 := fun M2 g2 f2 => h M2 (hm.q f2 g2.1 (by decide))
  refine sm_all hw hF2 G2.2.1 ⟨hF2, ?_⟩
  refine sm_nextB hw (pa_lt h6) G2 (fun hL M3 g3 f3 => ⟨g3.1, ?_⟩) (fun w L2 M3 D hL i3 f3 _ _ => ⟨i3.g.1, ?_⟩)
  · refine k_MM_can_16 g3.1 ⟨fun _ => PI.mk ?_ (H M3 g3 (fr2.tr (f3.wk (by unfold LN; simp) (by simp)))), fun q => absurd rfl q⟩
    rw [e] at hL
    unfold pCan
    rw [hL]; rfl
  · refine cm16 (M0 := M) hw H L2 0 M3 (by omega) i3 (fr2.tr (f3.wk (by unfold LN; simp) (by simp))) ?_
    rw [e] at hL
    unfold pCan
    rw [hL, List.length_cons]
    congr 2
    omega
def lsF (σ : St) : Nat → Nat → Int32
  | 0, _ => -1
  | k + 1, e => match waysV σ e with
    | [] => lsF σ k (e + 1)
    | _ :: _ => nI e
def pLeast (σ : St) : Int32 := lsF σ 6 2
theorem lsF_n {k e : Nat} (h : waysV σ e = []) : lsF σ (k + 1) e = lsF σ k (e + 1) := by
  rw [lsF, h]
theorem lsF_s {k e : Nat} {w : List (Nat × Nat)} {L : List (List (Nat × Nat))} (h : waysV σ e = w :: L) : lsF σ (k + 1) e = nI e := by
  rw [lsF, h]
theorem sx_isWay {m W : Nat} {M : Mem} {K : Bool → Mem → Prop} (hw : WF σ) (hm : m < 128) (hW : 2 ≤ W ∧ W ≤ 7) (h0 : YX σ M) (hnr : NrX σ W M) (h1 : exW σ W (memT (oT σ) m) [] = [] → ∀ M2, YX σ M2 → NrX σ W M2 → FrG LW [] M M2 → K false M2) (h2 : ∀ w L, exW σ W (memT (oT σ) m) [] = w :: L → ∀ M2, YX σ M2 → NrX σ W M2 → FrG LW [] M M2 → K true M2) : Con (d + 4) m_Finder_isWay 0 0 [.ref 53, .int (nI m)] M (PB K) := by
  have h6 := hw.T6
  refine Con.of (lo := [some (.ref 53), some (.int (nI m))]) F_Finder_isWay.1 rfl (Nat.le_of_ble_eq_true rfl) (k_Finder_isWay_0 h0.1 ?_)
  refine sx_start hw hm hW.2 h0 hnr (fun M2 i2 f2 => ⟨i2.yx.1.1, ?_⟩)
  have hlen : (memT (oT σ) m).length ≤ oT σ := memT_len _
  refine sx_next hw hW (memT_in _) (fun j hj => memT_lt (gD_in hj)) (by omega) i2 (fun hL M3 b3 f3 => ⟨b3.1.1, PB.mk rfl (h1 hL M3 b3.1 b3.2.1 (f2.tr (f3.wk (by unfold LW; simp) (by simp))))⟩) (fun w L2 M3 hL i3 f3 _ => ⟨i3.yx.1.1, PB.mk rfl (h2 w L2 hL M3 i3.yx.1 i3.yx.2.1 (f2.tr (f3.wk (by unfold LW; simp) (by simp))))⟩)
theorem fwd2 (hw : WF σ) (H : ∀ M2, YX σ M2 → FrG LW [] M0 M2 → K (pLeast σ) M2) : ∀ (n e : Nat) (M : Mem), e + n = 8 → 2 ≤ e → YX σ M → FrG LW [] M0 M → pLeast σ = lsF σ n e → Ex (d + 5) m_Finder_fewestDays bc bs 2 [some (.ref 53), some (.int (nI e))] [] M (PI K) := by
  have h6 := hw.T6
  intro n
  induction n with
  | zero =>
    intro e M he h2 h0 hfr hp
    obtain rfl : e = 8 := by omega
    refine k_Finder_fewestDays_2 h0.1 ⟨fun _ => PI.mk ?_ (H M h0 hfr), fun q => absurd (by decide) q⟩
    rw [hp]; rfl
  | succ n ih =>
    intro e M he h2 h0 hfr hp
    refine k_Finder_fewestDays_2 h0.1 ⟨fun q => absurd q (nI_nlt (by omega) (by omega)), fun _ => ?_⟩
    refine sx_suppose hw (show e ≤ 7 by omega) h0 (fun M2 y2 f2 n2 => ⟨y2.1, ?_⟩)
    have fr2 := hfr.tr (f2.wk (L2 := LW) (R2 := []) (by unfold LW; simp) (by simp))
    refine sx_isWay (m := 63) hw (by decide) ⟨h2, by omega⟩ y2 n2 (fun hL M3 y3 _ f3 => ⟨y3.1, fun _ => ?_, (fun z => nomatch z)⟩) (fun w L hL M3 y3 _ f3 => ⟨y3.1, (fun z => nomatch z), fun _ => PI.mk ?_ (H M3 y3 (fr2.tr f3))⟩) <;> rw [(memT_63 (oT σ) (by omega)).1] at hL
    · rw [nI_add]
      exact ih (e + 1) M3 (by omega) (by omega) y3 (fr2.tr f3) (by rw [hp, lsF_n hL])
    · rw [hp, lsF_s hL]
theorem sX_least {M : Mem} (hw : WF σ) (hx : XA σ M) (h : ∀ M2, SX σ M M2 → K (pLeast σ) M2) : Con (d + 6) m_MD_least 0 0 [.ref 0] M (PI K) := by
  obtain ⟨hF, hL, -, -, hT, -⟩ := id hx
  refine Con.of (lo := [some (.ref 0)]) F_MD_least.1 rfl (Nat.le_of_ble_eq_true rfl) (k_MD_least_0 hF ?_)
  refine Con.ent (k := 1) F_Finder_fewestDays.1 rfl (Nat.le_of_ble_eq_true rfl) (k_Finder_fewestDays_0 hF ?_)
  exact fwd2 (M0 := M) (K := fun r M => Fx M ∧ PI K (some (.int r)) M) hw (fun M4 y4 f4 => ⟨y4.1, PI.mk rfl (h M4 (hx.q hw f4 y4.1 (by decide) rfl))⟩) 6 2 M rfl (Nat.le_refl _) ⟨hF, hL, hT⟩ (FrG.rf _ _) rfl
theorem opn_W {n W t : Nat} {q : List (Nat × Nat)} : opn (sW σ n) W q t = opn σ W q t := rfl
theorem exW_W {n W : Nat} : ∀ (ts : List Nat) (q : List (Nat × Nat)), exW (sW σ n) W ts q = exW σ W ts q
  | [], q => rfl
  | t :: ts, q => by
    rw [exW_s, exW_s, opn_W]
    congr 1
    funext d
    exact exW_W ts _
theorem WF.sW {n : Nat} (h : WF σ) (hn : 2 ≤ n ∧ n ≤ 7) : WF (sW σ n) := by
  obtain ⟨x0, b, c, x, r⟩ := h
  exact ⟨x0, hn, c, x, r⟩
theorem MLand.w {n : Nat} {M : Mem} (h : MLand σ M) : MLand (sW σ n) (wi M 78 6 (nI n)) := by
  obtain ⟨g1, g2, g3, g4, g5, g6, g7⟩ := h
  have nr : ∀ i, i ≠ 78 → mi (wi M 78 6 (nI n)) i = mi M i := fun i hi => mi_n hi
  refine ⟨by rw [wi_f (by decide)]; exact g1, wi_e, by rw [wi_f (by decide)]; exact g3, by rw [wi_f (by decide)]; exact g4, ?_, ?_, ?_⟩
  · rw [nr 79 (by decide), nr 80 (by decide), nr 81 (by decide), nr 82 (by decide)]; exact g5
  · rw [nr 83 (by decide)]; exact g6
  · rw [nr 84 (by decide), nr 85 (by decide)]; exact g7
def L78 : List Nat := [78, 103, 106, 107, 108, 109]
theorem lsm9 (hw : WF σ) (hm : MA σ M0) (H : ∀ M2, SM σ M0 M2 → K (pLeast σ) M2) : ∀ (n e : Nat) (v : Int32) (W : Nat) (M : Mem), e + n = 8 → 2 ≤ e → Fm M → MLand (sW σ W) M → MText σ M → FrG L78 [] M0 M → (∀ k, k ≠ 6 → mi M 78 k = mi M0 78 k) → pLeast σ = (if v = -1 then lsF σ n e else v) → Ex (d + 5) m_MM_least bc bs 9 [some (.ref 78), some (.int (nI (oW σ))), some (.int v), some (.int (nI e))] [] M (PI K) := by
  have h6 := hw.T6
  have hW := hw.W
  have hl0 := hm.1.len
  have fin : ∀ M, Fm M → FrG L78 [] M0 M → (∀ k, k ≠ 6 → mi M 78 k = mi M0 78 k) → SM σ M0 (wi M 78 6 (nI (oW σ))) := by
    intro M hF hfr hc
    have e78 : mi (wi M 78 6 (nI (oW σ))) 78 = mi M0 78 := funext fun k => by
      by_cases y : k = 6
      · subst y; rw [wi_e, hm.2.2.1.2.1]
      · rw [wi_f y]; exact hc k y
    have fr1 : FrG L78 [] M0 (wi M 78 6 (nI (oW σ))) := hfr.fwi (by decide)
    refine ⟨hm.fr ⟨fun j hj hs => ?_, fr1.lrow (by omega)⟩ hF.fwi, fun ρ r6 hx => MA.keepX fr1 (by decide) r6 hx⟩
    by_cases y : j = 78
    · subst y; exact e78
    · refine fr1.row (by omega) (fun hmm => ?_)
      unfold L78 at hmm
      simp only [List.mem_cons, List.not_mem_nil, or_false] at hmm
      simp only [smr, decide_eq_false_iff_not] at hs
      omega
  intro n
  induction n with
  | zero =>
    intro e v W M he h2 hF hL hT hfr hc hp
    obtain rfl : e = 8 := by omega
    refine k_MM_least_9 hF ⟨fun _ => PI.mk ?_ (H _ (fin M hF hfr hc)), fun q => absurd (by decide) q⟩
    rw [hp]
    split
    · rename_i z; rw [z]; rfl
    · rfl
  | succ n ih =>
    intro e v W M he h2 hF hL hT hfr hc hp
    refine k_MM_least_9 hF ⟨fun q => absurd q (nI_nlt (by omega) (by omega)), fun _ => ⟨fun q => PI.mk ?_ (H _ (fin M hF hfr hc)), fun q => ?_⟩⟩
    · rw [hp, if_neg q]
    · rw [if_pos q] at hp
      have hwe : WF (sW σ e) := hw.sW ⟨h2, by omega⟩
      have hLe : MLand (sW σ e) (wi M 78 6 (nI e)) := hL.w
      have hTe : MText (sW σ e) (wi M 78 6 (nI e)) := hT.cg (by rw [wi_f (by decide)]) (mi_n (by decide)) (mi_n (by decide))
      refine sm_looks hF.fwi hwe hLe hTe (fun M2 hF2 f2 g103 g108 => ⟨hF2, ?_⟩)
      have fM := f2.M hF.fwi rfl
      have G2 : GM (sW σ e) M2 := ⟨hF2, hLe.fr fM, hTe.fr fM, g108⟩
      have hl := hF.len
      have fr2 : FrG L78 [] M0 M2 := (hfr.fwi (by decide)).tr (f2.wk (by unfold L78; simp) (by simp))
      have c2 : ∀ k, k ≠ 6 → mi M2 78 k = mi M0 78 k := fun k hk => by rw [f2.row (j := 78) (show 78 < (sh M).length by omega) (by decide), wi_f hk]; exact hc k hk
      have he1 : exW (sW σ e) (oW (sW σ e)) (memT (oT (sW σ e)) (2 ^ oT (sW σ e) - 1)) [] = waysV σ e := by
        show exW (sW σ e) e (memT (oT σ) (2 ^ oT σ - 1)) [] = waysV σ e
        rw [(memT_63 (oT σ) (by omega)).2, exW_W]; rfl
      have nx : ∀ (v2 : Int32) (M3 : Mem), GM (sW σ e) M3 → FrG [109] [] M2 M3 → pLeast σ = (if v2 = -1 then lsF σ n (e + 1) else v2) → Ex (d + 5) m_MM_least bc bs 9 [some (.ref 78), some (.int (nI (oW σ))), some (.int v2), some (.int (nI (e + 1)))] [] M3 (PI K) := fun v2 M3 g3 f3 hp3 => by
        have hl2 := hF2.len
        refine ih (e + 1) v2 e M3 (by omega) (by omega) g3.1 g3.2.1 g3.2.2.1 (fr2.tr (f3.wk (by unfold L78; simp) (by simp))) (fun k hk => ?_) hp3
        rw [f3.row (j := 78) (by omega) (by decide)]; exact c2 k hk
      refine sm_all hwe hF2 G2.2.1 ⟨hF2, ?_⟩
      refine sm_nextB hwe (pa_lt h6) G2 (fun hL M3 g3 f3 => ⟨g3.1, fun _ => ?_, (fun z => nomatch z)⟩) (fun w L2 M3 D hL i3 f3 _ _ => ⟨i3.g.1, (fun z => nomatch z), fun _ => ?_⟩) <;> rw [he1] at hL <;> rw [nI_add]
      · refine nx (-1) M3 g3 f3 ?_
        rw [if_pos rfl, hp, lsF_n hL]
      · refine nx (nI e) M3 i3.g f3 ?_
        rw [if_neg (by rw [i_eq, i_m1, nI_T (by omega)]; omega), hp, lsF_s hL]
theorem sM_least {M : Mem} (hw : WF σ) (hm : MA σ M) (h : ∀ M2, SM σ M M2 → K (pLeast σ) M2) : Con (d + 5) m_MM_least 0 0 [.ref 78] M (PI K) := by
  obtain ⟨hF, -, hL, -, -, hT, -⟩ := id hm
  refine Con.ent (k := 3) F_MM_least.1 rfl (Nat.le_of_ble_eq_true rfl) (k_MM_least_0 hF ?_)
  rw [hL.2.1]
  exact lsm9 hw hm h 6 2 (-1) (oW σ) M rfl (Nat.le_refl _) hF hL hT (FrG.rf _ _) (fun _ _ => rfl) (by rw [if_pos rfl]; rfl)
end CAN
