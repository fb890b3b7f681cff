/-! calls that only look: count, roundTold, foundDay, townTold, givingTold -/
def pCount (σ : St) (w : Int32) : Int32 := if w = nI 0 then nI (oT σ) else if w = nI 1 then nI (oW σ) else if w = nI 2 then nI (oFe σ).length else if w = nI 3 then nI (oGv σ).length else if w = nI 4 then nI (oTx σ).length else if w = nI 5 then nI (oRu σ) else if w = nI 6 then nI (oTp σ).length else -2
theorem cnt7 {α : Type} {w : Int32} {a b c e f g i z r : α} (K : α → Prop) (h : K (if w = nI 0 then a else if w = nI 1 then b else if w = nI 2 then c else if w = nI 3 then e else if w = nI 4 then f else if w = nI 5 then g else if w = nI 6 then i else z)) :
    (w = nI 0 → K a) ∧ (w = nI 1 → K b) ∧ (w = nI 2 → K c) ∧ (w = nI 3 → K e) ∧ (w = nI 4 → K f) ∧ (w = nI 5 → K g) ∧ (w = nI 6 → K i) ∧ (¬ w = nI 0 → ¬ w = nI 1 → ¬ w = nI 2 → ¬ w = nI 3 → ¬ w = nI 4 → ¬ w = nI 5 → ¬ w = nI 6 → K z) := by
  refine ⟨fun q => ?_, fun q => ?_, fun q => ?_, fun q => ?_, fun q => ?_, fun q => ?_, fun q => ?_, fun q0 q1 q2 q3 q4 q5 q6 => ?_⟩
  · rwa [if_pos q] at h
  · subst q; rwa [if_neg (by decide), if_pos rfl] at h
  · subst q; rwa [if_neg (by decide), if_neg (by decide), if_pos rfl] at h
  · subst q; rwa [if_neg (by decide), if_neg (by decide), if_neg (by decide), if_pos rfl] at h
  · subst q; rwa [if_neg (by decide), if_neg (by decide), if_neg (by decide), if_neg (by decide), if_pos rfl] at h
  · subst q; rwa [if_neg (by decide), if_neg (by decide), if_neg (by decide), if_neg (by decide), if_neg (by decide), if_pos rfl] at h
  · subst q; rwa [if_neg (by decide), if_neg (by decide), if_neg (by decide), if_neg (by decide), if_neg (by decide), if_neg (by decide), if_pos rfl] at h
  · rwa [if_neg q0, if_neg q1, if_neg q2, if_neg q3, if_neg q4, if_neg q5, if_neg q6] at h
theorem sX_count {d : Nat} {σ : St} {w : Int32} {M : Mem} {K : Int32 → Mem → Prop} (hx : XA σ M) (h : ∀ M2, SX σ M M2 → K (pCount σ w) M2) : Con (d + 1) m_MD_count 0 0 [.ref 0, .int w] M (PI K) := by
  obtain ⟨hF, hL, hKp, hTp, hT, hG, hFo, hRo, hSh⟩ := id hx
  have hk := h M (SX.rf hx)
  unfold pCount at hk
  refine Con.of (lo := [some (.ref 0), some (.int w)]) F_MD_count.1 rfl (Nat.le_of_ble_eq_true rfl) (k_MD_count_0 hF ?_)
  rw [hL.1, hL.2.1, hL.2.2.1, hL.2.2.2.1, hG.1, hT.1, hTp.1]
  obtain ⟨a, b, c, e, f, g, i, z⟩ := cnt7 (r := (0 : Int32)) (fun v => K v M) hk
  exact ⟨fun q => PI.mk rfl (a q), fun q => PI.mk rfl (b q), fun q => PI.mk rfl (c q), fun q => PI.mk rfl (e q), fun q => PI.mk rfl (f q), fun q => PI.mk rfl (g q), fun q => PI.mk rfl (i q), fun q0 q1 q2 q3 q4 q5 q6 => PI.mk rfl (z q0 q1 q2 q3 q4 q5 q6)⟩
theorem sM_count {d : Nat} {σ : St} {w : Int32} {M : Mem} {K : Int32 → Mem → Prop} (hm : MA σ M) (h : ∀ M2, SM σ M M2 → K (pCount σ w) M2) : Con (d + 1) m_MM_count 0 0 [.ref 78, .int w] M (PI K) := by
  obtain ⟨hF, -, hL, hKp, hTp, hT, hG, hFo, hRo, hSh⟩ := id hm
  have hk := h M (SM.rf hm)
  unfold pCount at hk
  refine Con.of (lo := [some (.ref 78), some (.int w)]) F_MM_count.1 rfl (Nat.le_of_ble_eq_true rfl) (k_MM_count_0 hF ?_)
  rw [hL.1, hL.2.1, hL.2.2.1, hL.2.2.2.1, hG.1, hT.1, hTp.1]
  obtain ⟨a, b, c, e, f, g, i, z⟩ := cnt7 (r := (0 : Int32)) (fun v => K v M) hk
  exact ⟨fun q => PI.mk rfl (a q), fun q => PI.mk rfl (b q), fun q => PI.mk rfl (c q), fun q => PI.mk rfl (e q), fun q => PI.mk rfl (f q), fun q => PI.mk rfl (g q), fun q => PI.mk rfl (i q), fun q0 q1 q2 q3 q4 q5 q6 => PI.mk rfl (z q0 q1 q2 q3 q4 q5 q6)⟩
/-- the number at place i of l, or -1 -/
def atL (l : List Nat) (i : Int32) : Int32 := if isB 0 ((l.length : Int) - 1) i = true then nI ((l[i.toNatClampNeg]?).getD 0) else -1
theorem atL_0 {l : List Nat} {i : Int32} (h : isB 0 ((l.length : Int) - 1) i = false) : atL l i = -1 := by unfold atL; rw [h]; rfl
theorem atL_1 {l : List Nat} {i : Int32} {k v : Nat} (h : isB 0 ((l.length : Int) - 1) i = true) (e : i = nI k) (hk : k < 2 ^ 31) (hv : l[k]? = some v) : atL l i = nI v := by
  unfold atL
  rw [if_pos h, e, nI_clamp hk, hv]
  rfl
theorem look_x {l : List Nat} {i a : Int32} {r : Nat → Int32} {M : Mem} {K : Int32 → Mem → Prop} {n : Nat} (hn : l.length ≤ n) (h7 : n < 2 ^ 31) (ha : a = nI l.length) (hr : ∀ t v, l[t]? = some v → r t = nI v) (h : K (atL l i) M) :
    (i < 0 → PI K (some (.int (-1))) M) ∧ (¬ i < 0 → (a ≤ i → PI K (some (.int (-1))) M) ∧ (¬ a ≤ i → vp_in i n ∧ PI K (some (.int (r i.toNatClampNeg))) M)) := by
  subst ha
  have e1 : (nI l.length).toInt = l.length := nI_toInt (by omega)
  refine ⟨fun q => PI.mk (Eq.symm (atL_0 (isB_f.mpr ?_))) h, fun q => ⟨fun q2 => PI.mk (Eq.symm (atL_0 (isB_f.mpr ?_))) h, fun q2 => ?_⟩⟩
  · rw [i_lt, i_0] at q; omega
  · rw [i_le, e1] at q2; omega
  · rw [i_lt, i_0] at q
    rw [i_le, e1] at q2
    obtain ⟨k, hk, rfl⟩ : ∃ k, k < l.length ∧ i = nI k := i_of (by omega) (by omega) (by omega)
    have hv : l[k]? = some (l[k]'hk) := List.getElem?_eq_getElem hk
    refine ⟨vN (by omega) h7, PI.mk ?_ h⟩
    rw [nI_clamp (by omega), hr k _ hv, atL_1 (by rw [isB_i (by omega), decide_eq_true_eq]; omega) rfl (by omega) hv]
theorem WF.ro {σ : St} (h : WF σ) : (oRo σ).length ≤ 7 := h.2.2.2.2.2.2.2.2.1.1
theorem WF.fo {σ : St} (h : WF σ) {l : List Nat} (e : oFo σ = some l) : l.length ≤ 6 := (h.2.2.2.2.2.2.2.1 l e).1
theorem sX_roundTold {d : Nat} {σ : St} {i : Int32} {M : Mem} {K : Int32 → Mem → Prop} (hw : WF σ) (hx : XA σ M) (h : ∀ M2, SX σ M M2 → K (atL (oRo σ) i) M2) : Con (d + 1) m_MD_roundTold 0 0 [.ref 0, .int i] M (PI K) := by
  obtain ⟨hF, hL, hKp, hTp, hT, hG, hFo, hRo, hSh⟩ := id hx
  exact Con.of (lo := [some (.ref 0), some (.int i)]) F_MD_roundTold.1 rfl (Nat.le_of_ble_eq_true rfl) (k_MD_roundTold_0 hF (look_x hw.ro (by decide) hRo.1 hRo.2 (h M (SX.rf hx))))
def pFoundDay (σ : St) (i : Int32) : Int32 := atL ((oFo σ).getD []) i
theorem WF.fo6 {σ : St} (h : WF σ) : ((oFo σ).getD []).length ≤ 6 := by
  cases e : oFo σ with
  | none => exact Nat.zero_le _
  | some l => exact h.fo e
theorem sX_foundDay {d : Nat} {σ : St} {i : Int32} {M : Mem} {K : Int32 → Mem → Prop} (hw : WF σ) (hx : XA σ M) (h : ∀ M2, SX σ M M2 → K (pFoundDay σ i) M2) : Con (d + 1) m_MD_foundDay 0 0 [.ref 0, .int i] M (PI K) := by
  obtain ⟨hF, hL, hKp, hTp, hT, hG, hFo, hRo, hSh⟩ := id hx
  exact Con.of (lo := [some (.ref 0), some (.int i)]) F_MD_foundDay.1 rfl (Nat.le_of_ble_eq_true rfl) (k_MD_foundDay_0 hF (look_x hw.fo6 (by decide) hFo.1 hFo.2 (h M (SX.rf hx))))
theorem sM_roundTold {d : Nat} {σ : St} {i : Int32} {M : Mem} {K : Int32 → Mem → Prop} (hw : WF σ) (hm : MA σ M) (h : ∀ M2, SM σ M M2 → K (atL (oRo σ) i) M2) : Con (d + 2) m_MM_roundTold 0 0 [.ref 78, .int i] M (PI K) := by
  obtain ⟨hF, -, hL, hKp, hTp, hT, hG, hFo, hRo, hSh⟩ := id hm
  have h7 := hw.ro
  have hk := h M (SM.rf hm)
  refine Con.of (lo := [some (.ref 78), some (.int i)]) F_MM_roundTold.1 rfl (Nat.le_of_ble_eq_true rfl) (k_MM_roundTold_0 hF ?_)
  rw [hRo.1]
  refine sm_inC hF (by omega) (fun q => ⟨hF, fun _ => PI.mk (atL_0 q).symm hk, (fun z => nomatch z)⟩) (fun k hkl e q => ⟨hF, (fun z => nomatch z), fun _ => ?_⟩)
  have hv : (oRo σ)[k]? = some ((oRo σ)[k]'hkl) := List.getElem?_eq_getElem hkl
  rw [atL_1 q e (by omega) hv] at hk
  subst e
  refine ⟨vN (by omega) (by decide), PI.mk ?_ hk⟩
  rw [nI_clamp (by omega)]
  exact hRo.2 k _ hv
theorem sM_foundDay {d : Nat} {σ : St} {i : Int32} {M : Mem} {K : Int32 → Mem → Prop} (hw : WF σ) (hm : MA σ M) (h : ∀ M2, SM σ M M2 → K (pFoundDay σ i) M2) : Con (d + 2) m_MM_foundDay 0 0 [.ref 78, .int i] M (PI K) := by
  obtain ⟨hF, -, hL, hKp, hTp, hT, hG, hFo, hRo, hSh⟩ := id hm
  have hk := h M (SM.rf hm)
  unfold pFoundDay at hk
  unfold MFound at hFo
  refine Con.of (lo := [some (.ref 78), some (.int i)]) F_MM_foundDay.1 rfl (Nat.le_of_ble_eq_true rfl) (k_MM_foundDay_0 hF ?_)
  cases e : oFo σ with
  | none =>
    rw [e] at hFo hk
    refine ⟨fun _ => PI.mk (Eq.symm (atL_0 (isB_f.mpr ?_))) hk, fun q => absurd hFo q⟩
    show ¬ (0 ≤ i.toInt ∧ i.toInt ≤ ((0 : Nat) : Int) - 1)
    omega
  | some l =>
    rw [e] at hFo hk
    have h6 := hw.fo e
    obtain ⟨f1, f2, f3⟩ := hFo
    replace hk : K (atL l i) M := hk
    refine ⟨fun q => absurd q (by rw [f1]; decide), fun _ => ?_⟩
    rw [f2]
    refine sm_inC hF (by omega) (fun q => ⟨hF, fun _ => PI.mk (atL_0 q).symm hk, (fun z => nomatch z)⟩) (fun k hkl e q => ⟨hF, (fun z => nomatch z), fun _ => ?_⟩)
    have hv : l[k]? = some (l[k]'hkl) := List.getElem?_eq_getElem hkl
    rw [atL_1 q e (by omega) hv] at hk
    subst e
    refine ⟨vN (by omega) (by decide), PI.mk ?_ hk⟩
    rw [nI_clamp (by omega)]
    exact f3 k _ hv
def pTownTold (σ : St) (t w : Int32) : Int32 := if tB σ t = true then (if w = nI 0 then nI (oSz σ t.toNatClampNeg) else if w = nI 1 then nI (oMy σ t.toNatClampNeg) else if w = nI 2 then oWi σ t.toNatClampNeg else if w = nI 3 then oBe σ t.toNatClampNeg else -7) else -5
theorem sX_townTold {d : Nat} {σ : St} {t w : Int32} {M : Mem} {K : Int32 → Mem → Prop} (hw : WF σ) (hx : XA σ M) (h : ∀ M2, SX σ M M2 → K (pTownTold σ t w) M2) : Con (d + 2) m_MD_townTold 0 0 [.ref 0, .int t, .int w] M (PI K) := by
  obtain ⟨hF, hL, hx2⟩ := id hx
  have h6 := hw.T6
  have hk := h M (SX.rf hx)
  unfold pTownTold tB at hk
  refine Con.of (lo := [some (.ref 0), some (.int t), some (.int w)]) F_MD_townTold.1 rfl (Nat.le_of_ble_eq_true rfl) (k_MD_townTold_0 hF ?_)
  refine sx_townC hw hF hL (fun q => ⟨hF, (fun z => nomatch z), fun _ => PI.mk (by rw [q]; rfl) hk⟩) (fun i hi e q => ⟨hF, fun _ => ?_, (fun z => nomatch z)⟩)
  subst e
  rw [if_pos q, nI_clamp (by omega)] at hk
  obtain ⟨g1, g2, g3, g4⟩ := hL.2.2.2.2.1 i hi
  rw [nI_clamp (by omega), g1, g2, g3, g4]
  have v := vN (show i < 6 by omega) (by decide)
  refine ⟨fun z => ⟨v, PI.mk ?_ hk⟩, fun z => ⟨v, PI.mk ?_ hk⟩, fun z => ⟨v, PI.mk ?_ hk⟩, fun z => ⟨v, PI.mk ?_ hk⟩, fun z0 z1 z2 z3 => PI.mk ?_ hk⟩
  · rw [if_pos z]
  · subst z; rw [if_neg (by decide), if_pos rfl]
  · subst z; rw [if_neg (by decide), if_neg (by decide), if_pos rfl]
  · subst z; rw [if_neg (by decide), if_neg (by decide), if_neg (by decide), if_pos rfl]
  · rw [if_neg z0, if_neg z1, if_neg z2, if_neg z3]
theorem sM_townTold {d : Nat} {σ : St} {t w : Int32} {M : Mem} {K : Int32 → Mem → Prop} (hw : WF σ) (hm : MA σ M) (h : ∀ M2, SM σ M M2 → K (pTownTold σ t w) M2) : Con (d + 3) m_MM_townTold 0 0 [.ref 78, .int t, .int w] M (PI K) := by
  obtain ⟨hF, -, hL, hx2⟩ := id hm
  have h6 := hw.T6
  have hk := h M (SM.rf hm)
  unfold pTownTold tB at hk
  refine Con.of (lo := [some (.ref 78), some (.int t), some (.int w)]) F_MM_townTold.1 rfl (Nat.le_of_ble_eq_true rfl) (k_MM_townTold_0 hF ?_)
  refine sm_townC hw hF hL (fun q => ⟨hF, (fun z => nomatch z), fun _ => PI.mk (by rw [q]; rfl) hk⟩) (fun i hi e q => ⟨hF, fun _ => ?_, (fun z => nomatch z)⟩)
  subst e
  rw [if_pos q, nI_clamp (by omega)] at hk
  obtain ⟨g1, g2, g3, g4⟩ := hL.2.2.2.2.1 i hi
  rw [nI_clamp (by omega), g1, g2, g3, g4]
  have v := vN (show i < 6 by omega) (by decide)
  refine ⟨fun z0 => ⟨fun z1 => ⟨fun z2 => ⟨fun z3 => PI.mk ?_ hk, fun z => ⟨v, PI.mk ?_ hk⟩⟩, fun z => ⟨v, PI.mk ?_ hk⟩⟩, fun z => ⟨v, PI.mk ?_ hk⟩⟩, fun z => ⟨v, PI.mk ?_ hk⟩⟩
  · rw [if_neg (by rw [nI_0]; exact z0), if_neg z1, if_neg z2, if_neg z3]
  · subst z; rw [if_neg (by decide), if_neg (by decide), if_neg (by decide), if_pos rfl]
  · subst z; rw [if_neg (by decide), if_neg (by decide), if_pos rfl]
  · subst z; rw [if_neg (by decide), if_pos rfl]
  · rw [if_pos (by rw [nI_0]; exact z)]
