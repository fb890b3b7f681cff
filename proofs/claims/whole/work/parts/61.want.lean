/-! want, both sides -/
def wMy (σ : St) (i v : Nat) : St := (oT σ, oW σ, oSz σ, u1 (oMy σ) i v, oWi σ, oBe σ, oRd σ, oFe σ, oTp σ, oTx σ, oRu σ, oGv σ, oFo σ, oRo σ, oIm σ, oSo σ, oSs σ, oSc σ)
def wWi (σ : St) (i : Nat) (v : Int32) : St := (oT σ, oW σ, oSz σ, oMy σ, u1 (oWi σ) i v, oBe σ, oRd σ, oFe σ, oTp σ, oTx σ, oRu σ, oGv σ, oFo σ, oRo σ, oIm σ, oSo σ, oSs σ, oSc σ)
def wBe (σ : St) (i : Nat) (v : Int32) : St := (oT σ, oW σ, oSz σ, oMy σ, oWi σ, u1 (oBe σ) i v, oRd σ, oFe σ, oTp σ, oTx σ, oRu σ, oGv σ, oFo σ, oRo σ, oIm σ, oSo σ, oSs σ, oSc σ)
def okW3 (σ : St) (t e v : Int32) : Bool := if e = 0 then isB 0 127 v else if e = nI 1 then isB (-1) 6 v else if e = nI 2 then isB (-1) ((oT σ : Int) - 1) v && decide (¬ v = t) else false
def newW (σ : St) (i : Nat) (e v : Int32) : St := if e = 0 then wMy σ i v.toNatClampNeg else if e = nI 1 then wWi σ i v else wBe σ i v
def oldW (σ : St) (i : Nat) (e : Int32) : Int32 := if e = 0 then nI (oMy σ i) else if e = nI 1 then oWi σ i else oBe σ i
def pWant (σ : St) (t e v : Int32) : Int32 := if tB σ t = true then (if okW3 σ t e v = true then oldW σ t.toNatClampNeg e else -7) else -5
def tWant (σ : St) (t e v : Int32) : St := if tB σ t = true then (if okW3 σ t e v = true then newW σ t.toNatClampNeg e v else σ) else σ
theorem WF.wMy {σ : St} (h : WF σ) (i : Nat) {v : Nat} (hv : v ≤ 127) : WF (wMy σ i v) := by
  obtain ⟨x0, b, c, ⟨x1, x2, x3⟩, tp, tx, gv, fo, ro, im, ss⟩ := h
  refine ⟨x0, b, c, ⟨fun t ht => ?_, x2, x3⟩, tp, tx, gv, fo, ro, im, ss⟩
  show u1 (oMy σ) i v t ≤ 127 ∧ _
  refine ⟨?_, (x1 t ht).2⟩
  by_cases q : t = i
  · subst q; rw [u1_s]; exact hv
  · rw [u1_n q]; exact (x1 t ht).1
theorem WF.wWi {σ : St} (h : WF σ) (i : Nat) {v : Int32} (hv : v = -1 ∨ ∃ k, k ≤ 6 ∧ v = nI k) : WF (wWi σ i v) := by
  obtain ⟨x0, b, c, ⟨x1, x2, x3⟩, tp, tx, gv, fo, ro, im, ss⟩ := h
  refine ⟨x0, b, c, ⟨fun t ht => ?_, x2, x3⟩, tp, tx, gv, fo, ro, im, ss⟩
  show oMy σ t ≤ 127 ∧ (u1 (oWi σ) i v t = -1 ∨ ∃ k, k ≤ 6 ∧ u1 (oWi σ) i v t = nI k) ∧ _
  refine ⟨(x1 t ht).1, ?_, (x1 t ht).2.2⟩
  by_cases q : t = i
  · subst q; rw [u1_s]; exact hv
  · rw [u1_n q]; exact (x1 t ht).2.1
theorem WF.wBe {σ : St} (h : WF σ) (i : Nat) {v : Int32} (hv : v = -1 ∨ ∃ k, k < oT σ ∧ k ≠ i ∧ v = nI k) : WF (wBe σ i v) := by
  obtain ⟨x0, b, c, ⟨x1, x2, x3⟩, tp, tx, gv, fo, ro, im, ss⟩ := h
  refine ⟨x0, b, c, ⟨fun t ht => ?_, x2, x3⟩, tp, tx, gv, fo, ro, im, ss⟩
  show oMy σ t ≤ 127 ∧ (oWi σ t = -1 ∨ ∃ k, k ≤ 6 ∧ oWi σ t = nI k) ∧ (u1 (oBe σ) i v t = -1 ∨ ∃ k, k < oT σ ∧ k ≠ t ∧ u1 (oBe σ) i v t = nI k)
  refine ⟨(x1 t ht).1, (x1 t ht).2.1, ?_⟩
  by_cases q : t = i
  · subst q; rw [u1_s]; exact hv
  · rw [u1_n q]; exact (x1 t ht).2.2
theorem m1_k {n : Nat} {v : Int32} (h : isB (-1) ((n : Int) - 1) v = true) (hn : n < 2 ^ 30) : v = -1 ∨ ∃ k, k < n ∧ v = nI k := by
  rw [isB_t] at h
  by_cases q : v = -1
  · exact .inl q
  · rw [i_eq, i_m1] at q
    exact .inr (i_of (by omega) (by omega) (by omega))
theorem WF.want {σ : St} (h : WF σ) (t e v : Int32) : WF (tWant σ t e v) := by
  have h6 := h.T6
  unfold tWant
  split
  · rename_i q
    obtain ⟨i, hi, rfl⟩ := isB_k (show isB 0 ((oT σ : Int) - 1) t = true from q) (by omega)
    rw [nI_clamp (by omega)]
    split
    · rename_i q2
      unfold okW3 at q2
      unfold newW
      by_cases z : e = 0
      · rw [if_pos z, isB_t] at q2
        rw [if_pos z]
        obtain ⟨k, hk, rfl⟩ : ∃ k, k < 128 ∧ v = nI k := i_of (by omega) (by omega) (by omega)
        rw [nI_clamp (by omega)]
        exact h.wMy i (by omega)
      · rw [if_neg z] at q2 ⊢
        by_cases z2 : e = nI 1
        · rw [if_pos z2] at q2 ⊢
          rcases m1_k (n := 7) q2 (by decide) with y | ⟨k, hk, y⟩
          · exact h.wWi i (.inl y)
          · exact h.wWi i (.inr ⟨k, by omega, y⟩)
        · rw [if_neg z2] at q2 ⊢
          by_cases z3 : e = nI 2
          · rw [if_pos z3, Bool.and_eq_true, decide_eq_true_eq] at q2
            rcases m1_k q2.1 (by omega) with y | ⟨k, hk, y⟩
            · exact h.wBe i (.inl y)
            · exact h.wBe i (.inr ⟨k, hk, fun w => q2.2 (by rw [y, w]), y⟩)
          · rw [if_neg z3] at q2; cases q2
    · exact h
  · exact h
theorem sx_mayWant {d i : Nat} {σ : St} {e v : Int32} {M : Mem} {K : Bool → Mem → Prop} (hw : WF σ) (hF : Fx M) (hL : XLand σ M) (hi : i < 6) (h : K (okW3 σ (nI i) e v) M) : Con (d + 2) m_MD_mayWant 0 0 [.ref 0, .int (nI i), .int e, .int v] M (PB K) := by
  have h6 := hw.T6
  unfold okW3 at h
  have e127 : (nI 127).toInt = 127 := rfl
  have e7 : (nI 7).toInt = 7 := rfl
  refine Con.of (lo := [some (.ref 0), some (.int (nI i)), some (.int e), some (.int v)]) F_MD_mayWant.1 rfl (Nat.le_of_ble_eq_true rfl) (k_MD_mayWant_0 hF ⟨fun z => ?_, fun z => ?_, fun z => ?_, fun z1 z2 z3 => ?_⟩)
  · rw [if_pos (show e = 0 from z)] at h
    refine ⟨fun y => PB.mk (Eq.symm (isB_f.mpr ?_)) h, fun y => ⟨fun y2 => PB.mk (Eq.symm (isB_f.mpr ?_)) h, fun y2 => PB.mk (Eq.symm (isB_t.mpr ?_)) h⟩⟩ <;> clear h
    · rw [i_lt, i_0] at y; omega
    · rw [i_lt, i_0] at y; rw [i_lt, e127] at y2; omega
    · rw [i_lt, i_0] at y; rw [i_lt, e127] at y2; omega
  · rw [if_neg (by rw [z]; decide), if_pos z] at h
    refine ⟨fun y => PB.mk (Eq.symm (isB_f.mpr ?_)) h, fun y => ⟨fun y2 => PB.mk (Eq.symm (isB_f.mpr ?_)) h, fun y2 => PB.mk (Eq.symm (isB_t.mpr ?_)) h⟩⟩ <;> clear h
    · rw [i_lt, i_m1] at y; omega
    · rw [i_lt, i_m1] at y; rw [i_le, e7] at y2; omega
    · rw [i_lt, i_m1] at y; rw [i_le, e7] at y2; omega
  · rw [if_neg (by rw [z]; decide), if_neg (by rw [z]; decide), if_pos z] at h
    refine ⟨fun y => PB.mk ?_ h, fun y => ?_⟩
    · have hne : ¬ v = nI i := by rw [y, i_eq, i_m1, nI_T (by omega)]; omega
      rw [isB_t.mpr (by rw [y, i_m1]; omega), decide_eq_true hne]; rfl
    · have y' : ¬ v.toInt = -1 := by rw [i_eq, i_m1] at y; exact y
      refine sx_townC hw hF hL (fun q => ⟨hF, fun _ => PB.mk ?_ h, (fun z => nomatch z)⟩) (fun j hj ej q => ⟨hF, (fun z => nomatch z), fun _ => ?_⟩)
      · rw [isB_f] at q
        rw [isB_f.mpr (by omega)]; rfl
      · rw [isB_t] at q
        rw [isB_t.mpr (by omega), Bool.true_and] at h
        exact ⟨fun w => PB.mk (Eq.symm (decide_eq_false (fun x => x w))) h, fun w => PB.mk (Eq.symm (decide_eq_true w)) h⟩
  · rw [if_neg (show ¬ e = 0 from z1), if_neg z2, if_neg z3] at h
    exact PB.mk rfl h
theorem XLand.my {σ : St} {M : Mem} {i v : Nat} (h : XLand σ M) : XLand (wMy σ i v) (wi M 3 i (nI v)) := by
  obtain ⟨g1, g2, g3, g4, g5, g6, g7, g8⟩ := h
  have nr : ∀ j, j ≠ 3 → mi (wi M 3 i (nI v)) j = mi M j := fun j hj => mi_n hj
  refine ⟨by rw [nr 1 (by decide)]; exact g1, by rw [nr 1 (by decide)]; exact g2, by rw [nr 1 (by decide)]; exact g3, by rw [nr 1 (by decide)]; exact g4, fun t ht => ?_, fun a b ha hb => by rw [nr (7 + a) (by omega)]; exact g6 a b ha hb, fun a b ha hb => ?_, by rw [nr 20 (by decide), nr 21 (by decide)]; exact g8⟩
  · obtain ⟨y1, y2, y3, y4⟩ := g5 t ht
    rw [nr 2 (by decide), nr 4 (by decide), nr 5 (by decide), mi_w]
    refine ⟨y1, ?_, y3, y4⟩
    show _ = nI (u1 (oMy σ) i v t)
    by_cases q : t = i
    · subst q; rw [u1_s, u1_s]
    · rw [u1_n q, u1_n q]; exact y2
  · rw [nr (14 + a) (by omega)]; exact g7 a b ha hb
theorem XLand.wi4 {σ : St} {M : Mem} {i : Nat} {v : Int32} (h : XLand σ M) : XLand (wWi σ i v) (wi M 4 i v) := by
  obtain ⟨g1, g2, g3, g4, g5, g6, g7, g8⟩ := h
  have nr : ∀ j, j ≠ 4 → mi (wi M 4 i v) j = mi M j := fun j hj => mi_n hj
  refine ⟨by rw [nr 1 (by decide)]; exact g1, by rw [nr 1 (by decide)]; exact g2, by rw [nr 1 (by decide)]; exact g3, by rw [nr 1 (by decide)]; exact g4, fun t ht => ?_, fun a b ha hb => by rw [nr (7 + a) (by omega)]; exact g6 a b ha hb, fun a b ha hb => ?_, by rw [nr 20 (by decide), nr 21 (by decide)]; exact g8⟩
  · obtain ⟨y1, y2, y3, y4⟩ := g5 t ht
    rw [nr 2 (by decide), nr 3 (by decide), nr 5 (by decide), mi_w]
    refine ⟨y1, y2, ?_, y4⟩
    show _ = u1 (oWi σ) i v t
    by_cases q : t = i
    · subst q; rw [u1_s, u1_s]
    · rw [u1_n q, u1_n q]; exact y3
  · rw [nr (14 + a) (by omega)]; exact g7 a b ha hb
theorem XLand.be5 {σ : St} {M : Mem} {i : Nat} {v : Int32} (h : XLand σ M) : XLand (wBe σ i v) (wi M 5 i v) := by
  obtain ⟨g1, g2, g3, g4, g5, g6, g7, g8⟩ := h
  have nr : ∀ j, j ≠ 5 → mi (wi M 5 i v) j = mi M j := fun j hj => mi_n hj
  refine ⟨by rw [nr 1 (by decide)]; exact g1, by rw [nr 1 (by decide)]; exact g2, by rw [nr 1 (by decide)]; exact g3, by rw [nr 1 (by decide)]; exact g4, fun t ht => ?_, fun a b ha hb => by rw [nr (7 + a) (by omega)]; exact g6 a b ha hb, fun a b ha hb => ?_, by rw [nr 20 (by decide), nr 21 (by decide)]; exact g8⟩
  · obtain ⟨y1, y2, y3, y4⟩ := g5 t ht
    rw [nr 2 (by decide), nr 3 (by decide), nr 4 (by decide), mi_w]
    refine ⟨y1, y2, y3, ?_⟩
    show _ = u1 (oBe σ) i v t
    by_cases q : t = i
    · subst q; rw [u1_s, u1_s]
    · rw [u1_n q, u1_n q]; exact y4
  · rw [nr (14 + a) (by omega)]; exact g7 a b ha hb
theorem sX_want {d : Nat} {σ : St} {t e v : Int32} {M : Mem} {K : Int32 → Mem → Prop} (hw : WF σ) (hx : XA σ M) (h : ∀ M2, SX (tWant σ t e v) M M2 → K (pWant σ t e v) M2) : Con (d + 3) m_MD_want 0 0 [.ref 0, .int t, .int e, .int v] M (PI K) := by
  obtain ⟨hF, hL, hx2⟩ := id hx
  have h6 := hw.T6
  unfold tWant pWant tB at h
  refine Con.ent (k := 2) F_MD_want.1 rfl (Nat.le_of_ble_eq_true rfl) (k_MD_want_0 hF ?_)
  refine sx_townC hw hF hL (fun q => ⟨hF, (fun z => nomatch z), fun _ => PI.mk rfl ?_⟩) (fun i hi ei q => ⟨hF, fun _ => ?_, (fun z => nomatch z)⟩)
  · have := h M (by rw [q]; exact SX.rf hx)
    rwa [q] at this
  subst ei
  rw [if_pos q, if_pos q, nI_clamp (by omega)] at h
  refine sx_mayWant hw hF hL (by omega) ⟨hF, fun y => ?_, fun y => PI.mk rfl ?_⟩
  · rw [if_pos y, if_pos y] at h
    unfold newW oldW at h
    have vi := vN (show i < 6 by omega) (by decide)
    rw [nI_clamp (by omega)]
    obtain ⟨y1, y2, y3, y4⟩ := hL.2.2.2.2.1 i hi
    refine ⟨fun z => ⟨fun z2 => ⟨vi, vi, ?_⟩, fun z2 => ⟨vi, vi, ?_⟩⟩, fun z => ⟨vi, vi, ?_⟩⟩
    · rw [if_neg z, if_neg z, if_neg z2, if_neg z2] at h
      exact PI.mk y4 (h _ (hx.landS (L := [5]) ((FrG.rf _ _).fwi (by decide)) rfl rfl hL.be5))
    · rw [if_neg z, if_neg z, if_pos z2, if_pos z2] at h
      exact PI.mk y3 (h _ (hx.landS (L := [4]) ((FrG.rf _ _).fwi (by decide)) rfl rfl hL.wi4))
    · rw [if_pos z, if_pos z] at h
      unfold okW3 at y
      rw [if_pos z, isB_t] at y
      obtain ⟨k, hk, rfl⟩ : ∃ k, k < 128 ∧ v = nI k := i_of (by omega) (by omega) (by omega)
      rw [nI_clamp (by omega)] at h
      exact PI.mk y2 (h _ (hx.landS (L := [3]) ((FrG.rf _ _).fwi (by decide)) rfl rfl hL.my))
  · have := h M (by rw [y]; exact SX.rf hx)
    rwa [y] at this
theorem MLand.my {σ : St} {M : Mem} {i v : Nat} (h : MLand σ M) : MLand (wMy σ i v) (wi M 80 i (nI v)) := by
  obtain ⟨g1, g2, g3, g4, g5, g6, g7⟩ := h
  have nr : ∀ j, j ≠ 80 → mi (wi M 80 i (nI v)) j = mi M j := fun j hj => mi_n hj
  refine ⟨by rw [nr 78 (by decide)]; exact g1, by rw [nr 78 (by decide)]; exact g2, by rw [nr 78 (by decide)]; exact g3, by rw [nr 78 (by decide)]; exact g4, fun t ht => ?_, by rw [nr 83 (by decide)]; exact g6, by rw [nr 84 (by decide), nr 85 (by decide)]; exact g7⟩
  obtain ⟨y1, y2, y3, y4⟩ := g5 t ht
  rw [nr 79 (by decide), nr 81 (by decide), nr 82 (by decide), mi_w]
  refine ⟨y1, ?_, y3, y4⟩
  show _ = nI (u1 (oMy σ) i v t)
  by_cases q : t = i
  · subst q; rw [u1_s, u1_s]
  · rw [u1_n q, u1_n q]; exact y2
theorem MLand.wi81 {σ : St} {M : Mem} {i : Nat} {v : Int32} (h : MLand σ M) : MLand (wWi σ i v) (wi M 81 i v) := by
  obtain ⟨g1, g2, g3, g4, g5, g6, g7⟩ := h
  have nr : ∀ j, j ≠ 81 → mi (wi M 81 i v) j = mi M j := fun j hj => mi_n hj
  refine ⟨by rw [nr 78 (by decide)]; exact g1, by rw [nr 78 (by decide)]; exact g2, by rw [nr 78 (by decide)]; exact g3, by rw [nr 78 (by decide)]; exact g4, fun t ht => ?_, by rw [nr 83 (by decide)]; exact g6, by rw [nr 84 (by decide), nr 85 (by decide)]; exact g7⟩
  obtain ⟨y1, y2, y3, y4⟩ := g5 t ht
  rw [nr 79 (by decide), nr 80 (by decide), nr 82 (by decide), mi_w]
  refine ⟨y1, y2, ?_, y4⟩
  show _ = u1 (oWi σ) i v t
  by_cases q : t = i
  · subst q; rw [u1_s, u1_s]
  · rw [u1_n q, u1_n q]; exact y3
theorem MLand.be82 {σ : St} {M : Mem} {i : Nat} {v : Int32} (h : MLand σ M) : MLand (wBe σ i v) (wi M 82 i v) := by
  obtain ⟨g1, g2, g3, g4, g5, g6, g7⟩ := h
  have nr : ∀ j, j ≠ 82 → mi (wi M 82 i v) j = mi M j := fun j hj => mi_n hj
  refine ⟨by rw [nr 78 (by decide)]; exact g1, by rw [nr 78 (by decide)]; exact g2, by rw [nr 78 (by decide)]; exact g3, by rw [nr 78 (by decide)]; exact g4, fun t ht => ?_, by rw [nr 83 (by decide)]; exact g6, by rw [nr 84 (by decide), nr 85 (by decide)]; exact g7⟩
  obtain ⟨y1, y2, y3, y4⟩ := g5 t ht
  rw [nr 79 (by decide), nr 80 (by decide), nr 81 (by decide), mi_w]
  refine ⟨y1, y2, y3, ?_⟩
  show _ = u1 (oBe σ) i v t
  by_cases q : t = i
  · subst q; rw [u1_s, u1_s]
  · rw [u1_n q, u1_n q]; exact y4
theorem ne01 : ¬ nI 1 = 0 := by decide
theorem sM_want {d : Nat} {σ : St} {t e v : Int32} {M : Mem} {K : Int32 → Mem → Prop} (hw : WF σ) (hm : MA σ M) (h : ∀ M2, SM (tWant σ t e v) M M2 → K (pWant σ t e v) M2) : Con (d + 3) m_MM_want 0 0 [.ref 78, .int t, .int e, .int v] M (PI K) := by
  obtain ⟨hF, -, hL, hx2⟩ := id hm
  have h6 := hw.T6
  unfold tWant pWant tB at h
  refine Con.ent (k := 2) F_MM_want.1 rfl (Nat.le_of_ble_eq_true rfl) (k_MM_want_0 hF ?_)
  refine sm_townC hw hF hL (fun q => ⟨hF, (fun z => nomatch z), fun _ => PI.mk rfl ?_⟩) (fun i hi ei q => ⟨hF, fun _ => ?_, (fun z => nomatch z)⟩)
  · have := h M (by rw [q]; exact SM.rf hm)
    rwa [q] at this
  subst ei
  rw [if_pos q, if_pos q, nI_clamp (by omega)] at h
  have vi := vN (show i < 6 by omega) (by decide)
  obtain ⟨y1, y2, y3, y4⟩ := hL.2.2.2.2.1 i hi
  have no : ¬ okW3 σ (nI i) e v = true → PI K (some (.int (-7))) M := fun y => PI.mk rfl (by
    have := h M (by rw [if_neg y]; exact SM.rf hm)
    rwa [if_neg y] at this)
  have s68 : ¬ okW3 σ (nI i) e v = true → Ex (d + 3) m_MM_want 0 0 68 [some (.ref 78), some (.int (nI i)), some (.int e), some (.int v), none, none] [] M (PI K) := fun y => k_MM_want_68 hF ⟨fun z => absurd rfl z, fun _ => no y⟩
  rw [nI_clamp (by omega), hL.1]
  refine ⟨fun z => ⟨fun z2 => ⟨fun z3 => s68 ?_, fun z3 => ⟨fun z4 => s68 ?_, fun z4 => ?_⟩⟩, fun z2 => ?_⟩, fun z => ?_⟩
  · unfold okW3; rw [if_neg z, if_neg z2, if_neg z3]; decide
  · unfold okW3; rw [if_neg z, if_neg z2, if_pos z3, decide_eq_false (fun x => x z4), Bool.and_false]; decide
  · refine sm_in hF ?_
    rw [i_m1, sub_T (by omega) (by decide)]
    refine ⟨hF, fun y => s68 ?_, fun y => ⟨fun _ => ⟨fun _ => ⟨fun _ => ⟨vi, fun _ => ⟨fun _ => ⟨vi, ?_⟩, fun w => absurd w z2⟩, fun w => absurd w z⟩, fun w => absurd w z2⟩, fun w => absurd w z⟩, fun w => absurd w ne01⟩⟩
    · rw [show ((1 : Nat) : Int) = 1 from rfl] at y
      unfold okW3; rw [if_neg z, if_neg z2, if_pos z3, y, Bool.false_and]; decide
    · rw [show ((1 : Nat) : Int) = 1 from rfl] at y
      have ok : okW3 σ (nI i) e v = true := by unfold okW3; rw [if_neg z, if_neg z2, if_pos z3, y, decide_eq_true z4]; rfl
      unfold newW oldW at h
      rw [if_pos ok, if_pos ok, if_neg z, if_neg z, if_neg z2, if_neg z2] at h
      exact PI.mk y4 (h _ (hm.landS (L := [82]) ((FrG.rf _ _).fwi (by decide)) rfl (fun _ _ _ _ _ => rfl) rfl hL.be82))
  · refine sm_in hF ?_
    rw [i_m1, show (nI 6).toInt = 6 from rfl]
    refine ⟨hF, fun y => ⟨fun _ => ⟨fun w => absurd z2 w, fun _ => ⟨vi, fun _ => ⟨fun w => absurd z2 w, fun _ => ⟨vi, ?_⟩⟩, fun w => absurd w z⟩⟩, fun w => absurd w z⟩, fun y => no ?_⟩
    · have ok : okW3 σ (nI i) e v = true := by unfold okW3; rw [if_neg z, if_pos z2]; exact y
      unfold newW oldW at h
      rw [if_pos ok, if_pos ok, if_neg z, if_neg z, if_pos z2, if_pos z2] at h
      exact PI.mk y3 (h _ (hm.landS (L := [81]) ((FrG.rf _ _).fwi (by decide)) rfl (fun _ _ _ _ _ => rfl) rfl hL.wi81))
    · unfold okW3; rw [if_neg z, if_pos z2, y]; decide
  · refine sm_in hF ?_
    rw [show (nI 0).toInt = 0 from rfl, show (nI 127).toInt = 127 from rfl]
    refine ⟨hF, fun y => ⟨fun w => absurd z w, fun _ => ⟨vi, fun w => absurd z w, fun _ => ⟨vi, ?_⟩⟩⟩, fun y => no ?_⟩
    · have ok : okW3 σ (nI i) e v = true := by unfold okW3; rw [if_pos z]; exact y
      unfold newW oldW at h
      rw [if_pos ok, if_pos ok, if_pos z, if_pos z] at h
      rw [isB_t] at y
      obtain ⟨k, hk, rfl⟩ : ∃ k, k < 128 ∧ v = nI k := i_of (by omega) (by omega) (by omega)
      rw [nI_clamp (by omega)] at h
      exact PI.mk y2 (h _ (hm.landS (L := [80]) ((FrG.rf _ _).fwi (by decide)) rfl (fun _ _ _ _ _ => rfl) rfl hL.my))
    · unfold okW3; rw [if_pos z, y]; decide
