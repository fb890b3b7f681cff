/-! sheet -/
def inS (s so : Int32) : Bool := isB 0 3 s && isB (-1) 2 so
def nOf (so n : Int32) : Nat := if so = -1 then 0 else n.toNatClampNeg
def newS (σ : St) (s : Nat) (so : Int32) (n : Nat) : St := (oT σ, oW σ, oSz σ, oMy σ, oWi σ, oBe σ, oRd σ, oFe σ, oTp σ, oTx σ, oRu σ, oGv σ, oFo σ, oRo σ, oIm σ, u1 (oSo σ) s so, u1 (oSs σ) s n, u1 (oSc σ) s (fun _ => 0))
def pSheet (s so n : Int32) : Int32 := if inS s so = true then (if so = -1 then nI 1 else if isB 0 40 n = true then nI 1 else if n ≤ nI 40 then -14 else -2) else -2
def tSheet (σ : St) (s so n : Int32) : St := if inS s so = true then (if so = -1 then newS σ s.toNatClampNeg so 0 else if isB 0 40 n = true then newS σ s.toNatClampNeg so n.toNatClampNeg else σ) else σ
theorem inS_k {s so : Int32} (h : inS s so = true) : ∃ k, k < 4 ∧ s = nI k ∧ (so = -1 ∨ ∃ j, j ≤ 2 ∧ so = nI j) := by
  unfold inS at h
  rw [Bool.and_eq_true, isB_t, isB_t] at h
  obtain ⟨k, hk, e⟩ : ∃ k, k < 4 ∧ s = nI k := i_of (by omega) (by omega) (by omega)
  refine ⟨k, hk, e, ?_⟩
  by_cases q : so = -1
  · exact .inl q
  · rw [i_eq, i_m1] at q
    obtain ⟨j, hj, e2⟩ : ∃ j, j < 3 ∧ so = nI j := i_of (by omega) (by omega) (by omega)
    exact .inr ⟨j, by omega, e2⟩
theorem WF.newS {σ : St} (h : WF σ) {s n : Nat} {so : Int32} (h1 : so = -1 ∨ ∃ j, j ≤ 2 ∧ so = nI j) (hn : n ≤ 40) : WF (newS σ s so n) := by
  obtain ⟨x0, b, c, x, tp, tx, gv, fo, ro, im, ss⟩ := h
  refine ⟨x0, b, c, x, tp, tx, gv, fo, ro, im, fun t ht => ?_⟩
  show (u1 (oSo σ) s so t = -1 ∨ ∃ k, k ≤ 2 ∧ u1 (oSo σ) s so t = nI k) ∧ u1 (oSs σ) s n t ≤ 40
  by_cases q : t = s
  · rw [q, u1_s, u1_s]; exact ⟨h1, hn⟩
  · rw [u1_n q, u1_n q]; exact ss t ht
theorem WF.sheet {σ : St} (h : WF σ) (s so n : Int32) : WF (tSheet σ s so n) := by
  unfold tSheet
  split
  · rename_i q
    obtain ⟨k, hk, e, h1⟩ := inS_k q
    split
    · exact h.newS h1 (by decide)
    · split
      · rename_i q2
        rw [isB_t] at q2
        obtain ⟨m, hm, rfl⟩ : ∃ m, m < 41 ∧ n = nI m := i_of (by omega) (by omega) (by omega)
        rw [nI_clamp (by omega)]
        exact h.newS h1 (by omega)
      · exact h
  · exact h
theorem sheetRef {M : Mem} (hF : Fx M) {k : Nat} (hk : k < 4) : (sh M)[67 + 2 * k]? = some (8, 3) ∧ mr M (67 + 2 * k) 0 = some (68 + 2 * k) ∧ (sh M)[68 + 2 * k]? = some (100, 40) := by
  rcases (show k = 0 ∨ k = 1 ∨ k = 2 ∨ k = 3 by omega) with rfl | rfl | rfl | rfl <;> exact ⟨hF.s rfl, hF.r rfl rfl, hF.s rfl⟩
theorem sx_become {d k n : Nat} {so : Int32} {v : Int32} {σ : St} {M : Mem} {K : Mem → Prop} (hw : WF σ) (hx : XA σ M) (hk : k < 4) (hv : so = -1 → n = 0) (hv2 : ¬ so = -1 → v = nI n) (h : ∀ M2, SX (newS σ k so n) M M2 → K M2) : Con (d + 2) m_Sheet_become 0 0 [.ref (67 + 2 * k), .int so, .int v] M (PV K) := by
  obtain ⟨hF, hx2⟩ := id hx
  obtain ⟨r1, r2, r3⟩ := sheetRef hF hk
  have fin : ∀ u : Int32, u = nI n → Con (d + 1) m_Arrays_fill 0 0 [.ref (68 + 2 * k), .int (nI 0)] (wi (wi M (67 + 2 * k) 1 so) (67 + 2 * k) 2 u) (PV fun M1 => Fx M1 ∧ PV K none M1) := by
    intro u hu
    refine sx_fill hF.fwi.fwi r3 (by decide) (fun M2 hF2 f2 g => ⟨hF2, rfl, h M2 ?_⟩)
    have f1 : FrG [67 + 2 * k, 68 + 2 * k] [] M (wi (wi M (67 + 2 * k) 1 so) (67 + 2 * k) 2 u) := ((FrG.rf _ _).fwi (by simp)).fwi (by simp)
    have hlen := hF.len
    refine hx.sheetS (f1.tr (f2.wk (by simp) (by simp))) (by rcases (show k = 0 ∨ k = 1 ∨ k = 2 ∨ k = 3 by omega) with rfl | rfl | rfl | rfl <;> rfl) hw.T6 rfl rfl ?_
    intro t ht
    show mi M2 (67 + 2 * t) 1 = u1 (oSo σ) k so t ∧ mi M2 (67 + 2 * t) 2 = nI (u1 (oSs σ) k n t) ∧ ∀ i, i < 40 → mi M2 (68 + 2 * t) i = u1 (oSc σ) k (fun _ => 0) t i
    rw [f2.row (j := 67 + 2 * t) (show 67 + 2 * t < (sh M).length by omega) (by simp; omega)]
    by_cases q : t = k
    · subst q
      rw [u1_s, u1_s, u1_s, wi_f (by decide), wi_e, wi_e]
      exact ⟨rfl, hu, fun i hi => g i hi⟩
    · rw [u1_n q, u1_n q, u1_n q, mi_n (by omega), mi_n (by omega), f2.row (j := 68 + 2 * t) (show 68 + 2 * t < (sh M).length by omega) (by simp; omega), mi_n (by omega), mi_n (by omega)]
      exact hx.2.2.2.2.2.2.2.2 t ht
  refine Con.of (lo := [some (.ref (67 + 2 * k)), some (.int so), some (.int v)]) F_Sheet_become.1 rfl (Nat.le_of_ble_eq_true rfl) (k_Sheet_become_0 hF ⟨r1, fun z => ⟨r1, r1, _, r2, ?_⟩, fun z => ⟨r1, r1, _, r2, ?_⟩⟩)
  · exact fin v (hv2 z)
  · exact fin (nI 0) (by rw [hv z])
