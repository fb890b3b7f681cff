/-! sheet, both sides; cell, both sides -/
theorem WF.shs {σ : St} (h : WF σ) {s : Nat} (hs : s < 4) : (oSo σ s = -1 ∨ ∃ k, k ≤ 2 ∧ oSo σ s = nI k) ∧ oSs σ s ≤ 40 := h.2.2.2.2.2.2.2.2.2.2 s hs
theorem inS_n1 {s so : Int32} (h : isB 0 3 s = false) : inS s so = false := by unfold inS; rw [h]; rfl
theorem inS_n2 {s so : Int32} (h : isB (-1) 2 so = false) : inS s so = false := by unfold inS; rw [h, Bool.and_false]
theorem sx_shC {d : Nat} {s : Int32} {M : Mem} {K : Option Nat → Mem → Prop} (hF : Fx M) (h0 : isB 0 3 s = false → K none M) (h1 : ∀ k, k < 4 → s = nI k → isB 0 3 s = true → K (some (67 + 2 * k)) M) : Con (d + 1) m_MD_sheetAt 0 0 [.ref 0, .int s] M (PR K) := by
  refine sx_sheetAt hF ?_
  cases q : isB 0 3 s with
  | true =>
    have q2 := isB_t.mp q
    obtain ⟨k, hk, rfl⟩ : ∃ k, k < 4 ∧ s = nI k := i_of (by omega) (by omega) (by omega)
    rw [if_pos rfl, nI_clamp (by omega)]
    exact h1 k hk rfl q
  | false => exact h0 q
theorem sX_sheet {d : Nat} {σ : St} {s so n : Int32} {M : Mem} {K : Int32 → Mem → Prop} (hw : WF σ) (hx : XA σ M) (h : ∀ M2, SX (tSheet σ s so n) M M2 → K (pSheet s so n) M2) : Con (d + 3) m_MD_sheet 0 0 [.ref 0, .int s, .int so, .int n] M (PI K) := by
  obtain ⟨hF, hx2⟩ := id hx
  unfold tSheet pSheet at h
  have hno : inS s so = false → K (-2) M := fun q => by
    have := h M (by rw [q]; exact SX.rf hx)
    rwa [q] at this
  refine Con.ent (k := 1) F_MD_sheet.1 rfl (Nat.le_of_ble_eq_true rfl) (k_MD_sheet_0 hF ?_)
  refine sx_shC hF (fun q => ⟨hF, fun _ => PI.mk rfl (hno (inS_n1 q)), (fun _ z => nomatch z)⟩) (fun k hk e q => ⟨hF, (fun z => nomatch z), fun a2 ea => ?_⟩)
  cases ea
  refine ⟨fun z => PI.mk rfl (hno (inS_n2 ?_)), fun z => ⟨fun z2 => PI.mk rfl (hno (inS_n2 ?_)), fun z2 => ?_⟩⟩
  · rw [isB_f]; rw [i_lt, i_m1] at z; omega
  · rw [isB_f]; rw [i_le, show (nI 3).toInt = 3 from rfl] at z2; omega
  have hin : inS s so = true := by
    unfold inS
    rw [q, isB_t.mpr (by rw [i_lt, i_m1] at z; rw [i_le, show (nI 3).toInt = 3 from rfl] at z2; omega)]
    rfl
  rw [if_pos hin, if_pos hin] at h
  subst e
  rw [nI_clamp (by omega)] at h
  have go : ∀ m : Nat, (so = -1 → m = 0) → (¬ so = -1 → n = nI m) → (∀ M2, SX (newS σ k so m) M M2 → K (nI 1) M2) → Ex (d + 3) m_MD_sheet 0 0 48 [some (.ref 0), some (.int (nI k)), some (.int so), some (.int n), some (.ref (67 + 2 * k))] [] M (PI K) := fun m h1 h2 h3 => k_MD_sheet_48 hF ⟨(sheetRef hF hk).1, sx_become hw hx hk h1 h2 (fun M2 s2 => ⟨s2.1.1, PI.mk rfl (h3 M2 s2)⟩)⟩
  have e40 : (nI 40).toInt = 40 := rfl
  refine ⟨fun z3 => ?_, fun z3 => ⟨fun z4 => ?_, fun z4 => PI.mk rfl ?_⟩⟩
  · refine k_MD_sheet_36 hF ⟨fun _ => go 0 (fun _ => rfl) (fun y => absurd z3 y) (fun M2 s2 => ?_), fun y => absurd z3 y⟩
    have := h M2 (by rw [if_pos z3]; exact s2)
    rwa [if_pos z3] at this
  · refine k_MD_sheet_36 hF ⟨fun y => absurd y z3, fun _ => ⟨fun z5 => ?_, fun z5 => PI.mk rfl ?_⟩⟩
    · rw [i_le, i_0] at z5; rw [i_le, e40] at z4
      obtain ⟨m, hm, rfl⟩ : ∃ m, m < 41 ∧ n = nI m := i_of (by omega) (by omega) (by omega)
      have hb : isB 0 40 (nI m) = true := isB_t.mpr (by omega)
      refine go m (fun y => absurd y z3) (fun _ => rfl) (fun M2 s2 => ?_)
      have := h M2 (by rw [if_neg z3, if_pos hb, nI_clamp (by omega)]; exact s2)
      rwa [if_neg z3, if_pos hb] at this
    · have hb : ¬ isB 0 40 n = true := by rw [isB_t]; rw [i_le, i_0] at z5; omega
      have := h M (by rw [if_neg z3, if_neg hb]; exact SX.rf hx)
      rwa [if_neg z3, if_neg hb, if_pos z4] at this
  · have hb : ¬ isB 0 40 n = true := by rw [isB_t]; rw [i_le, e40] at z4; omega
    have := h M (by rw [if_neg z3, if_neg hb]; exact SX.rf hx)
    rwa [if_neg z3, if_neg hb, if_neg z4] at this
theorem shm70 {d bc bs k : Nat} {l2 l3 : Int32} {M0 : Mem} {Φ : Option Value → Mem → Prop} (hk : k < 4) (H : ∀ M2, Fm M2 → FrG [102] [] M0 M2 → (∀ j, mi M2 102 j = if 40 * k ≤ j ∧ j < 40 * k + 40 then 0 else mi M0 102 j) → Φ (some (.int (nI 1))) M2) :
    ∀ (n i : Nat) (M : Mem), i + n = 40 → Fm M → FrG [102] [] M0 M → (∀ j, mi M 102 j = if 40 * k ≤ j ∧ j < 40 * k + i then 0 else mi M0 102 j) → Ex (d + 1) m_MM_sheet bc bs 70 [some (.ref 78), some (.int (nI k)), some (.int l2), some (.int l3), some (.int (nI i))] [] M Φ := by
  intro n
  induction n with
  | zero =>
    intro i M hi hF hfr hg
    obtain rfl : i = 40 := by omega
    exact k_MM_sheet_70 hF ⟨fun _ => H M hF hfr hg, fun q => absurd (nI_le (Nat.le_refl _) (by omega)) q⟩
  | succ n ih =>
    intro i M hi hF hfr hg
    refine k_MM_sheet_70 hF ⟨fun q => absurd q (by rw [nI_leI (by omega) (by omega)]; omega), fun _ => ?_⟩
    rw [pk_mul, nI_add, nI_add, nI_clamp (by omega)]
    refine ⟨vN (by omega) (by omega), ih (i + 1) _ (by omega) hF.fwi (hfr.fwi (by simp)) (fun j => ?_)⟩
    rw [mi_w]
    by_cases q : j = 40 * k + i
    · subst q; rw [u1_s, if_pos (by omega)]; rfl
    · rw [u1_n q, hg j]
      by_cases q2 : 40 * k ≤ j ∧ j < 40 * k + i
      · rw [if_pos q2, if_pos (by omega)]
      · rw [if_neg q2, if_neg (by omega)]
theorem sM_sheet {d : Nat} {σ : St} {s so n : Int32} {M : Mem} {K : Int32 → Mem → Prop} (hw : WF σ) (hm : MA σ M) (h : ∀ M2, SM (tSheet σ s so n) M M2 → K (pSheet s so n) M2) : Con (d + 2) m_MM_sheet 0 0 [.ref 78, .int s, .int so, .int n] M (PI K) := by
  obtain ⟨hF, -, -, -, -, -, -, -, -, hS⟩ := id hm
  unfold tSheet pSheet at h
  have hno : inS s so = false → K (-2) M := fun q => by
    have := h M (by rw [q]; exact SM.rf hm)
    rwa [q] at this
  refine Con.ent (k := 1) F_MM_sheet.1 rfl (Nat.le_of_ble_eq_true rfl) (k_MM_sheet_0 hF ?_)
  refine sm_inD hF (by omega) (fun q => ⟨hF, fun _ => PI.mk rfl (hno (inS_n1 q)), (fun z => nomatch z)⟩) (fun k hk e q => ⟨hF, (fun z => nomatch z), fun _ => ?_⟩)
  rw [show ((3 : Nat) : Int) = 3 from rfl] at q
  refine sm_in hF ?_
  rw [i_m1, show (nI 2).toInt = 2 from rfl]
  refine ⟨hF, fun q2 => PI.mk rfl (hno (inS_n2 q2)), fun q2 => ?_⟩
  have hin : inS s so = true := by unfold inS; rw [q, q2]; rfl
  rw [if_pos hin, if_pos hin] at h
  subst e
  have hk4 : k < 4 := by omega
  rw [nI_clamp (by omega)] at h
  have hlen := hF.len
  have go : ∀ m : Nat, (so = -1 → m = 0) → (¬ so = -1 → n = nI m) → (∀ M2, SM (newS σ k so m) M M2 → K (nI 1) M2) → Ex (d + 2) m_MM_sheet 0 0 44 [some (.ref 78), some (.int (nI k)), some (.int so), some (.int n), none] [] M (PI K) := fun m h1 h2 h3 => by
    have fin : ∀ u : Int32, u = nI m → Ex (d + 2) m_MM_sheet 0 0 70 [some (.ref 78), some (.int (nI k)), some (.int so), some (.int n), some (.int (nI 0))] [] (wi (wi M 100 k so) 101 k u) (PI K) := by
      intro u hu
      refine shm70 hk4 (fun M2 hF2 f2 g => PI.mk rfl (h3 M2 ?_)) 40 0 _ rfl hF.fwi.fwi (FrG.rf _ _) (fun j => by rw [if_neg (by omega)])
      refine hm.sheetS (L := [100, 101, 102]) ((((FrG.rf _ _).fwi (by simp)).fwi (by simp)).tr (f2.wk (by simp) (by simp))) rfl rfl rfl ?_
      intro t ht
      show mi M2 100 t = u1 (oSo σ) k so t ∧ mi M2 101 t = nI (u1 (oSs σ) k m t) ∧ ∀ i, i < 40 → mi M2 102 (40 * t + i) = u1 (oSc σ) k (fun _ => 0) t i
      rw [f2.row (j := 100) (show 100 < (sh M).length by omega) (by simp), f2.row (j := 101) (show 101 < (sh M).length by omega) (by simp), mi_n (i := 100) (j := 101) (by decide), mi_w, mi_w, mi_n (i := 101) (j := 100) (by decide)]
      obtain ⟨g1, g2, g3⟩ := hS t ht
      by_cases y : t = k
      · subst y
        rw [u1_s, u1_s, u1_s, u1_s, u1_s]
        exact ⟨rfl, hu, fun i hi => by rw [g, if_pos (by omega)]⟩
      · rw [u1_n y, u1_n y, u1_n y, u1_n y, u1_n y]
        refine ⟨g1, g2, fun i hi => ?_⟩
        rw [g, if_neg (by omega), mi_n (i := 102) (j := 101) (by decide), mi_n (i := 102) (j := 100) (by decide)]
        exact g3 i hi
    refine k_MM_sheet_44 hF ?_
    rw [nI_clamp (by omega)]
    have vk := vN hk4 (by decide)
    exact ⟨vk, fun y => ⟨vk, fin n (h2 y)⟩, fun y => ⟨vk, fin (nI 0) (by rw [h1 y])⟩⟩
  have e40 : (nI 40).toInt = 40 := rfl
  refine ⟨fun z3 => ?_, fun z3 => ⟨fun z4 => ?_, fun z4 => PI.mk rfl ?_⟩⟩
  · refine k_MM_sheet_32 hF ⟨fun _ => go 0 (fun _ => rfl) (fun y => absurd z3 y) (fun M2 s2 => ?_), fun y => absurd z3 y⟩
    have := h M2 (by rw [if_pos z3]; exact s2)
    rwa [if_pos z3] at this
  · refine k_MM_sheet_32 hF ⟨fun y => absurd y z3, fun _ => ⟨fun z5 => ?_, fun z5 => PI.mk rfl ?_⟩⟩
    · rw [i_le, i_0] at z5; rw [i_le, e40] at z4
      obtain ⟨m, hm, rfl⟩ : ∃ m, m < 41 ∧ n = nI m := i_of (by omega) (by omega) (by omega)
      have hb : isB 0 40 (nI m) = true := isB_t.mpr (by omega)
      refine go m (fun y => absurd y z3) (fun _ => rfl) (fun M2 s2 => ?_)
      have := h M2 (by rw [if_neg z3, if_pos hb, nI_clamp (by omega)]; exact s2)
      rwa [if_neg z3, if_pos hb] at this
    · have hb : ¬ isB 0 40 n = true := by rw [isB_t]; rw [i_le, i_0] at z5; omega
      have := h M (by rw [if_neg z3, if_neg hb]; exact SM.rf hm)
      rwa [if_neg z3, if_neg hb, if_pos z4] at this
  · have hb : ¬ isB 0 40 n = true := by rw [isB_t]; rw [i_le, e40] at z4; omega
    have := h M (by rw [if_neg z3, if_neg hb]; exact SM.rf hm)
    rwa [if_neg z3, if_neg hb, if_neg z4] at this
def nar (so v : Int32) : Int32 := if so = 0 then v.toInt8.toInt32 else if so = nI 1 then v.toInt16.toInt32 else v
def setC (σ : St) (s i : Nat) (v : Int32) : St := (oT σ, oW σ, oSz σ, oMy σ, oWi σ, oBe σ, oRd σ, oFe σ, oTp σ, oTx σ, oRu σ, oGv σ, oFo σ, oRo σ, oIm σ, oSo σ, oSs σ, u2 (oSc σ) s i v)
def pCell (σ : St) (s i : Int32) : Int32 := if isB 0 3 s = true then (if oSo σ s.toNatClampNeg = -1 then -11 else if isB 0 ((oSs σ s.toNatClampNeg : Int) - 1) i = true then nI 1 else -12) else -2
def tCell (σ : St) (s i v : Int32) : St := if isB 0 3 s = true then (if oSo σ s.toNatClampNeg = -1 then σ else if isB 0 ((oSs σ s.toNatClampNeg : Int) - 1) i = true then setC σ s.toNatClampNeg i.toNatClampNeg (nar (oSo σ s.toNatClampNeg) v) else σ) else σ
theorem WF.setC {σ : St} (h : WF σ) (s i : Nat) (v : Int32) : WF (setC σ s i v) := by
  obtain ⟨x0, b, c, x, tp, tx, gv, fo, ro, im, ss⟩ := h
  exact ⟨x0, b, c, x, tp, tx, gv, fo, ro, im, ss⟩
theorem WF.cell {σ : St} (h : WF σ) (s i v : Int32) : WF (tCell σ s i v) := by
  unfold tCell
  split
  · split
    · exact h
    · split
      · exact h.setC _ _ _
      · exact h
  · exact h
theorem XSheet.set {σ : St} {k j : Nat} {v : Int32} {M : Mem} (h : XSheet σ M) : XSheet (setC σ k j v) (wi M (68 + 2 * k) j v) := fun t ht => by
  obtain ⟨s1, s2, s3⟩ := h t ht
  show mi (wi M (68 + 2 * k) j v) (67 + 2 * t) 1 = oSo σ t ∧ mi (wi M (68 + 2 * k) j v) (67 + 2 * t) 2 = nI (oSs σ t) ∧ ∀ i, i < 40 → mi (wi M (68 + 2 * k) j v) (68 + 2 * t) i = u2 (oSc σ) k j v t i
  rw [mi_n (i := 67 + 2 * t) (by omega)]
  refine ⟨s1, s2, fun i hi => ?_⟩
  by_cases q : t = k
  · subst q
    rw [mi_w, u2_s]
    by_cases q2 : i = j
    · subst q2; rw [u1_s, u1_s]
    · rw [u1_n q2, u1_n q2]; exact s3 i hi
  · rw [mi_n (by omega), u2_n q]; exact s3 i hi
theorem MSheet.set {σ : St} {k j : Nat} {v : Int32} {M : Mem} (hj : j < 40) (h : MSheet σ M) : MSheet (setC σ k j v) (wi M 102 (40 * k + j) v) := fun t ht => by
  obtain ⟨s1, s2, s3⟩ := h t ht
  show mi (wi M 102 (40 * k + j) v) 100 t = oSo σ t ∧ mi (wi M 102 (40 * k + j) v) 101 t = nI (oSs σ t) ∧ ∀ i, i < 40 → mi (wi M 102 (40 * k + j) v) 102 (40 * t + i) = u2 (oSc σ) k j v t i
  rw [mi_n (i := 100) (by decide), mi_n (i := 101) (by decide)]
  refine ⟨s1, s2, fun i hi => ?_⟩
  rw [mi_w]
  by_cases q : t = k
  · subst q
    rw [u2_s]
    by_cases q2 : i = j
    · subst q2; rw [u1_s, u1_s]
    · rw [u1_n q2, u1_n (by omega)]; exact s3 i hi
  · rw [u1_n (by omega), u2_n q]; exact s3 i hi
theorem bm64 {n : Int} (h1 : -9223372036854775808 ≤ n) (h2 : n < 9223372036854775808) : n.bmod (2 ^ 64) = n := Int.bmod_eq_of_le (by omega) (by omega)
theorem bm32 {n : Int} (h1 : -2147483648 ≤ n) (h2 : n < 2147483648) : n.bmod (2 ^ 32) = n := Int.bmod_eq_of_le (by omega) (by omega)
theorem sx_spans {d a z : Nat} {l : Int64} {n : Int32} {M : Mem} {K : Bool → Mem → Prop} (hF : Fx M) (ha : (sh M)[a]? = some (8, 3)) (hz : mi M a 2 = nI z) (hz2 : z ≤ 40) (h1 : -1099511627776 ≤ l.toInt) (h2 : l.toInt ≤ 1099511627776) (h : K (decide (0 ≤ l.toInt ∧ 0 ≤ n.toInt ∧ l.toInt + n.toInt ≤ z)) M) : Con (d + 1) m_Sheet_spans 0 0 [.ref a, .long l, .int n] M (PB K) := by
  have hn := i_rng n
  have es : (l + n.toInt64).toInt = l.toInt + n.toInt := by
    rw [Int64.toInt_add, Int32.toInt_toInt64, bm64 (by omega) (by omega)]
  have ez : (nI z).toInt64.toInt = z := by rw [Int32.toInt_toInt64, nI_toInt (by omega)]
  have e0 : (0 : Int64).toInt = 0 := rfl
  refine Con.of (lo := [some (.ref a), some (.long l), none, some (.int n)]) F_Sheet_spans.1 rfl (Nat.le_of_ble_eq_true rfl) (k_Sheet_spans_0 hF ?_)
  rw [hz]
  simp only [lg_cmp_lt, lg_cmp_gt]
  simp only [Int64.lt_iff_toInt_lt, es, ez, e0, i_lt, i_0]
  refine ⟨fun z1 => PB.mk (Eq.symm (decide_eq_false ?_)) h, fun z1 => ⟨fun z2 => PB.mk (Eq.symm (decide_eq_false ?_)) h, fun z2 => ⟨ha, fun z3 => PB.mk (Eq.symm (decide_eq_false ?_)) h, fun z3 => PB.mk (Eq.symm (decide_eq_true ?_)) h⟩⟩⟩ <;> clear h <;> omega
theorem sx_write {d k : Nat} {i v : Int32} {σ : St} {M : Mem} {K : Bool → Mem → Prop} (hw : WF σ) (hx : XA σ M) (hk : k < 4) (h0 : isB 0 ((oSs σ k : Int) - 1) i = false → K false M) (h1 : ∀ j, j < oSs σ k → i = nI j → isB 0 ((oSs σ k : Int) - 1) i = true → ∀ M2, SX (setC σ k j (nar (oSo σ k) v)) M M2 → K true M2) : Con (d + 2) m_Sheet_write 0 0 [.ref (67 + 2 * k), .int i, .int v] M (PB K) := by
  obtain ⟨hF, -, -, -, -, -, -, -, hS⟩ := id hx
  obtain ⟨r1, r2, r3⟩ := sheetRef hF hk
  obtain ⟨s1, s2, s3⟩ := hS k hk
  have hi := i_rng i
  have h40 := (hw.shs hk).2
  refine Con.of (lo := [some (.ref (67 + 2 * k)), some (.int i), some (.int v)]) F_Sheet_write.1 rfl (Nat.le_of_ble_eq_true rfl) (k_Sheet_write_0 hF ⟨r1, ?_⟩)
  refine sx_spans hF r1 s2 h40 (by rw [Int32.toInt_toInt64]; omega) (by rw [Int32.toInt_toInt64]; omega) ?_
  rw [Int32.toInt_toInt64, show (nI 1).toInt = 1 from rfl]
  refine ⟨hF, fun q => ?_, fun q => PB.mk rfl (h0 ?_)⟩
  · rw [decide_eq_true_eq] at q
    obtain ⟨j, hj, rfl⟩ : ∃ j, j < oSs σ k ∧ i = nI j := i_of (by omega) (by omega) (by omega)
    have hb : isB 0 ((oSs σ k : Int) - 1) (nI j) = true := isB_t.mpr (by omega)
    have go : ∀ u, u = nar (oSo σ k) v → K true (wi M (68 + 2 * k) (nI j).toNatClampNeg u) := fun u hu => by
      rw [nI_clamp (by omega), hu]
      exact h1 j hj rfl hb _ (hx.sheetS (L := [68 + 2 * k]) ((FrG.rf _ _).fwi (by simp)) (by rcases (show k = 0 ∨ k = 1 ∨ k = 2 ∨ k = 3 by omega) with rfl | rfl | rfl | rfl <;> rfl) hw.T6 rfl rfl hS.set)
    rw [s1]
    have vv := vN (show j < 40 by omega) (by decide)
    exact ⟨r1, _, r2, r1, fun y => ⟨r1, fun y2 => ⟨_, r3, vv, PB.mk rfl (go _ (by unfold nar; rw [if_neg y, if_neg y2]))⟩, fun y2 => ⟨_, r3, vv, PB.mk rfl (go _ (by unfold nar; rw [if_neg y, if_pos y2]))⟩⟩, fun y => ⟨_, r3, vv, PB.mk rfl (go _ (by unfold nar; rw [if_pos y]))⟩⟩
  · rw [decide_eq_false_iff_not] at q
    rw [isB_f]; omega
theorem sx_missing {d k : Nat} {σ : St} {M : Mem} {K : Bool → Mem → Prop} (hx : XA σ M) (hk : k < 4) (h : K (decide (oSo σ k = -1)) M) : Con (d + 1) m_Sheet_isMissing 0 0 [.ref (67 + 2 * k)] M (PB K) := by
  obtain ⟨hF, -, -, -, -, -, -, -, hS⟩ := id hx
  obtain ⟨r1, r2, r3⟩ := sheetRef hF hk
  obtain ⟨s1, s2, s3⟩ := hS k hk
  refine Con.of (lo := [some (.ref (67 + 2 * k))]) F_Sheet_isMissing.1 rfl (Nat.le_of_ble_eq_true rfl) (k_Sheet_isMissing_0 hF ?_)
  rw [s1]
  exact ⟨r1, fun y => PB.mk (decide_eq_false y).symm h, fun y => PB.mk (decide_eq_true y).symm h⟩
theorem sX_cell {d : Nat} {σ : St} {s i v : Int32} {M : Mem} {K : Int32 → Mem → Prop} (hw : WF σ) (hx : XA σ M) (h : ∀ M2, SX (tCell σ s i v) M M2 → K (pCell σ s i) M2) : Con (d + 3) m_MD_cell 0 0 [.ref 0, .int s, .int i, .int v] M (PI K) := by
  have hF := hx.1
  unfold tCell pCell at h
  refine Con.ent (k := 1) F_MD_cell.1 rfl (Nat.le_of_ble_eq_true rfl) (k_MD_cell_0 hF ?_)
  refine sx_shC hF (fun q => ⟨hF, fun _ => PI.mk rfl ?_, (fun _ z => nomatch z)⟩) (fun k hk e q => ⟨hF, (fun z => nomatch z), fun a2 ea => ?_⟩)
  · have := h M (by rw [q]; exact SX.rf hx)
    rwa [q] at this
  cases ea
  subst e
  rw [if_pos q, if_pos q, nI_clamp (by omega)] at h
  refine ⟨(sheetRef hF hk).1, sx_missing hx hk ⟨hF, fun z => ?_, fun z => PI.mk rfl ?_⟩⟩
  · rw [decide_eq_false_iff_not] at z
    rw [if_neg z, if_neg z] at h
    refine ⟨(sheetRef hF hk).1, sx_write hw hx hk (fun q2 => ⟨hF, fun _ => PI.mk rfl ?_, (fun z => nomatch z)⟩) (fun j hj e2 q2 M2 s2 => ⟨s2.1.1, (fun z => nomatch z), fun _ => PI.mk rfl ?_⟩)⟩
    · have := h M (by rw [q2]; exact SX.rf hx)
      rwa [q2] at this
    · have h40 := (hw.shs hk).2
      have := h M2 (by rw [if_pos q2, e2, nI_clamp (by omega)]; exact s2)
      rwa [if_pos q2] at this
  · rw [decide_eq_true_eq] at z
    have := h M (by rw [if_pos z]; exact SX.rf hx)
    rwa [if_pos z] at this
theorem sM_cell {d : Nat} {σ : St} {s i v : Int32} {M : Mem} {K : Int32 → Mem → Prop} (hw : WF σ) (hm : MA σ M) (h : ∀ M2, SM (tCell σ s i v) M M2 → K (pCell σ s i) M2) : Con (d + 2) m_MM_cell 0 0 [.ref 78, .int s, .int i, .int v] M (PI K) := by
  obtain ⟨hF, -, -, -, -, -, -, -, -, hS⟩ := id hm
  unfold tCell pCell at h
  refine Con.of (lo := [some (.ref 78), some (.int s), some (.int i), some (.int v)]) F_MM_cell.1 rfl (Nat.le_of_ble_eq_true rfl) (k_MM_cell_0 hF ?_)
  refine sm_inD hF (by omega) (fun q => ⟨hF, (fun z => nomatch z), fun _ => PI.mk rfl ?_⟩) (fun k hk e q => ⟨hF, fun _ => ?_, (fun z => nomatch z)⟩)
  · rw [show ((3 : Nat) : Int) = 3 from rfl] at q
    have := h M (by rw [q]; exact SM.rf hm)
    rwa [q] at this
  rw [show ((3 : Nat) : Int) = 3 from rfl] at q
  subst e
  obtain ⟨s1, s2, s3⟩ := hS k (by omega)
  have h40 := (hw.shs (s := k) (by omega)).2
  rw [if_pos q, if_pos q, nI_clamp (by omega)] at h
  rw [nI_clamp (by omega), s1, s2]
  have vk := vN (show k < 4 by omega) (by decide)
  refine ⟨vk, fun z => ⟨vk, ?_⟩, fun z => PI.mk rfl ?_⟩
  · rw [if_neg z, if_neg z] at h
    refine sm_inC hF (by omega) (fun q2 => ⟨hF, (fun z => nomatch z), fun _ => PI.mk rfl ?_⟩) (fun j hj e2 q2 => ⟨hF, fun _ => ⟨vk, ?_⟩, (fun z => nomatch z)⟩)
    · have := h M (by rw [q2]; exact SM.rf hm)
      rwa [q2] at this
    · subst e2
      have go : ∀ u, u = nar (oSo σ k) v → K (nI 1) (wi M 102 (nI 40 * nI k + nI j).toNatClampNeg u) := fun u hu => by
        rw [pk_mul, nI_add, nI_clamp (by omega), hu]
        have := h (wi M 102 (40 * k + j) (nar (oSo σ k) v)) (by
          rw [if_pos q2, nI_clamp (by omega)]
          exact hm.sheetS (L := [102]) ((FrG.rf _ _).fwi (by simp)) rfl rfl rfl (hS.set (by omega)))
        rwa [if_pos q2] at this
      have vv : vp_in (nI 40 * nI k + nI j) 160 := by
        rw [pk_mul, nI_add]
        exact vN (by omega) (by decide)
      rw [s1]
      exact ⟨fun y => ⟨vk, fun y2 => ⟨vv, PI.mk rfl (go _ (by unfold nar; rw [if_neg y, if_neg y2]))⟩, fun y2 => ⟨vv, PI.mk rfl (go _ (by unfold nar; rw [if_neg y, if_pos y2]))⟩⟩, fun y => ⟨vv, PI.mk rfl (go _ (by unfold nar; rw [if_pos y]))⟩⟩
  · have := h M (by rw [if_pos z]; exact SM.rf hm)
    rwa [if_pos z] at this
