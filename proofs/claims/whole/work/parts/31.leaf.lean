/-! leaves: tests of arguments, days, bits -/
theorem i_lt (a b : Int32) : a < b ↔ a.toInt < b.toInt := Int32.lt_iff_toInt_lt
theorem i_le (a b : Int32) : a ≤ b ↔ a.toInt ≤ b.toInt := Int32.le_iff_toInt_le
theorem i_eq (a b : Int32) : a = b ↔ a.toInt = b.toInt := Int32.toInt_inj.symm
theorem i_0 : (0 : Int32).toInt = 0 := rfl
theorem i_m1 : (-1 : Int32).toInt = -1 := rfl
theorem nI_T {n : Nat} (h : n < 2 ^ 31) : (nI n).toInt = (n : Int) := nI_toInt h
theorem i_rng (x : Int32) : -2147483648 ≤ x.toInt ∧ x.toInt < 2147483648 := ⟨by have := Int32.le_toInt x; simpa using this, by have := Int32.toInt_lt x; simpa using this⟩
theorem i_of {x : Int32} {n : Nat} (h0 : 0 ≤ x.toInt) (h1 : x.toInt < n) (hn : n < 2 ^ 31) : ∃ k, k < n ∧ x = nI k := by
  refine ⟨x.toInt.toNat, by omega, ?_⟩
  rw [i_eq, nI_toInt (by omega)]
  omega
def isB (lo hi : Int) (x : Int32) : Bool := decide (lo ≤ x.toInt ∧ x.toInt ≤ hi)
theorem isB_t {lo hi : Int} {x : Int32} : isB lo hi x = true ↔ lo ≤ x.toInt ∧ x.toInt ≤ hi := by simp [isB]
theorem isB_f {lo hi : Int} {x : Int32} : isB lo hi x = false ↔ ¬ (lo ≤ x.toInt ∧ x.toInt ≤ hi) := by simp only [isB, decide_eq_false_iff_not]
theorem PB.mk {K : Bool → Mem → Prop} {M : Mem} {b c : Bool} (e : b = c) (h : K c M) : PB K (some (.int (b2i b))) M := ⟨b, rfl, e ▸ h⟩
theorem PI.mk {K : Int32 → Mem → Prop} {M : Mem} {v w : Int32} (e : v = w) (h : K w M) : PI K (some (.int v)) M := ⟨v, rfl, e ▸ h⟩
theorem PR.mk {K : Option Nat → Mem → Prop} {M : Mem} {v w : Option Nat} (e : v = w) (h : K w M) : PR K (some (rv v)) M := ⟨v, rfl, e ▸ h⟩
theorem nI_sub1 {n : Nat} (h : 1 ≤ n) : nI n - nI 1 = nI (n - 1) := pk_sub h
theorem sx_hasTown {d T : Nat} {M : Mem} {t : Int32} {K : Bool → Mem → Prop} (hF : Fx M) (hT : mi M 1 8 = nI T) (h6 : T ≤ 6) (h : K (isB 0 (T - 1) t) M) : Con (d + 1) m_Land_hasTown 0 0 [.ref 1, .int t] M (PB K) := by
  refine Con.of (lo := [some (.ref 1), some (.int t)]) F_Land_hasTown.1 rfl (Nat.le_of_ble_eq_true rfl) (k_Land_hasTown_0 hF ?_)
  rw [hT]
  refine ⟨fun h1 => PB.mk (Eq.symm (isB_f.mpr ?_)) h, fun h1 => ⟨fun h2 => PB.mk (Eq.symm (isB_f.mpr ?_)) h, fun h2 => PB.mk (Eq.symm (isB_t.mpr ?_)) h⟩⟩ <;> clear h <;> simp (disch := omega) only [i_lt, i_le, i_eq, i_0, i_m1, nI_toInt] at * <;> omega
theorem sx_isWeek {d : Nat} {M : Mem} {w : Int32} {K : Bool → Mem → Prop} (hF : Fx M) (h : K (isB 0 99 w) M) : Con (d + 1) m_MD_isWeek 0 0 [.int w] M (PB K) := by
  refine Con.of (lo := [some (.int w)]) F_MD_isWeek.1 rfl (Nat.le_of_ble_eq_true rfl) (k_MD_isWeek_0 hF ?_)
  refine ⟨fun h1 => PB.mk (Eq.symm (isB_f.mpr ?_)) h, fun h1 => ⟨fun h2 => PB.mk (Eq.symm (isB_f.mpr ?_)) h, fun h2 => PB.mk (Eq.symm (isB_t.mpr ?_)) h⟩⟩ <;> clear h <;> simp (disch := omega) only [i_lt, i_le, i_eq, i_0, i_m1, nI_toInt] at * <;> omega
theorem sx_givingAt {d G : Nat} {M : Mem} {g : Int32} {K : Option Nat → Mem → Prop} (hF : Fx M) (hG : mi M 0 6 = nI G) (h12 : G ≤ 12) (h : K (if isB 0 (G - 1) g then mr M 50 g.toNatClampNeg else none) M) : Con (d + 1) m_MD_givingAt 0 0 [.ref 0, .int g] M (PR K) := by
  refine Con.of (lo := [some (.ref 0), some (.int g)]) F_MD_givingAt.1 rfl (Nat.le_of_ble_eq_true rfl) (k_MD_givingAt_0 hF ?_)
  rw [hG]
  refine ⟨fun h1 => PR.mk ?_ h, fun h1 => ⟨fun h2 => PR.mk ?_ h, fun h2 => ⟨vp_in_iff.mpr ?_, PR.mk ?_ h⟩⟩⟩ <;> clear h
  · rw [isB_f.mpr]; rfl
    simp (disch := omega) only [i_lt, i_le, i_eq, i_0, i_m1, nI_toInt] at *; omega
  · rw [isB_f.mpr]; rfl
    simp (disch := omega) only [i_lt, i_le, i_eq, i_0, i_m1, nI_toInt] at *; omega
  · simp (disch := omega) only [i_lt, i_le, i_eq, i_0, i_m1, nI_toInt] at *; omega
  · rw [isB_t.mpr]; rfl
    simp (disch := omega) only [i_lt, i_le, i_eq, i_0, i_m1, nI_toInt] at *; omega
theorem sx_sheetAt {d : Nat} {M : Mem} {s : Int32} {K : Option Nat → Mem → Prop} (hF : Fx M) (h : K (if isB 0 3 s then some (67 + 2 * s.toNatClampNeg) else none) M) : Con (d + 1) m_MD_sheetAt 0 0 [.ref 0, .int s] M (PR K) := by
  refine Con.of (lo := [some (.ref 0), some (.int s)]) F_MD_sheetAt.1 rfl (Nat.le_of_ble_eq_true rfl) (k_MD_sheetAt_0 hF ?_)
  refine ⟨fun h1 => PR.mk ?_ h, fun h1 => ⟨fun h2 => PR.mk ?_ h, fun h2 => ⟨vp_in_iff.mpr ?_, PR.mk ?_ h⟩⟩⟩ <;> clear h
  · rw [isB_f.mpr]; rfl
    simp (disch := omega) only [i_lt, i_le, i_eq, i_0, i_m1, nI_toInt] at *; omega
  · rw [isB_f.mpr]; rfl
    simp (disch := omega) only [i_lt, i_le, i_eq, i_0, i_m1, nI_toInt] at *; omega
  · simp (disch := omega) only [i_lt, i_le, i_eq, i_0, i_m1, nI_toInt] at *; omega
  · rw [isB_t.mpr]
    · obtain ⟨k, hk, rfl⟩ : ∃ k, k < 4 ∧ s = nI k := i_of (by simp (disch := omega) only [i_lt, i_le, i_eq, i_0, i_m1, nI_toInt] at *; omega) (by simp (disch := omega) only [i_lt, i_le, i_eq, i_0, i_m1, nI_toInt] at *; omega) (by omega)
      rw [nI_clamp (by omega)]
      rcases (show k = 0 ∨ k = 1 ∨ k = 2 ∨ k = 3 by omega) with rfl | rfl | rfl | rfl <;> exact hF.r rfl rfl
    · simp (disch := omega) only [i_lt, i_le, i_eq, i_0, i_m1, nI_toInt] at *; omega
theorem bit_at {m i : Nat} (hm : m < 2 ^ 31) (hi : i < 31) : (nI m >>> (nI i &&& 31)) &&& nI 1 = nI (m / 2 ^ i % 2) := by
  sorry
