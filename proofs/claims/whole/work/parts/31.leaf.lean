/-! leaves: tests of arguments, days, bits -/
theorem i_lt (a b : Int32) : a < b ↔ a.toInt < b.toInt := Int32.lt_iff_toInt_lt
theorem i_le (a b : Int32) : a ≤ b ↔ a.toInt ≤ b.toInt := Int32.le_iff_toInt_le
theorem i_eq (a b : Int32) : a = b ↔ a.toInt = b.toInt := Int32.toInt_inj.symm
theorem i_0 : (0 : Int32).toInt = 0 := rfl
theorem i_m1 : (-1 : Int32).toInt = -1 := rfl
theorem nI_T {n : Nat} (h : n < 2 ^ 31) : (nI n).toInt = (n : Int) := nI_toInt h
theorem i_rng (x : Int32) : -2147483648 ≤ x.toInt ∧ x.toInt < 2147483648 := ⟨by have := Int32.le_toInt x; simpa using this, by have := Int32.toInt_lt x; simpa using this⟩
theorem i_of {x : Int32} {n : Nat} (h0 : 0 ≤ x.toInt) (h1 : x.toInt < n) (hn : n < 2 ^ 31) : ∃ k, k < n ∧ x = nI k := by
  refine ⟨x.toInt.toNat, by omega, ?_⟩
  rw [i_eq, nI_toInt (by omega)]
  omega
theorem Con.ent {d k : Nat} {y : Mth} {mc ms n : Nat} {as : List Value} {lo : List (Option Value)} {M : Mem} {Φ : Option Value → Mem → Prop} (hF : MF y n) (hlo : en0 as ++ List.replicate k none = lo) (hn : (en0 as).length ≤ y.2.2.1) (h : Ex d y mc ms 0 lo [] M Φ) : Con d y mc ms as M Φ := by
  refine Con.of hF rfl hn (h.low (fun i v hi => ?_))
  subst hlo
  rcases Nat.lt_or_ge i (en0 as).length with q | q
  · rwa [List.getElem?_append_left q] at hi
  · rw [List.getElem?_append_right q, List.getElem?_replicate] at hi
    split at hi <;> cases hi
def isB (lo hi : Int) (x : Int32) : Bool := decide (lo ≤ x.toInt ∧ x.toInt ≤ hi)
theorem isB_t {lo hi : Int} {x : Int32} : isB lo hi x = true ↔ lo ≤ x.toInt ∧ x.toInt ≤ hi := by simp [isB]
theorem isB_f {lo hi : Int} {x : Int32} : isB lo hi x = false ↔ ¬ (lo ≤ x.toInt ∧ x.toInt ≤ hi) := by simp only [isB, decide_eq_false_iff_not]
theorem PB.mk {K : Bool → Mem → Prop} {M : Mem} {b c : Bool} (e : b = c) (h : K c M) : PB K (some (.int (b2i b))) M := ⟨b, rfl, e ▸ h⟩
theorem PI.mk {K : Int32 → Mem → Prop} {M : Mem} {v w : Int32} (e : v = w) (h : K w M) : PI K (some (.int v)) M := ⟨v, rfl, e ▸ h⟩
theorem PR.mk {K : Option Nat → Mem → Prop} {M : Mem} {v w : Option Nat} (e : v = w) (h : K w M) : PR K (some (rv v)) M := ⟨v, rfl, e ▸ h⟩
theorem nI_sub1 {n : Nat} (h : 1 ≤ n) : nI n - nI 1 = nI (n - 1) := pk_sub h
theorem sx_hasTown {d T : Nat} {M : Mem} {t : Int32} {K : Bool → Mem → Prop} (hF : Fx M) (hT : mi M 1 8 = nI T) (h6 : T ≤ 6) (h : K (isB 0 (T - 1) t) M) : Con (d + 1) m_Land_hasTown 0 0 [.ref 1, .int t] M (PB K) := by
  refine Con.of (lo := [some (.ref 1), some (.int t)]) F_Land_hasTown.1 rfl (Nat.le_of_ble_eq_true rfl) (k_Land_hasTown_0 hF ?_)
  rw [hT]
  refine ⟨fun h1 => PB.mk (Eq.symm (isB_f.mpr ?_)) h, fun h1 => ⟨fun h2 => PB.mk (Eq.symm (isB_f.mpr ?_)) h, fun h2 => PB.mk (Eq.symm (isB_t.mpr ?_)) h⟩⟩ <;> clear h <;> simp (disch := omega) only [i_lt, i_le, i_eq, i_0, i_m1, nI_toInt] at * <;> omega
theorem sx_isWeek {d : Nat} {M : Mem} {w : Int32} {K : Bool → Mem → Prop} (hF : Fx M) (h : K (isB 0 99 w) M) : Con (d + 1) m_MD_isWeek 0 0 [.int w] M (PB K) := by
  refine Con.of (lo := [some (.int w)]) F_MD_isWeek.1 rfl (Nat.le_of_ble_eq_true rfl) (k_MD_isWeek_0 hF ?_)
  refine ⟨fun h1 => PB.mk (Eq.symm (isB_f.mpr ?_)) h, fun h1 => ⟨fun h2 => PB.mk (Eq.symm (isB_f.mpr ?_)) h, fun h2 => PB.mk (Eq.symm (isB_t.mpr ?_)) h⟩⟩ <;> clear h <;> simp (disch := omega) only [i_lt, i_le, i_eq, i_0, i_m1, nI_toInt] at * <;> omega
theorem sx_givingAt {d G : Nat} {M : Mem} {g : Int32} {K : Option Nat → Mem → Prop} (hF : Fx M) (hG : mi M 0 6 = nI G) (h12 : G ≤ 12) (h : K (if isB 0 (G - 1) g then mr M 50 g.toNatClampNeg else none) M) : Con (d + 1) m_MD_givingAt 0 0 [.ref 0, .int g] M (PR K) := by
  refine Con.of (lo := [some (.ref 0), some (.int g)]) F_MD_givingAt.1 rfl (Nat.le_of_ble_eq_true rfl) (k_MD_givingAt_0 hF ?_)
  rw [hG]
  refine ⟨fun h1 => PR.mk ?_ h, fun h1 => ⟨fun h2 => PR.mk ?_ h, fun h2 => ⟨vp_in_iff.mpr ?_, PR.mk ?_ h⟩⟩⟩ <;> clear h
  · rw [isB_f.mpr]; rfl
    simp (disch := omega) only [i_lt, i_le, i_eq, i_0, i_m1, nI_toInt] at *; omega
  · rw [isB_f.mpr]; rfl
    simp (disch := omega) only [i_lt, i_le, i_eq, i_0, i_m1, nI_toInt] at *; omega
  · simp (disch := omega) only [i_lt, i_le, i_eq, i_0, i_m1, nI_toInt] at *; omega
  · rw [isB_t.mpr]; rfl
    simp (disch := omega) only [i_lt, i_le, i_eq, i_0, i_m1, nI_toInt] at *; omega
theorem sx_sheetAt {d : Nat} {M : Mem} {s : Int32} {K : Option Nat → Mem → Prop} (hF : Fx M) (h : K (if isB 0 3 s then some (67 + 2 * s.toNatClampNeg) else none) M) : Con (d + 1) m_MD_sheetAt 0 0 [.ref 0, .int s] M (PR K) := by
  refine Con.of (lo := [some (.ref 0), some (.int s)]) F_MD_sheetAt.1 rfl (Nat.le_of_ble_eq_true rfl) (k_MD_sheetAt_0 hF ?_)
  refine ⟨fun h1 => PR.mk ?_ h, fun h1 => ⟨fun h2 => PR.mk ?_ h, fun h2 => ⟨vp_in_iff.mpr ?_, PR.mk ?_ h⟩⟩⟩ <;> clear h
  · rw [isB_f.mpr]; rfl
    simp (disch := omega) only [i_lt, i_le, i_eq, i_0, i_m1, nI_toInt] at *; omega
  · rw [isB_f.mpr]; rfl
    simp (disch := omega) only [i_lt, i_le, i_eq, i_0, i_m1, nI_toInt] at *; omega
  · simp (disch := omega) only [i_lt, i_le, i_eq, i_0, i_m1, nI_toInt] at *; omega
  · rw [isB_t.mpr]
    · obtain ⟨k, hk, rfl⟩ : ∃ k, k < 4 ∧ s = nI k := i_of (by simp (disch := omega) only [i_lt, i_le, i_eq, i_0, i_m1, nI_toInt] at *; omega) (by simp (disch := omega) only [i_lt, i_le, i_eq, i_0, i_m1, nI_toInt] at *; omega) (by omega)
      rw [nI_clamp (by omega)]
      rcases (show k = 0 ∨ k = 1 ∨ k = 2 ∨ k = 3 by omega) with rfl | rfl | rfl | rfl <;> exact hF.r rfl rfl
    · simp (disch := omega) only [i_lt, i_le, i_eq, i_0, i_m1, nI_toInt] at *; omega
theorem s_l : ∀ n, n < 32 → ((nI n &&& 31).toBitVec.smod 32).toNat = n := by decide +kernel
theorem shr_N {m i : Nat} (hm : m < 2 ^ 31) (hi : i < 32) : nI m >>> (nI i &&& 31) = nI (m / 2 ^ i) := pk_shrN hm _ i (s_l i hi)
theorem shl_N {m i : Nat} (hi : i < 32) (h : m * 2 ^ i < 2 ^ 32) : nI m <<< (nI i &&& 31) = nI (m * 2 ^ i) := pk_shlN _ i (s_l i hi) h
theorem one_N {i : Nat} (hi : i < 32) : nI 1 <<< (nI i &&& 31) = nI (2 ^ i) := by
  rw [shl_N hi (by rw [Nat.one_mul]; exact Nat.pow_lt_pow_right (by decide) hi), Nat.one_mul]
theorem and_1 {m : Nat} (hm : m < 2 ^ 32) : nI m &&& nI 1 = nI (m % 2) := pk_andN hm 1 (by decide)
theorem bit_at {m i : Nat} (hm : m < 2 ^ 31) (hi : i < 32) : (nI m >>> (nI i &&& 31)) &&& nI 1 = nI (m / 2 ^ i % 2) := by
  rw [shr_N hm hi, and_1]
  exact Nat.lt_of_le_of_lt (Nat.div_le_self _ _) (by omega)
theorem nI_z {n : Nat} (h : n < 2 ^ 31) : nI n = 0 ↔ n = 0 := by
  rw [← nI_0, nI_eq h (by decide)]
theorem tb_iff (m i : Nat) : m.testBit i = true ↔ m / 2 ^ i % 2 = 1 := by
  rw [Nat.testBit_eq_decide_div_mod_eq, decide_eq_true_eq]
theorem bit_0 {m i : Nat} (hm : m < 2 ^ 31) (hi : i < 32) : (nI m >>> (nI i &&& 31)) &&& nI 1 = 0 ↔ m.testBit i = false := by
  rw [bit_at hm hi, nI_z (by omega), ← Bool.not_eq_true, tb_iff]
  omega
theorem bit_1 {m i : Nat} (hm : m < 2 ^ 31) (hi : i < 32) : (nI m >>> (nI i &&& 31)) &&& nI 1 = nI 1 ↔ m.testBit i = true := by
  rw [bit_at hm hi, nI_eq (by omega) (by decide), tb_iff]
theorem rem_N {a b : Nat} (ha : a < 2 ^ 31) (h0 : 0 < b) (hb : b < 2 ^ 31) : nI a % nI b = nI (a % b) := by
  rw [← irem_eq_mod, pk_rem ha h0 hb]
theorem div_N {a b : Nat} (ha : a < 2 ^ 31) (h0 : 0 < b) (hb : b < 2 ^ 31) : nI a / nI b = nI (a / b) := pk_div ha h0 hb
theorem sx_hasBit {d m i : Nat} {M : Mem} {K : Bool → Mem → Prop} (hF : Fx M) (hm : m < 2 ^ 31) (hi : i < 32) (h : K (m.testBit i) M) : Con (d + 1) m_MD_hasBit 0 0 [.int (nI m), .int (nI i)] M (PB K) := by
  refine Con.of (lo := [some (.int (nI m)), some (.int (nI i))]) F_MD_hasBit.1 rfl (Nat.le_of_ble_eq_true rfl) (k_MD_hasBit_0 hF ?_)
  rw [bit_0 hm hi]
  exact ⟨fun h1 => PB.mk h1.symm h, fun h1 => PB.mk (by cases hh : m.testBit i; exact absurd hh h1; rfl) h⟩
def dA (W d : Nat) : Nat := (d + 1) % W
def dB (W d : Nat) : Nat := (d + W - 1) % W
theorem dA_lt {W d : Nat} (h : 0 < W) : dA W d < W := Nat.mod_lt _ h
theorem dB_lt {W d : Nat} (h : 0 < W) : dB W d < W := Nat.mod_lt _ h
theorem dA_if {W d : Nat} (h : d < W) : dA W d = if d + 1 < W then d + 1 else 0 := by
  unfold dA
  split
  · exact Nat.mod_eq_of_lt (by assumption)
  · rw [show d + 1 = W by omega, Nat.mod_self]
theorem dB_if {W d : Nat} (h : d < W) : dB W d = if 0 < d then d - 1 else W - 1 := by
  unfold dB
  split
  · rw [show d + W - 1 = (d - 1) + W by omega, Nat.add_mod_right, Nat.mod_eq_of_lt (by omega)]
  · rw [show d + W - 1 = W - 1 by omega, Nat.mod_eq_of_lt (by omega)]
theorem sx_dayAfter {d W q : Nat} {M : Mem} {K : Int32 → Mem → Prop} (hF : Fx M) (hq : q < W) (hW : W < 1000) (h : K (nI (dA W q)) M) : Con (d + 1) m_MD_dayAfter 0 0 [.int (nI q), .int (nI W)] M (PI K) := by
  refine Con.of (lo := [some (.int (nI q)), some (.int (nI W))]) F_MD_dayAfter.1 rfl (Nat.le_of_ble_eq_true rfl) (k_MD_dayAfter_0 hF ?_)
  simp (disch := omega) only [pk_mul, nI_add, nI_1, nI_clamp, nI_leI, nI_ltI, nI_eq, pk_sub]
  refine ⟨fun h1 => PI.mk ?_ h, fun h1 => PI.mk ?_ h⟩
  · rw [dA_if hq, if_neg (by omega)]
  · rw [dA_if hq, if_pos (by omega)]
theorem sx_dayBefore {d W q : Nat} {M : Mem} {K : Int32 → Mem → Prop} (hF : Fx M) (hq : q < W) (hW : W < 1000) (h : K (nI (dB W q)) M) : Con (d + 1) m_MD_dayBefore 0 0 [.int (nI q), .int (nI W)] M (PI K) := by
  refine Con.of (lo := [some (.int (nI q)), some (.int (nI W))]) F_MD_dayBefore.1 rfl (Nat.le_of_ble_eq_true rfl) (k_MD_dayBefore_0 hF ?_)
  rw [← nI_0]
  refine ⟨fun h1 => PI.mk ?_ h, fun h1 => PI.mk ?_ h⟩
  · rw [nI_leI (by omega) (by omega)] at h1
    rw [dB_if hq, if_neg (by omega)]
    exact nI_sub1 (by omega)
  · rw [nI_leI (by omega) (by omega)] at h1
    rw [dB_if hq, if_pos (by omega)]
    exact nI_sub1 (by omega)
theorem sub_T {a b : Nat} (ha : a < 2 ^ 30) (hb : b < 2 ^ 30) : (nI a - nI b).toInt = (a : Int) - b := pk_sub_toInt ha hb
theorem sm_in {d : Nat} {M : Mem} {v a b : Int32} {K : Bool → Mem → Prop} (hF : Fm M) (h : K (isB a.toInt b.toInt v) M) : Con (d + 1) m_MM_in 0 0 [.int v, .int a, .int b] M (PB K) := by
  refine Con.of (lo := [some (.int v), some (.int a), some (.int b)]) F_MM_in.1 rfl (Nat.le_of_ble_eq_true rfl) (k_MM_in_0 hF ?_)
  refine ⟨fun h1 => PB.mk (Eq.symm (isB_f.mpr ?_)) h, fun h1 => ⟨fun h2 => PB.mk (Eq.symm (isB_f.mpr ?_)) h, fun h2 => PB.mk (Eq.symm (isB_t.mpr ?_)) h⟩⟩ <;> clear h <;> simp (disch := omega) only [i_lt, i_le, i_eq, i_0, i_m1, nI_toInt] at * <;> omega
theorem sm_in0 {d b : Nat} {M : Mem} {v : Int32} {K : Bool → Mem → Prop} (hF : Fm M) (hb : b < 2 ^ 31) (h : K (isB 0 b v) M) : Con (d + 1) m_MM_in 0 0 [.int v, .int (nI 0), .int (nI b)] M (PB K) := sm_in hF (by rw [nI_toInt hb]; exact h)
theorem sm_in1 {d b : Nat} {M : Mem} {v : Int32} {K : Bool → Mem → Prop} (hF : Fm M) (hb : b < 2 ^ 30) (h : K (isB 0 (b - 1) v) M) : Con (d + 1) m_MM_in 0 0 [.int v, .int (nI 0), .int (nI b - nI 1)] M (PB K) := sm_in hF (by rw [sub_T hb (by decide)]; exact h)
theorem sm_isTown {d T : Nat} {M : Mem} {t : Int32} {K : Bool → Mem → Prop} (hF : Fm M) (hT : mi M 78 0 = nI T) (h6 : T ≤ 6) (h : K (isB 0 (T - 1) t) M) : Con (d + 2) m_MM_isTown 0 0 [.ref 78, .int t] M (PB K) := by
  refine Con.of (lo := [some (.ref 78), some (.int t)]) F_MM_isTown.1 rfl (Nat.le_of_ble_eq_true rfl) (k_MM_isTown_0 hF ?_)
  rw [hT]
  exact sm_in1 hF (by omega) ⟨hF, _, rfl, h⟩
theorem sm_isWeek {d : Nat} {M : Mem} {w : Int32} {K : Bool → Mem → Prop} (hF : Fm M) (h : K (isB 0 99 w) M) : Con (d + 2) m_MM_isWeek 0 0 [.int w] M (PB K) := by
  refine Con.of (lo := [some (.int w)]) F_MM_isWeek.1 rfl (Nat.le_of_ble_eq_true rfl) (k_MM_isWeek_0 hF ?_)
  exact sm_in0 hF (by omega) ⟨hF, _, rfl, h⟩
theorem sm_isGiving {d G : Nat} {M : Mem} {g : Int32} {K : Bool → Mem → Prop} (hF : Fm M) (hG : mi M 78 16 = nI G) (h12 : G ≤ 12) (h : K (isB 0 (G - 1) g) M) : Con (d + 2) m_MM_isGiving 0 0 [.ref 78, .int g] M (PB K) := by
  refine Con.of (lo := [some (.ref 78), some (.int g)]) F_MM_isGiving.1 rfl (Nat.le_of_ble_eq_true rfl) (k_MM_isGiving_0 hF ?_)
  rw [hG]
  exact sm_in1 hF (by omega) ⟨hF, _, rfl, h⟩
