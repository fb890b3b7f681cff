/-! rounds: what is most, purely; x's most -/
def mV (n : Nat) : Int32 := nI n - nI 1
theorem mV_T {n : Nat} (h : n < 2 ^ 30) : (mV n).toInt = (n : Int) - 1 := pk_sub_toInt h (by decide)
theorem mV_0 : mV 0 = -1 := by decide
theorem mV_s {n : Nat} : mV (n + 1) = nI n := nI_sub1 (by omega)
theorem mV_m1 {n : Nat} (h : n < 2 ^ 30) : mV n = -1 ↔ n = 0 := by rw [i_eq, mV_T h, i_m1]; omega
theorem mV_max {a b : Nat} (ha : a < 2 ^ 30) (hb : b < 2 ^ 30) : (if mV a < mV b then mV b else mV a) = mV (max a b) := by
  by_cases q : a < b
  · rw [if_pos (by rw [i_lt, mV_T ha, mV_T hb]; omega), Nat.max_eq_right (by omega)]
  · rw [if_neg (by rw [i_lt, mV_T ha, mV_T hb]; omega), Nat.max_eq_left (by omega)]
theorem mV_min {a b : Nat} (ha : a < 2 ^ 30) (hb : b < 2 ^ 30) : (if mV a < mV b then mV a else mV b) = mV (min a b) := by
  by_cases q : a < b
  · rw [if_pos (by rw [i_lt, mV_T ha, mV_T hb]; omega), Nat.min_eq_left (by omega)]
  · rw [if_neg (by rw [i_lt, mV_T ha, mV_T hb]; omega), Nat.min_eq_right (by omega)]
theorem mV_add {a b : Nat} (h : 1 ≤ a) : mV a + nI b = mV (a + b) := by
  obtain ⟨c, rfl⟩ : ∃ c, a = c + 1 := ⟨a - 1, by omega⟩
  rw [mV_s, show c + 1 + b = c + b + 1 by omega, mV_s, nI_add]
theorem mV_add' {a b : Nat} (h : 1 ≤ a) : nI b + mV a = mV (b + a) := by
  obtain ⟨c, rfl⟩ : ∃ c, a = c + 1 := ⟨a - 1, by omega⟩
  rw [mV_s, show b + (c + 1) = b + c + 1 by omega, mV_s, nI_add]
def maxLT (p : Nat → Bool) (u : Nat → Nat) : Nat → Nat
  | 0 => 0
  | n + 1 => if p n = true then max (maxLT p u n) (u n) else maxLT p u n
section MAX
variable {p : Nat → Bool} {u : Nat → Nat}
theorem max_s {n : Nat} : maxLT p u (n + 1) = if p n = true then max (maxLT p u n) (u n) else maxLT p u n := rfl
theorem max_le {i : Nat} (hp : p i = true) : ∀ {n : Nat}, i < n → u i ≤ maxLT p u n
  | 0, h => absurd h (Nat.not_lt_zero _)
  | n + 1, h => by
    rw [max_s]
    by_cases q : i = n
    · subst q; rw [if_pos hp]; omega
    · have := max_le hp (n := n) (by omega)
      split <;> omega
theorem max_at : ∀ {n : Nat}, maxLT p u n ≠ 0 → ∃ i, i < n ∧ p i = true ∧ u i = maxLT p u n
  | 0, h => absurd rfl h
  | n + 1, h => by
    rw [max_s] at h ⊢
    split at h
    · rename_i q
      rw [if_pos q]
      by_cases z : maxLT p u n ≤ u n
      · exact ⟨n, by omega, q, by omega⟩
      · obtain ⟨i, a, b, c⟩ := max_at (n := n) (by omega)
        exact ⟨i, by omega, b, by omega⟩
    · rename_i q
      rw [if_neg q]
      obtain ⟨i, a, b, c⟩ := max_at h
      exact ⟨i, by omega, b, c⟩
theorem max_mn {c : Nat} : ∀ (n : Nat), maxLT p (fun i => min c (u i)) n = min c (maxLT p u n)
  | 0 => by show 0 = min c 0; omega
  | n + 1 => by
    rw [max_s, max_s, max_mn n]
    split <;> omega
theorem max_ub {c : Nat} (h : ∀ i, u i ≤ c) : ∀ (n : Nat), maxLT p u n ≤ c
  | 0 => Nat.zero_le _
  | n + 1 => by
    have := max_ub h n
    have := h n
    rw [max_s]
    split <;> omega
end MAX
/-- one more than what sells most from the day on that comes r before the last, if he is there; 0: no way home -/
def uR (W T : Nat) (s : Nat → Nat → Nat) (ok : Nat → Nat → Bool) (home : Nat) : Nat → Nat → Nat
  | 0, t => if t = home then 1 + s (W - 1) t else 0
  | r + 1, t => if maxLT (ok t) (uR W T s ok home r) T = 0 then 0 else maxLT (ok t) (uR W T s ok home r) T + s (W - 1 - (r + 1)) t
def bR (W T : Nat) (s : Nat → Nat → Nat) (ok : Nat → Nat → Bool) (home r a : Nat) : Nat := maxLT (ok a) (uR W T s ok home r) T
section UR
variable {W T : Nat} {s : Nat → Nat → Nat} {ok : Nat → Nat → Bool} {home : Nat}
theorem uR_0 {t : Nat} : uR W T s ok home 0 t = if t = home then 1 + s (W - 1) t else 0 := rfl
theorem uR_s {r t : Nat} : uR W T s ok home (r + 1) t = if bR W T s ok home r t = 0 then 0 else bR W T s ok home r t + s (W - 1 - (r + 1)) t := rfl
theorem uR_le (hs : ∀ d t, s d t ≤ 99) : ∀ (r t : Nat), uR W T s ok home r t ≤ 100 * (r + 1)
  | 0, t => by
    have := hs (W - 1) t
    rw [uR_0]; split <;> omega
  | r + 1, t => by
    have h1 : bR W T s ok home r t ≤ 100 * (r + 1) := max_ub (uR_le hs r) T
    have := hs (W - 1 - (r + 1)) t
    rw [uR_s]
    split <;> omega
theorem bR_le (hs : ∀ d t, s d t ≤ 99) (r a : Nat) : bR W T s ok home r a ≤ 100 * (r + 1) := max_ub (uR_le hs r) T
theorem uR_home (hh : home < T) (ho : ok home home = true) : ∀ r, 1 ≤ uR W T s ok home r home
  | 0 => by rw [uR_0, if_pos rfl]; omega
  | r + 1 => by
    have h1 : uR W T s ok home r home ≤ bR W T s ok home r home := max_le ho hh
    have := uR_home hh ho r
    rw [uR_s, if_neg (by omega)]; omega
theorem bR_home (hh : home < T) (ho : ok home home = true) (r : Nat) : 1 ≤ bR W T s ok home r home := by
  have h1 : uR W T s ok home r home ≤ bR W T s ok home r home := max_le ho hh
  have := uR_home (W := W) (s := s) hh ho r
  omega
end UR
def fsF (p : Nat → Bool) : Nat → Nat → Nat
  | 0, k => k
  | n + 1, k => if p k = true then k else fsF p n (k + 1)
theorem fs_s {p : Nat → Bool} {n k : Nat} : fsF p (n + 1) k = if p k = true then k else fsF p n (k + 1) := rfl
theorem fs_at {p : Nat → Bool} : ∀ {n k : Nat}, (∃ i, k ≤ i ∧ i < k + n ∧ p i = true) → p (fsF p n k) = true ∧ k ≤ fsF p n k ∧ fsF p n k < k + n
  | 0, k, ⟨i, a, b, c⟩ => by omega
  | n + 1, k, ⟨i, a, b, c⟩ => by
    rw [fs_s]
    by_cases q : p k = true
    · rw [if_pos q]; exact ⟨q, by omega, by omega⟩
    · rw [if_neg q]
      have hik : i ≠ k := fun e => q (e ▸ c)
      obtain ⟨x, y, z⟩ := fs_at (p := p) (n := n) (k := k + 1) ⟨i, by omega, by omega, c⟩
      exact ⟨x, by omega, by omega⟩
theorem fs_c {p q : Nat → Bool} : ∀ {n k : Nat}, (∀ i, k ≤ i → i < k + n → p i = q i) → fsF p n k = fsF q n k
  | 0, k, h => rfl
  | n + 1, k, h => by
    rw [fs_s, fs_s, h k (by omega) (by omega), fs_c (n := n) (k := k + 1) (fun i a b => h i (by omega) (by omega))]
/-- the towns of the first best round: n days left, from a, with goods left -/
def stB (W T : Nat) (s : Nat → Nat → Nat) (ok : Nat → Nat → Bool) (home n a l : Nat) (t : Nat) : Bool := ok a t && decide (min (l + 1) (uR W T s ok home n t) = min (l + 1) (bR W T s ok home n a))
def stV (W T : Nat) (s : Nat → Nat → Nat) (ok : Nat → Nat → Bool) (home n a l : Nat) : Nat := fsF (stB W T s ok home n a l) T 0
def rlV (W T : Nat) (s : Nat → Nat → Nat) (ok : Nat → Nat → Bool) (home : Nat) : Nat → Nat → Nat → List Nat
  | 0, _, _ => []
  | n + 1, a, l => stV W T s ok home n a l :: rlV W T s ok home n (stV W T s ok home n a l) (l - s (W - 1 - n) (stV W T s ok home n a l))
section STV
variable {W T : Nat} {s : Nat → Nat → Nat} {ok : Nat → Nat → Bool} {home n a l : Nat}
theorem stV_ex (hb : 1 ≤ bR W T s ok home n a) : ∃ i, 0 ≤ i ∧ i < 0 + T ∧ stB W T s ok home n a l i = true := by
  obtain ⟨i, h1, h2, h3⟩ := max_at (show maxLT (ok a) (uR W T s ok home n) T ≠ 0 from by unfold bR at hb; omega)
  refine ⟨i, by omega, by omega, ?_⟩
  unfold stB
  rw [h2, Bool.true_and, decide_eq_true_eq, h3]
  rfl
theorem stV_at (hb : 1 ≤ bR W T s ok home n a) : stV W T s ok home n a l < T ∧ ok a (stV W T s ok home n a l) = true ∧ min (l + 1) (uR W T s ok home n (stV W T s ok home n a l)) = min (l + 1) (bR W T s ok home n a) ∧ 1 ≤ uR W T s ok home n (stV W T s ok home n a l) := by
  obtain ⟨h1, h2, h3⟩ := fs_at (stV_ex (l := l) hb)
  have h1 : stB W T s ok home n a l (stV W T s ok home n a l) = true := h1
  unfold stB at h1
  rw [Bool.and_eq_true, decide_eq_true_eq] at h1
  refine ⟨by unfold stV; omega, h1.1, h1.2, ?_⟩
  have := h1.2
  omega
theorem stV_nx (hb : 1 ≤ bR W T s ok home (n + 1) a) : 1 ≤ bR W T s ok home n (stV W T s ok home (n + 1) a l) := by
  obtain ⟨-, -, -, h⟩ := stV_at (l := l) hb
  rw [uR_s] at h
  split at h <;> omega
end STV
theorem rlV_len {W T : Nat} {s : Nat → Nat → Nat} {ok : Nat → Nat → Bool} {home : Nat} : ∀ (n a l : Nat), (rlV W T s ok home n a l).length = n
  | 0, _, _ => rfl
  | n + 1, a, l => by rw [rlV, List.length_cons, rlV_len n]
theorem rlV_lt {W T : Nat} {s : Nat → Nat → Nat} {ok : Nat → Nat → Bool} {home : Nat} : ∀ (n a l : Nat), (1 ≤ n → 1 ≤ bR W T s ok home (n - 1) a) → ∀ v ∈ rlV W T s ok home n a l, v < T
  | 0, _, _, _, v, hv => by cases hv
  | n + 1, a, l, h, v, hv => by
    rw [rlV, List.mem_cons] at hv
    have hb := h (by omega)
    rw [Nat.add_sub_cancel] at hb
    rcases hv with rfl | hv
    · exact (stV_at hb).1
    · refine rlV_lt n _ _ (fun hn => ?_) v hv
      obtain ⟨m, rfl⟩ : ∃ m, n = m + 1 := ⟨n - 1, by omega⟩
      exact stV_nx hb
def salV (σ : St) (f : Nat → Nat) (d t : Nat) : Nat := if (f t).testBit d = true then oSz σ t else 0
def nrF (σ : St) (st a t : Nat) : Bool := decide (far (oT σ) (oRd σ) a t ≤ st)
theorem salV_99 {σ : St} (hw : WF σ) (f : Nat → Nat) (d t : Nat) : salV σ f d t ≤ 99 := by
  have := hw.sz t
  unfold salV
  split <;> omega
def PX (σ : St) (f : Nat → Nat) (M : Mem) : Prop := Fx M ∧ XLand σ M ∧ MkAt M 52 (oT σ) f
theorem PX.wi {σ : St} {f : Nat → Nat} {M : Mem} {j k : Nat} {v : Int32} (hw : WF σ) (h : PX σ f M) (hj : 63 ≤ j) : PX σ f (wi M j k v) := by
  obtain ⟨hF, hL, hm⟩ := h
  refine ⟨hF.fwi, hL.cg (fun i a b => mi_n (by omega)) hw.T6, ?_⟩
  unfold MkAt
  rw [mi_n (by omega)]
  exact hm
section PED
variable {d bc bs e t a st home : Nat} {σ : St} {f : Nat → Nat} {M : Mem} {K : Int32 → Mem → Prop}
theorem sx_salesAt (hw : WF σ) (h0 : PX σ f M) (hf : ∀ t, f t < 128) (ht : t < oT σ) (he : e < 7) (h : K (nI (salV σ f e t)) M) : Con (d + 3) m_Pedlar_salesAt 0 0 [.ref 63, .int (nI e), .int (nI t)] M (PI K) := by
  obtain ⟨hF, hL, hm⟩ := h0
  have h6 := hw.T6
  unfold salV at h
  refine Con.of (lo := [some (.ref 63), some (.int (nI e)), some (.int (nI t))]) F_Pedlar_salesAt.1 rfl (Nat.le_of_ble_eq_true rfl) (k_Pedlar_salesAt_0 hF ?_)
  rw [nI_clamp (by omega)]
  refine sx_isAt hF hm hf h6 ht he ⟨hF, fun q => PI.mk ?_ h, fun q => ⟨vN (by omega) (by decide), PI.mk ?_ h⟩⟩
  · rw [q]; rfl
  · rw [(hL.2.2.2.2.1 t ht).1, if_pos q]
theorem mby6 {u : Nat → Nat} (hw : WF σ) (h0 : PX σ f M) (he : e < 7) (ha : a < oT σ) (hst : st ≤ 50) (hu : ∀ t, t < oT σ → mi M 65 (e * 6 + t) = mV (u t)) (hub : ∀ t, u t ≤ 1000) (h : K (mV (maxLT (nrF σ st a) u (oT σ))) M) :
    ∀ (n t : Nat), t + n = oT σ → Ex (d + 2) m_Pedlar_mostBeyond bc bs 6 [some (.ref 63), some (.int (nI e)), some (.int (nI a)), some (.int (nI st)), some (.int (mV (maxLT (nrF σ st a) u t))), some (.int (nI t))] [] M (PI K) := by
  obtain ⟨hF, hL, hm⟩ := h0
  have h6 := hw.T6
  intro n
  induction n with
  | zero =>
    intro t ht
    obtain rfl : t = oT σ := by omega
    refine k_Pedlar_mostBeyond_6 hF ?_
    rw [hL.1]
    exact ⟨fun _ => PI.mk rfl h, fun q => absurd (nI_le (Nat.le_refl _) (by omega)) q⟩
  | succ n ih =>
    intro t ht
    refine k_Pedlar_mostBeyond_6 hF ?_
    rw [hL.1, pk_mul, nI_add, nI_add, nI_clamp (by omega)]
    refine ⟨fun q => absurd q (by rw [nI_leI (by omega) (by omega)]; omega), fun _ => ?_⟩
    have h9 := hw.far a t
    refine sx_hoursBetween hF hw hL ha (show t < oT σ by omega) ⟨hF, fun q => ?_, fun q => ⟨vN (by omega) (by decide), ?_⟩⟩
    · rw [nI_ltI (by omega) (by omega)] at q
      have := ih (t + 1) (by omega)
      rw [max_s, if_neg (by unfold nrF; rw [decide_eq_true_eq]; omega)] at this
      exact this
    · rw [nI_ltI (by omega) (by omega)] at q
      have := ih (t + 1) (by omega)
      rw [max_s, if_pos (by unfold nrF; rw [decide_eq_true_eq]; omega)] at this
      have hb := hub t
      have hc : maxLT (nrF σ st a) u t ≤ 1000 := max_ub hub t
      rw [hu t (by omega), mV_max (by omega) (by omega)]
      exact this
theorem sx_mostBeyond {u : Nat → Nat} (hw : WF σ) (h0 : PX σ f M) (he : e < 7) (ha : a < oT σ) (hst : st ≤ 50) (hu : ∀ t, t < oT σ → mi M 65 (e * 6 + t) = mV (u t)) (hub : ∀ t, u t ≤ 1000) (h : K (mV (maxLT (nrF σ st a) u (oT σ))) M) : Con (d + 2) m_Pedlar_mostBeyond 0 0 [.ref 63, .int (nI e), .int (nI a), .int (nI st)] M (PI K) := by
  refine Con.ent (k := 2) F_Pedlar_mostBeyond.1 rfl (Nat.le_of_ble_eq_true rfl) (k_Pedlar_mostBeyond_0 h0.1 ?_)
  rw [← mV_0]
  exact mby6 hw h0 he ha hst hu hub h (oT σ) 0 (by omega)
/-- x's table from day n on -/
def TbX (σ : St) (f : Nat → Nat) (st home n : Nat) (M : Mem) : Prop := ∀ d t, n ≤ d → d < oW σ → t < oT σ → mi M 65 (d * 6 + t) = mV (uR (oW σ) (oT σ) (salV σ f) (nrF σ st) home (oW σ - 1 - d) t)
theorem sx_mostFrom (hw : WF σ) (h0 : PX σ f M) (hf : ∀ t, f t < 128) (he : e < oW σ) (ht : t < oT σ) (hst : st ≤ 50) (hh : home < oT σ) (hT : TbX σ f st home (e + 1) M) (h : K (mV (uR (oW σ) (oT σ) (salV σ f) (nrF σ st) home (oW σ - 1 - e) t)) M) : Con (d + 4) m_Pedlar_mostFrom 0 0 [.ref 63, .int (nI e), .int (nI t), .int (nI home), .int (nI st)] M (PI K) := by
  obtain ⟨hF, hL, hm⟩ := id h0
  have h6 := hw.T6
  obtain ⟨w2, w7⟩ := hw.W
  have hs99 := salV_99 hw f
  refine Con.ent (k := 1) F_Pedlar_mostFrom.1 rfl (Nat.le_of_ble_eq_true rfl) (k_Pedlar_mostFrom_0 hF ?_)
  rw [hL.2.1, nI_sub1 (by omega)]
  have s43 : ∀ (v : Nat), v ≤ 1000 → K (mV (if v = 0 then 0 else v + salV σ f e t)) M → Ex (d + 4) m_Pedlar_mostFrom 0 0 43 [some (.ref 63), some (.int (nI e)), some (.int (nI t)), some (.int (nI home)), some (.int (nI st)), some (.int (mV v))] [] M (PI K) := by
    intro v hv hk
    refine k_Pedlar_mostFrom_43 hF ⟨fun q => ?_, fun q => ?_⟩ <;> rw [mV_m1 (by omega)] at q
    · rw [if_neg q] at hk
      refine sx_salesAt hw h0 hf ht (by omega) ⟨hF, PI.mk ?_ hk⟩
      rw [mV_add (by omega)]
    · rw [if_pos q] at hk
      exact PI.mk rfl hk
  refine ⟨fun q => ?_, fun q => ⟨fun q2 => ?_, fun q2 => ?_⟩⟩ <;> rw [nI_eq (by omega) (by omega)] at q
  · obtain ⟨r, hr⟩ : ∃ r, oW σ - 1 - e = r + 1 := ⟨oW σ - 2 - e, by omega⟩
    rw [nI_add]
    have hb := bR_le (W := oW σ) (T := oT σ) (ok := nrF σ st) (home := home) hs99 r t
    refine sx_mostBeyond (u := uR (oW σ) (oT σ) (salV σ f) (nrF σ st) home r) hw h0 (by omega) ht hst (fun q hq => ?_) (fun q => ?_) ⟨hF, s43 _ ?_ ?_⟩
    · rw [hT (e + 1) q (by omega) (by omega) hq, show oW σ - 1 - (e + 1) = r by omega]
    · have := uR_le (W := oW σ) (T := oT σ) (ok := nrF σ st) (home := home) hs99 r q
      omega
    · show bR (oW σ) (oT σ) (salV σ f) (nrF σ st) home r t ≤ 1000
      omega
    · rw [hr, uR_s, show oW σ - 1 - (r + 1) = e by omega] at h
      exact h
  · rw [← mV_0]
    refine s43 0 (by omega) ?_
    rw [show oW σ - 1 - e = 0 by omega, uR_0, if_neg (fun w => q2 (by rw [w]))] at h
    exact h
  · rw [nI_eq (by omega) (by omega)] at q2
    rw [← mV_s (n := 0)]
    refine s43 1 (by omega) ?_
    rw [show oW σ - 1 - e = 0 by omega, uR_0, if_pos q2, show oW σ - 1 = e by omega] at h
    exact h
end PED
