/-! hours: m's spreads(), x's measure() -/
theorem mi_s (M : Mem) (j k : Nat) (v : Int32) (b : Nat) : mi (wi M j k v) j b = if b = k then v else mi M j b := by
  show u2 (mi M) j k v j b = _
  rw [u2_s]; rfl
theorem mi_n {M : Mem} {i j k : Nat} {v : Int32} (h : i ≠ j) : mi (wi M j k v) i = mi M i := u2_n h
theorem Fm.fwi {M : Mem} {j k : Nat} {v : Int32} (h : Fm M) : Fm (wi M j k v) := h
theorem Fx.fwi {M : Mem} {j k : Nat} {v : Int32} (h : Fx M) : Fx (wi M j k v) := h
def LE99 (f : Nat → Nat → Nat) : Prop := ∀ a b, f a b ≤ 99
theorem fw0_99 {rd : Nat → Nat → Nat} (h : ∀ a b, rd a b ≤ 50) : LE99 (fw0 rd) := fun a b => by
  have := h a b
  unfold fw0
  split
  · omega
  · split <;> omega
theorem fw1_99 {f : Nat → Nat → Nat} {m a b : Nat} (h : LE99 f) : LE99 (fw1 f m a b) := fun x y => by
  have h1 := h a b
  have h2 := h x y
  by_cases q : x = a
  · subst q
    by_cases q2 : y = b
    · subst q2; simp only [fw1, u2, u1, if_true]; omega
    · simp only [fw1, u2, u1, if_true, if_neg q2]; exact h2
  · simp only [fw1, u2, if_neg q]; exact h2
theorem fwB_99 {f : Nat → Nat → Nat} {m a : Nat} (h : LE99 f) : ∀ n, LE99 (fwB f m a n)
  | 0 => h
  | n + 1 => fw1_99 (fwB_99 h n)
theorem fwA_99 {T : Nat} {f : Nat → Nat → Nat} {m : Nat} (h : LE99 f) : ∀ n, LE99 (fwA T f m n)
  | 0 => h
  | n + 1 => fwB_99 (fwA_99 h n) T
theorem fwM_99 {T : Nat} {f : Nat → Nat → Nat} (h : LE99 f) : ∀ n, LE99 (fwM T f n)
  | 0 => h
  | n + 1 => fwA_99 (fwM_99 h n) T
theorem far_99 {T : Nat} {rd : Nat → Nat → Nat} (h : ∀ a b, rd a b ≤ 50) : LE99 (far T rd) := fwM_99 (fw0_99 h) T
def G103 (M : Mem) (f : Nat → Nat → Nat) : Prop := ∀ a b, a < 6 → b < 6 → mi M 103 (6 * a + b) = nI (f a b)
theorem G103.set {M : Mem} {f : Nat → Nat → Nat} (h : G103 M f) {a b v : Nat} (ha : a < 6) (hb : b < 6) : G103 (wi M 103 (6 * a + b) (nI v)) (u2 f a b v) := fun x y hx hy => by
  rw [mi_s]
  unfold u2 u1
  by_cases h1 : x = a
  · subst h1
    by_cases h2 : y = b
    · subst h2; simp
    · rw [if_neg (by omega), if_pos rfl, if_neg h2]; exact h x y hx hy
  · rw [if_neg (by omega), if_neg h1]; exact h x y hx hy
section SPR
variable {d bc bs T : Nat} {rd : Nat → Nat → Nat} {M0 : Mem} {Φ : Option Value → Mem → Prop}
theorem spr0 (hF0 : Fm M0) (hrd : ∀ a b, rd a b ≤ 50) (hr : ∀ a b, a < 6 → b < 6 → mi M0 83 (6 * a + b) = nI (rd a b)) (H : ∀ M2, Fm M2 → FrG [103] [] M0 M2 → G103 M2 (fw0 rd) → Ex (d + 1) m_MM_spreads bc bs 53 [some (.ref 78), some (.int (nI 0)), none, none, none] [] M2 Φ) :
    ∀ (n k : Nat) (M : Mem), k + n = 36 → Fm M → FrG [103] [] M0 M → (∀ a b, a < 6 → b < 6 → 6 * a + b < k → mi M 103 (6 * a + b) = nI (fw0 rd a b)) → Ex (d + 1) m_MM_spreads bc bs 2 [some (.ref 78), some (.int (nI k)), none, none, none] [] M Φ := by
  intro n
  induction n with
  | zero =>
    intro k M hk hF hfr hg
    obtain rfl : k = 36 := by omega
    exact k_MM_spreads_2 hF ⟨fun _ => H M hF hfr (fun a b ha hb => hg a b ha hb (by omega)), fun h1 => absurd (nI_le (Nat.le_refl 36) (by decide)) h1⟩
  | succ n ih =>
    intro k M hk hF hfr hg
    have hk36 : k < 36 := by omega
    have hroad : mi M 83 k = nI (rd (k / 6) (k % 6)) := by
      rw [hfr.row (by have := hF0.len; omega) (by decide), ← hr (k / 6) (k % 6) (by omega) (by omega)]
      congr 1
      omega
    have hrb := hrd (k / 6) (k % 6)
    have step : ∀ v, v = nI (fw0 rd (k / 6) (k % 6)) → Ex (d + 1) m_MM_spreads bc bs 2 [some (.ref 78), some (.int (nI (k + 1))), none, none, none] [] (wi M 103 k v) Φ := by
      intro v hv
      refine ih (k + 1) _ (by omega) hF.fwi (hfr.fwi (by decide)) (fun a b ha hb hab => ?_)
      rw [mi_s]
      by_cases hq : 6 * a + b = k
      · rw [if_pos hq, hv]
        congr 2 <;> omega
      · rw [if_neg hq]; exact hg a b ha hb (by omega)
    refine k_MM_spreads_2 hF ⟨fun h1 => absurd h1 (by rw [nI_leI (by omega) (by omega)]; omega), fun h1 => ?_⟩
    rw [rem_N (by omega) (by omega) (by omega), nI_z (by omega), nI_clamp (by omega), hroad, ← nI_0, nI_leI (by omega) (by omega), nI_add]
    have hvp : vp_in (nI k) 36 := vp_in_nI hk36 (by omega)
    refine ⟨fun h2 => ⟨hvp, fun h3 => ⟨hvp, step _ ?_⟩, fun h3 => ⟨hvp, hvp, step _ ?_⟩⟩, fun h2 => ⟨hvp, step _ ?_⟩⟩
    · unfold fw0; rw [if_neg (by omega), if_pos (by omega)]
    · unfold fw0; rw [if_neg (by omega), if_neg (by omega)]
    · unfold fw0; rw [if_pos (by omega)]
theorem spr3 {f : Nat → Nat → Nat} {m a : Nat} (hF0 : Fm M0) (hT : mi M0 78 0 = nI T) (h6 : T ≤ 6) (hm : m < T) (ha : a < T) (h99 : LE99 f) (H : ∀ M2, Fm M2 → FrG [103] [] M0 M2 → G103 M2 (fwB f m a T) → Ex (d + 1) m_MM_spreads bc bs 63 [some (.ref 78), some (.int (nI m)), some (.int (nI (a + 1))), none, none] [] M2 Φ) :
    ∀ (n b : Nat) (M : Mem), b + n = T → Fm M → FrG [103] [] M0 M → G103 M (fwB f m a b) → Ex (d + 1) m_MM_spreads bc bs 73 [some (.ref 78), some (.int (nI m)), some (.int (nI a)), some (.int (nI b)), none] [] M Φ := by
  intro n
  induction n with
  | zero =>
    intro b M hb hF hfr hg
    obtain rfl : b = T := by omega
    refine k_MM_spreads_73 hF ⟨fun _ => ?_, fun h1 => absurd ?_ h1⟩
    · rw [nI_add]; exact H M hF hfr hg
    · rw [hfr.row (by have := hF0.len; omega) (by decide), hT]; exact nI_le (Nat.le_refl _) (by omega)
  | succ n ih =>
    intro b M hb hF hfr hg
    have hT' : mi M 78 0 = nI T := by rw [hfr.row (by have := hF0.len; omega) (by decide), hT]
    have h1 := fwB_99 (m := m) (a := a) h99 b
    have e1 := hg a b (by omega) (by omega)
    have e2 := hg a m (by omega) (by omega)
    have e3 := hg m b (by omega) (by omega)
    have l1 := h1 a b
    have l2 := h1 a m
    have l3 := h1 m b
    have step : ∀ v, v = min (fwB f m a b a b) (fwB f m a b a m + fwB f m a b m b) → Ex (d + 1) m_MM_spreads bc bs 73 [some (.ref 78), some (.int (nI m)), some (.int (nI a)), some (.int (nI (b + 1))), none] [] (wi M 103 (6 * a + b) (nI v)) Φ := by
      intro v hv
      subst hv
      exact ih (b + 1) _ (by omega) hF.fwi (hfr.fwi (by decide)) (hg.set (by omega) (by omega))
    refine k_MM_spreads_73 hF ⟨fun h2 => absurd h2 (by rw [hT', nI_leI (by omega) (by omega)]; omega), fun h2 => ?_⟩
    simp (disch := omega) only [pk_mul, nI_add, nI_1, nI_clamp, nI_leI, nI_ltI, nI_eq, pk_sub]
    rw [e1, e2, e3]
    simp (disch := omega) only [pk_mul, nI_add, nI_1, nI_clamp, nI_leI, nI_ltI, nI_eq, pk_sub]
    refine ⟨vp_in_nI (by omega) (by omega), vp_in_nI (by omega) (by omega), vp_in_nI (by omega) (by omega), fun h3 => ⟨vp_in_nI (by omega) (by omega), vp_in_nI (by omega) (by omega), step _ (by omega)⟩, fun h3 => ⟨vp_in_nI (by omega) (by omega), step _ (by omega)⟩⟩
theorem spr2 {f : Nat → Nat → Nat} {m : Nat} (hF0 : Fm M0) (hT : mi M0 78 0 = nI T) (h6 : T ≤ 6) (hm : m < T) (h99 : LE99 f) (H : ∀ M2, Fm M2 → FrG [103] [] M0 M2 → G103 M2 (fwA T f m T) → Ex (d + 1) m_MM_spreads bc bs 53 [some (.ref 78), some (.int (nI (m + 1))), none, none, none] [] M2 Φ) :
    ∀ (n a : Nat) (M : Mem), a + n = T → Fm M → FrG [103] [] M0 M → G103 M (fwA T f m a) → Ex (d + 1) m_MM_spreads bc bs 63 [some (.ref 78), some (.int (nI m)), some (.int (nI a)), none, none] [] M Φ := by
  intro n
  induction n with
  | zero =>
    intro a M ha hF hfr hg
    obtain rfl : a = T := by omega
    refine k_MM_spreads_63 hF ⟨fun _ => ?_, fun h1 => absurd ?_ h1⟩
    · rw [nI_add]; exact H M hF hfr hg
    · rw [hfr.row (by have := hF0.len; omega) (by decide), hT]; exact nI_le (Nat.le_refl _) (by omega)
  | succ n ih =>
    intro a M ha hF hfr hg
    have hT' : mi M 78 0 = nI T := by rw [hfr.row (by have := hF0.len; omega) (by decide), hT]
    refine k_MM_spreads_63 hF ⟨fun h2 => absurd h2 (by rw [hT', nI_leI (by omega) (by omega)]; omega), fun h2 => ?_⟩
    exact spr3 hF0 hT h6 hm (by omega) (fwA_99 h99 a) (fun M2 hF2 hfr2 hg2 => ih (a + 1) M2 (by omega) hF2 hfr2 hg2) T 0 M (by omega) hF hfr hg
theorem spr1 {f : Nat → Nat → Nat} (hF0 : Fm M0) (hT : mi M0 78 0 = nI T) (h6 : T ≤ 6) (h99 : LE99 f) (H : ∀ M2, Fm M2 → FrG [103] [] M0 M2 → G103 M2 (fwM T f T) → Φ none M2) :
    ∀ (n m : Nat) (M : Mem), m + n = T → Fm M → FrG [103] [] M0 M → G103 M (fwM T f m) → Ex (d + 1) m_MM_spreads bc bs 53 [some (.ref 78), some (.int (nI m)), none, none, none] [] M Φ := by
  intro n
  induction n with
  | zero =>
    intro m M hm hF hfr hg
    obtain rfl : m = T := by omega
    refine k_MM_spreads_53 hF ⟨fun _ => H M hF hfr hg, fun h1 => absurd ?_ h1⟩
    rw [hfr.row (by have := hF0.len; omega) (by decide), hT]; exact nI_le (Nat.le_refl _) (by omega)
  | succ n ih =>
    intro m M hm hF hfr hg
    have hT' : mi M 78 0 = nI T := by rw [hfr.row (by have := hF0.len; omega) (by decide), hT]
    refine k_MM_spreads_53 hF ⟨fun h2 => absurd h2 (by rw [hT', nI_leI (by omega) (by omega)]; omega), fun h2 => ?_⟩
    exact spr2 hF0 hT h6 (by omega) (fwM_99 h99 m) (fun M2 hF2 hfr2 hg2 => ih (m + 1) M2 (by omega) hF2 hfr2 hg2) T 0 M (by omega) hF hfr hg
end SPR
theorem sm_spreads {d T : Nat} {rd : Nat → Nat → Nat} {M : Mem} {K : Mem → Prop} (hF : Fm M) (hT : mi M 78 0 = nI T) (h6 : T ≤ 6) (hrd : ∀ a b, rd a b ≤ 50) (hr : ∀ a b, a < 6 → b < 6 → mi M 83 (6 * a + b) = nI (rd a b)) (h : ∀ M2, Fm M2 → FrG [103] [] M M2 → G103 M2 (far T rd) → K M2) : Con (d + 1) m_MM_spreads 0 0 [.ref 78] M (PV K) := by
  refine Con.ent (k := 4) F_MM_spreads.1 rfl (Nat.le_of_ble_eq_true rfl) (k_MM_spreads_0 hF ?_)
  refine spr0 hF hrd hr (fun M2 hF2 hfr2 hg2 => ?_) 36 0 M rfl hF (FrG.rf _ _) (fun a b _ _ h => absurd h (Nat.not_lt_zero _))
  exact spr1 hF hT h6 (fw0_99 hrd) (fun M3 hF3 hfr3 hg3 => ⟨rfl, h M3 hF3 hfr3 hg3⟩) T 0 M2 (by omega) hF2 hfr2 hg2
theorem ref7 {M : Mem} (hF : Fx M) {a : Nat} (ha : a < 6) : mr M 6 a = some (7 + a) ∧ mr M 13 a = some (14 + a) ∧ (sh M)[7 + a]? = some (100, 6) ∧ (sh M)[14 + a]? = some (100, 6) := by
  rcases (show a = 0 ∨ a = 1 ∨ a = 2 ∨ a = 3 ∨ a = 4 ∨ a = 5 by omega) with rfl | rfl | rfl | rfl | rfl | rfl <;> exact ⟨hF.r rfl rfl, hF.r rfl rfl, hF.s rfl, hF.s rfl⟩
def R14 : List Nat := [14 + 0, 14 + 1, 14 + 2, 14 + 3, 14 + 4, 14 + 5]
theorem R14_in {a : Nat} (ha : a < 6) : 14 + a ∈ R14 := by
  rcases (show a = 0 ∨ a = 1 ∨ a = 2 ∨ a = 3 ∨ a = 4 ∨ a = 5 by omega) with rfl | rfl | rfl | rfl | rfl | rfl <;> decide
theorem R14_no {a : Nat} (ha : a < 14 ∨ 14 + 6 ≤ a) : a ∉ R14 := by
  intro h
  simp only [R14, List.mem_cons, List.not_mem_nil, or_false] at h
  omega
section MEB
variable {d bc bs T : Nat} {rd : Nat → Nat → Nat} {M0 : Mem} {Φ : Option Value → Mem → Prop}
theorem G14_set {M : Mem} {f : Nat → Nat → Nat} {a b v : Nat} (h : ∀ x y, x < T → y < T → mi M (14 + x) y = nI (f x y)) : ∀ x y, x < T → y < T → mi (wi M (14 + a) b (nI v)) (14 + x) y = nI (u2 f a b v x y) := fun x y hx hy => by
  unfold u2 u1
  by_cases h1 : x = a
  · subst h1
    rw [mi_s, if_pos rfl]
    by_cases h2 : y = b
    · rw [if_pos h2, if_pos h2]
    · rw [if_neg h2, if_neg h2]; exact h x y hx hy
  · rw [mi_n (by omega), if_neg h1]; exact h x y hx hy
/-- the first loops: roads alone -/
theorem mea12 {a : Nat} (hF0 : Fx M0) (hT : mi M0 1 8 = nI T) (h6 : T ≤ 6) (ha : a < T) (hrd : ∀ a b, rd a b ≤ 50) (hr : ∀ a b, a < 6 → b < 6 → mi M0 (7 + a) b = nI (rd a b))
    (H : ∀ M2, Fx M2 → FrG R14 [] M0 M2 → (∀ x y, x ≤ a → y < T → mi M2 (14 + x) y = nI (fw0 rd x y)) → Ex (d + 1) m_Land_measure bc bs 2 [some (.ref 1), some (.int (nI (a + 1))), none, none] [] M2 Φ) :
    ∀ (n b : Nat) (M : Mem), b + n = T → Fx M → FrG R14 [] M0 M → (∀ x y, x ≤ a → y < T → (x < a ∨ y < b) → mi M (14 + x) y = nI (fw0 rd x y)) → Ex (d + 1) m_Land_measure bc bs 12 [some (.ref 1), some (.int (nI a)), some (.int (nI b)), none] [] M Φ := by
  intro n
  induction n with
  | zero =>
    intro b M hb hF hfr hg
    obtain rfl : b = T := by omega
    refine k_Land_measure_12 hF ⟨fun _ => ?_, fun h1 => absurd ?_ h1⟩
    · rw [nI_add]; exact H M hF hfr (fun x y hx hy => hg x y hx hy (Or.inr hy))
    · rw [hfr.row (by have := hF0.len; omega) (R14_no (by omega)), hT]; exact nI_le (Nat.le_refl _) (by omega)
  | succ n ih =>
    intro b M hb hF hfr hg
    have hT' : mi M 1 8 = nI T := by rw [hfr.row (by have := hF0.len; omega) (R14_no (by omega)), hT]
    have hroad : mi M (7 + a) b = nI (rd a b) := by rw [hfr.row (by have := hF0.len; omega) (R14_no (by omega)), hr a b (by omega) (by omega)]
    obtain ⟨q1, q2, q3, q4⟩ := ref7 hF (a := a) (by omega)
    have hrb := hrd a b
    have step : ∀ v, v = nI (fw0 rd a b) → Ex (d + 1) m_Land_measure bc bs 12 [some (.ref 1), some (.int (nI a)), some (.int (nI (b + 1))), none] [] (wi M (14 + a) b v) Φ := by
      intro v hv
      refine ih (b + 1) _ (by omega) hF.fwi (hfr.fwi (R14_in (by omega))) (fun x y hx hy hxy => ?_)
      by_cases h1 : x = a
      · subst h1
        rw [mi_s]
        by_cases h2 : y = b
        · rw [if_pos h2, hv, h2]
        · rw [if_neg h2]; exact hg x y hx hy (by omega)
      · rw [mi_n (by omega)]; exact hg x y hx hy (by omega)
    have va : vp_in (nI a) 6 := vp_in_nI (by omega) (by omega)
    have vb : vp_in (nI b) 6 := vp_in_nI (by omega) (by omega)
    refine k_Land_measure_12 hF ⟨fun h2 => absurd h2 (by rw [hT', nI_leI (by omega) (by omega)]; omega), fun h2 => ?_⟩
    rw [nI_clamp (by omega), nI_clamp (by omega), nI_eq (by omega) (by omega), nI_add]
    refine ⟨va, 14 + a, q2, fun h3 => ⟨va, 7 + a, q1, 6, q3, vb, ?_⟩, fun h3 => ⟨6, q4, vb, step _ ?_⟩⟩
    · rw [hroad, nI_z (by omega)]
      refine ⟨fun h4 => ⟨va, 7 + a, q1, 6, q3, vb, 6, q4, vb, ?_⟩, fun h4 => ⟨6, q4, vb, step _ ?_⟩⟩
      · rw [hroad]
        exact step _ (by unfold fw0; rw [if_neg h3, if_neg h4])
      · unfold fw0; rw [if_neg h3, if_pos h4]
    · unfold fw0; rw [if_pos h3]
theorem mea2 (hF0 : Fx M0) (hT : mi M0 1 8 = nI T) (h6 : T ≤ 6) (hrd : ∀ a b, rd a b ≤ 50) (hr : ∀ a b, a < 6 → b < 6 → mi M0 (7 + a) b = nI (rd a b))
    (H : ∀ M2, Fx M2 → FrG R14 [] M0 M2 → (∀ x y, x < T → y < T → mi M2 (14 + x) y = nI (fw0 rd x y)) → Ex (d + 1) m_Land_measure bc bs 75 [some (.ref 1), some (.int (nI 0)), none, none] [] M2 Φ) :
    ∀ (n a : Nat) (M : Mem), a + n = T → Fx M → FrG R14 [] M0 M → (∀ x y, x < a → y < T → mi M (14 + x) y = nI (fw0 rd x y)) → Ex (d + 1) m_Land_measure bc bs 2 [some (.ref 1), some (.int (nI a)), none, none] [] M Φ := by
  intro n
  induction n with
  | zero =>
    intro a M hb hF hfr hg
    obtain rfl : a = T := by omega
    refine k_Land_measure_2 hF ⟨fun _ => H M hF hfr hg, fun h1 => absurd ?_ h1⟩
    rw [hfr.row (by have := hF0.len; omega) (R14_no (by omega)), hT]; exact nI_le (Nat.le_refl _) (by omega)
  | succ n ih =>
    intro a M hb hF hfr hg
    have hT' : mi M 1 8 = nI T := by rw [hfr.row (by have := hF0.len; omega) (R14_no (by omega)), hT]
    refine k_Land_measure_2 hF ⟨fun h2 => absurd h2 (by rw [hT', nI_leI (by omega) (by omega)]; omega), fun h2 => ?_⟩
    exact mea12 hF0 hT h6 (by omega) hrd hr (fun M2 hF2 hfr2 hg2 => ih (a + 1) M2 (by omega) hF2 hfr2 (fun x y hx hy => hg2 x y (by omega) hy)) T 0 M (by omega) hF hfr (fun x y hx hy hxy => hg x y (by omega) hy)
theorem mea95 {f : Nat → Nat → Nat} {m a : Nat} (hF0 : Fx M0) (hT : mi M0 1 8 = nI T) (h6 : T ≤ 6) (hm : m < T) (ha : a < T) (h99 : LE99 f)
    (H : ∀ M2, Fx M2 → FrG R14 [] M0 M2 → (∀ x y, x < T → y < T → mi M2 (14 + x) y = nI (fwB f m a T x y)) → Ex (d + 1) m_Land_measure bc bs 85 [some (.ref 1), some (.int (nI m)), some (.int (nI (a + 1))), none] [] M2 Φ) :
    ∀ (n b : Nat) (M : Mem), b + n = T → Fx M → FrG R14 [] M0 M → (∀ x y, x < T → y < T → mi M (14 + x) y = nI (fwB f m a b x y)) → Ex (d + 1) m_Land_measure bc bs 95 [some (.ref 1), some (.int (nI m)), some (.int (nI a)), some (.int (nI b))] [] M Φ := by
  intro n
  induction n with
  | zero =>
    intro b M hb hF hfr hg
    obtain rfl : b = T := by omega
    refine k_Land_measure_95 hF ⟨fun _ => ?_, fun h1 => absurd ?_ h1⟩
    · rw [nI_add]; exact H M hF hfr hg
    · rw [hfr.row (by have := hF0.len; omega) (R14_no (by omega)), hT]; exact nI_le (Nat.le_refl _) (by omega)
  | succ n ih =>
    intro b M hb hF hfr hg
    have hT' : mi M 1 8 = nI T := by rw [hfr.row (by have := hF0.len; omega) (R14_no (by omega)), hT]
    have h1 := fwB_99 (m := m) (a := a) h99 b
    have e1 := hg a b (by omega) (by omega)
    have e2 := hg a m (by omega) (by omega)
    have e3 := hg m b (by omega) (by omega)
    have l1 := h1 a b
    have l2 := h1 a m
    have l3 := h1 m b
    obtain ⟨q1, q2, q3, q4⟩ := ref7 hF (a := a) (by omega)
    obtain ⟨p1, p2, p3, p4⟩ := ref7 hF (a := m) (by omega)
    have va : vp_in (nI a) 6 := vp_in_nI (by omega) (by omega)
    have vb : vp_in (nI b) 6 := vp_in_nI (by omega) (by omega)
    have vm : vp_in (nI m) 6 := vp_in_nI (by omega) (by omega)
    refine k_Land_measure_95 hF ⟨fun h2 => absurd h2 (by rw [hT', nI_leI (by omega) (by omega)]; omega), fun h2 => ?_⟩
    rw [nI_clamp (by omega), nI_clamp (by omega), nI_clamp (by omega), nI_add]
    refine ⟨va, 14 + a, q2, va, 14 + a, q2, 6, q4, vb, va, 14 + a, q2, 6, q4, vm, vm, 14 + m, p2, 6, p4, vb, 6, q4, vb, ?_⟩
    rw [e1, e2, e3, nI_add]
    have ev : (if nI (fwB f m a b a m + fwB f m a b m b) < nI (fwB f m a b a b) then nI (fwB f m a b a m + fwB f m a b m b) else nI (fwB f m a b a b)) = nI (min (fwB f m a b a b) (fwB f m a b a m + fwB f m a b m b)) := by
      split <;> rename_i q <;> rw [nI_ltI (by omega) (by omega)] at q <;> congr 1 <;> omega
    rw [ev]
    exact ih (b + 1) _ (by omega) hF.fwi (hfr.fwi (R14_in (by omega))) (G14_set hg)
theorem mea85 {f : Nat → Nat → Nat} {m : Nat} (hF0 : Fx M0) (hT : mi M0 1 8 = nI T) (h6 : T ≤ 6) (hm : m < T) (h99 : LE99 f)
    (H : ∀ M2, Fx M2 → FrG R14 [] M0 M2 → (∀ x y, x < T → y < T → mi M2 (14 + x) y = nI (fwA T f m T x y)) → Ex (d + 1) m_Land_measure bc bs 75 [some (.ref 1), some (.int (nI (m + 1))), none, none] [] M2 Φ) :
    ∀ (n a : Nat) (M : Mem), a + n = T → Fx M → FrG R14 [] M0 M → (∀ x y, x < T → y < T → mi M (14 + x) y = nI (fwA T f m a x y)) → Ex (d + 1) m_Land_measure bc bs 85 [some (.ref 1), some (.int (nI m)), some (.int (nI a)), none] [] M Φ := by
  intro n
  induction n with
  | zero =>
    intro a M ha hF hfr hg
    obtain rfl : a = T := by omega
    refine k_Land_measure_85 hF ⟨fun _ => ?_, fun h1 => absurd ?_ h1⟩
    · rw [nI_add]; exact H M hF hfr hg
    · rw [hfr.row (by have := hF0.len; omega) (R14_no (by omega)), hT]; exact nI_le (Nat.le_refl _) (by omega)
  | succ n ih =>
    intro a M ha hF hfr hg
    have hT' : mi M 1 8 = nI T := by rw [hfr.row (by have := hF0.len; omega) (R14_no (by omega)), hT]
    refine k_Land_measure_85 hF ⟨fun h2 => absurd h2 (by rw [hT', nI_leI (by omega) (by omega)]; omega), fun h2 => ?_⟩
    exact mea95 hF0 hT h6 hm (by omega) (fwA_99 h99 a) (fun M2 hF2 hfr2 hg2 => ih (a + 1) M2 (by omega) hF2 hfr2 hg2) T 0 M (by omega) hF hfr hg
theorem mea75 {f : Nat → Nat → Nat} (hF0 : Fx M0) (hT : mi M0 1 8 = nI T) (h6 : T ≤ 6) (h99 : LE99 f) (H : ∀ M2, Fx M2 → FrG R14 [] M0 M2 → (∀ x y, x < T → y < T → mi M2 (14 + x) y = nI (fwM T f T x y)) → Φ none M2) :
    ∀ (n m : Nat) (M : Mem), m + n = T → Fx M → FrG R14 [] M0 M → (∀ x y, x < T → y < T → mi M (14 + x) y = nI (fwM T f m x y)) → Ex (d + 1) m_Land_measure bc bs 75 [some (.ref 1), some (.int (nI m)), none, none] [] M Φ := by
  intro n
  induction n with
  | zero =>
    intro m M hm hF hfr hg
    obtain rfl : m = T := by omega
    refine k_Land_measure_75 hF ⟨fun _ => H M hF hfr hg, fun h1 => absurd ?_ h1⟩
    rw [hfr.row (by have := hF0.len; omega) (R14_no (by omega)), hT]; exact nI_le (Nat.le_refl _) (by omega)
  | succ n ih =>
    intro m M hm hF hfr hg
    have hT' : mi M 1 8 = nI T := by rw [hfr.row (by have := hF0.len; omega) (R14_no (by omega)), hT]
    refine k_Land_measure_75 hF ⟨fun h2 => absurd h2 (by rw [hT', nI_leI (by omega) (by omega)]; omega), fun h2 => ?_⟩
    exact mea85 hF0 hT h6 (by omega) (fwM_99 h99 m) (fun M2 hF2 hfr2 hg2 => ih (m + 1) M2 (by omega) hF2 hfr2 hg2) T 0 M (by omega) hF hfr hg
end MEB
theorem sx_measure {d T : Nat} {rd : Nat → Nat → Nat} {M : Mem} {K : Mem → Prop} (hF : Fx M) (hT : mi M 1 8 = nI T) (h6 : T ≤ 6) (hrd : ∀ a b, rd a b ≤ 50) (hr : ∀ a b, a < 6 → b < 6 → mi M (7 + a) b = nI (rd a b)) (h : ∀ M2, Fx M2 → FrG R14 [] M M2 → (∀ x y, x < T → y < T → mi M2 (14 + x) y = nI (far T rd x y)) → K M2) : Con (d + 1) m_Land_measure 0 0 [.ref 1] M (PV K) := by
  refine Con.ent (k := 3) F_Land_measure.1 rfl (Nat.le_of_ble_eq_true rfl) (k_Land_measure_0 hF ?_)
  refine mea2 hF hT h6 hrd hr (fun M2 hF2 hfr2 hg2 => ?_) T 0 M (by omega) hF (FrG.rf _ _) (fun a b h _ => absurd h (Nat.not_lt_zero _))
  exact mea75 hF hT h6 (fw0_99 hrd) (fun M3 hF3 hfr3 hg3 => ⟨rfl, h M3 hF3 hfr3 hg3⟩) T 0 M2 (by omega) hF2 hfr2 hg2
theorem ref28 {M : Mem} (hF : Fx M) {a : Nat} (ha : a < 6) : mr M 27 a = some (28 + a) ∧ mr M 34 a = some (35 + a) ∧ (sh M)[28 + a]? = some (100, 6) ∧ (sh M)[35 + a]? = some (100, 6) := by
  rcases (show a = 0 ∨ a = 1 ∨ a = 2 ∨ a = 3 ∨ a = 4 ∨ a = 5 by omega) with rfl | rfl | rfl | rfl | rfl | rfl <;> exact ⟨hF.r rfl rfl, hF.r rfl rfl, hF.s rfl, hF.s rfl⟩
def R35 : List Nat := [35 + 0, 35 + 1, 35 + 2, 35 + 3, 35 + 4, 35 + 5]
theorem R35_in {a : Nat} (ha : a < 6) : 35 + a ∈ R35 := by
  rcases (show a = 0 ∨ a = 1 ∨ a = 2 ∨ a = 3 ∨ a = 4 ∨ a = 5 by omega) with rfl | rfl | rfl | rfl | rfl | rfl <;> decide
theorem R35_no {a : Nat} (ha : a < 35 ∨ 35 + 6 ≤ a) : a ∉ R35 := by
  intro h
  simp only [R35, List.mem_cons, List.not_mem_nil, or_false] at h
  omega
section MEB_k
variable {d bc bs T : Nat} {rd : Nat → Nat → Nat} {M0 : Mem} {Φ : Option Value → Mem → Prop}
theorem G35_set {M : Mem} {f : Nat → Nat → Nat} {a b v : Nat} (h : ∀ x y, x < T → y < T → mi M (35 + x) y = nI (f x y)) : ∀ x y, x < T → y < T → mi (wi M (35 + a) b (nI v)) (35 + x) y = nI (u2 f a b v x y) := fun x y hx hy => by
  unfold u2 u1
  by_cases h1 : x = a
  · subst h1
    rw [mi_s, if_pos rfl]
    by_cases h2 : y = b
    · rw [if_pos h2, if_pos h2]
    · rw [if_neg h2, if_neg h2]; exact h x y hx hy
  · rw [mi_n (by omega), if_neg h1]; exact h x y hx hy
/-- the first loops: roads alone -/
theorem mea_k12 {a : Nat} (hF0 : Fx M0) (hT : mi M0 22 8 = nI T) (h6 : T ≤ 6) (ha : a < T) (hrd : ∀ a b, rd a b ≤ 50) (hr : ∀ a b, a < 6 → b < 6 → mi M0 (28 + a) b = nI (rd a b))
    (H : ∀ M2, Fx M2 → FrG R35 [] M0 M2 → (∀ x y, x ≤ a → y < T → mi M2 (35 + x) y = nI (fw0 rd x y)) → Ex (d + 1) m_Land_measure bc bs 2 [some (.ref 22), some (.int (nI (a + 1))), none, none] [] M2 Φ) :
    ∀ (n b : Nat) (M : Mem), b + n = T → Fx M → FrG R35 [] M0 M → (∀ x y, x ≤ a → y < T → (x < a ∨ y < b) → mi M (35 + x) y = nI (fw0 rd x y)) → Ex (d + 1) m_Land_measure bc bs 12 [some (.ref 22), some (.int (nI a)), some (.int (nI b)), none] [] M Φ := by
  intro n
  induction n with
  | zero =>
    intro b M hb hF hfr hg
    obtain rfl : b = T := by omega
    refine k_Land_measure_k_12 hF ⟨fun _ => ?_, fun h1 => absurd ?_ h1⟩
    · rw [nI_add]; exact H M hF hfr (fun x y hx hy => hg x y hx hy (Or.inr hy))
    · rw [hfr.row (by have := hF0.len; omega) (R35_no (by omega)), hT]; exact nI_le (Nat.le_refl _) (by omega)
  | succ n ih =>
    intro b M hb hF hfr hg
    have hT' : mi M 22 8 = nI T := by rw [hfr.row (by have := hF0.len; omega) (R35_no (by omega)), hT]
    have hroad : mi M (28 + a) b = nI (rd a b) := by rw [hfr.row (by have := hF0.len; omega) (R35_no (by omega)), hr a b (by omega) (by omega)]
    obtain ⟨q1, q2, q3, q4⟩ := ref28 hF (a := a) (by omega)
    have hrb := hrd a b
    have step : ∀ v, v = nI (fw0 rd a b) → Ex (d + 1) m_Land_measure bc bs 12 [some (.ref 22), some (.int (nI a)), some (.int (nI (b + 1))), none] [] (wi M (35 + a) b v) Φ := by
      intro v hv
      refine ih (b + 1) _ (by omega) hF.fwi (hfr.fwi (R35_in (by omega))) (fun x y hx hy hxy => ?_)
      by_cases h1 : x = a
      · subst h1
        rw [mi_s]
        by_cases h2 : y = b
        · rw [if_pos h2, hv, h2]
        · rw [if_neg h2]; exact hg x y hx hy (by omega)
      · rw [mi_n (by omega)]; exact hg x y hx hy (by omega)
    have va : vp_in (nI a) 6 := vp_in_nI (by omega) (by omega)
    have vb : vp_in (nI b) 6 := vp_in_nI (by omega) (by omega)
    refine k_Land_measure_k_12 hF ⟨fun h2 => absurd h2 (by rw [hT', nI_leI (by omega) (by omega)]; omega), fun h2 => ?_⟩
    rw [nI_clamp (by omega), nI_clamp (by omega), nI_eq (by omega) (by omega), nI_add]
    refine ⟨va, 35 + a, q2, fun h3 => ⟨va, 28 + a, q1, 6, q3, vb, ?_⟩, fun h3 => ⟨6, q4, vb, step _ ?_⟩⟩
    · rw [hroad, nI_z (by omega)]
      refine ⟨fun h4 => ⟨va, 28 + a, q1, 6, q3, vb, 6, q4, vb, ?_⟩, fun h4 => ⟨6, q4, vb, step _ ?_⟩⟩
      · rw [hroad]
        exact step _ (by unfold fw0; rw [if_neg h3, if_neg h4])
      · unfold fw0; rw [if_neg h3, if_pos h4]
    · unfold fw0; rw [if_pos h3]
theorem mea_k2 (hF0 : Fx M0) (hT : mi M0 22 8 = nI T) (h6 : T ≤ 6) (hrd : ∀ a b, rd a b ≤ 50) (hr : ∀ a b, a < 6 → b < 6 → mi M0 (28 + a) b = nI (rd a b))
    (H : ∀ M2, Fx M2 → FrG R35 [] M0 M2 → (∀ x y, x < T → y < T → mi M2 (35 + x) y = nI (fw0 rd x y)) → Ex (d + 1) m_Land_measure bc bs 75 [some (.ref 22), some (.int (nI 0)), none, none] [] M2 Φ) :
    ∀ (n a : Nat) (M : Mem), a + n = T → Fx M → FrG R35 [] M0 M → (∀ x y, x < a → y < T → mi M (35 + x) y = nI (fw0 rd x y)) → Ex (d + 1) m_Land_measure bc bs 2 [some (.ref 22), some (.int (nI a)), none, none] [] M Φ := by
  intro n
  induction n with
  | zero =>
    intro a M hb hF hfr hg
    obtain rfl : a = T := by omega
    refine k_Land_measure_k_2 hF ⟨fun _ => H M hF hfr hg, fun h1 => absurd ?_ h1⟩
    rw [hfr.row (by have := hF0.len; omega) (R35_no (by omega)), hT]; exact nI_le (Nat.le_refl _) (by omega)
  | succ n ih =>
    intro a M hb hF hfr hg
    have hT' : mi M 22 8 = nI T := by rw [hfr.row (by have := hF0.len; omega) (R35_no (by omega)), hT]
    refine k_Land_measure_k_2 hF ⟨fun h2 => absurd h2 (by rw [hT', nI_leI (by omega) (by omega)]; omega), fun h2 => ?_⟩
    exact mea_k12 hF0 hT h6 (by omega) hrd hr (fun M2 hF2 hfr2 hg2 => ih (a + 1) M2 (by omega) hF2 hfr2 (fun x y hx hy => hg2 x y (by omega) hy)) T 0 M (by omega) hF hfr (fun x y hx hy hxy => hg x y (by omega) hy)
theorem mea_k95 {f : Nat → Nat → Nat} {m a : Nat} (hF0 : Fx M0) (hT : mi M0 22 8 = nI T) (h6 : T ≤ 6) (hm : m < T) (ha : a < T) (h99 : LE99 f)
    (H : ∀ M2, Fx M2 → FrG R35 [] M0 M2 → (∀ x y, x < T → y < T → mi M2 (35 + x) y = nI (fwB f m a T x y)) → Ex (d + 1) m_Land_measure bc bs 85 [some (.ref 22), some (.int (nI m)), some (.int (nI (a + 1))), none] [] M2 Φ) :
    ∀ (n b : Nat) (M : Mem), b + n = T → Fx M → FrG R35 [] M0 M → (∀ x y, x < T → y < T → mi M (35 + x) y = nI (fwB f m a b x y)) → Ex (d + 1) m_Land_measure bc bs 95 [some (.ref 22), some (.int (nI m)), some (.int (nI a)), some (.int (nI b))] [] M Φ := by
  intro n
  induction n with
  | zero =>
    intro b M hb hF hfr hg
    obtain rfl : b = T := by omega
    refine k_Land_measure_k_95 hF ⟨fun _ => ?_, fun h1 => absurd ?_ h1⟩
    · rw [nI_add]; exact H M hF hfr hg
    · rw [hfr.row (by have := hF0.len; omega) (R35_no (by omega)), hT]; exact nI_le (Nat.le_refl _) (by omega)
  | succ n ih =>
    intro b M hb hF hfr hg
    have hT' : mi M 22 8 = nI T := by rw [hfr.row (by have := hF0.len; omega) (R35_no (by omega)), hT]
    have h1 := fwB_99 (m := m) (a := a) h99 b
    have e1 := hg a b (by omega) (by omega)
    have e2 := hg a m (by omega) (by omega)
    have e3 := hg m b (by omega) (by omega)
    have l1 := h1 a b
    have l2 := h1 a m
    have l3 := h1 m b
    obtain ⟨q1, q2, q3, q4⟩ := ref28 hF (a := a) (by omega)
    obtain ⟨p1, p2, p3, p4⟩ := ref28 hF (a := m) (by omega)
    have va : vp_in (nI a) 6 := vp_in_nI (by omega) (by omega)
    have vb : vp_in (nI b) 6 := vp_in_nI (by omega) (by omega)
    have vm : vp_in (nI m) 6 := vp_in_nI (by omega) (by omega)
    refine k_Land_measure_k_95 hF ⟨fun h2 => absurd h2 (by rw [hT', nI_leI (by omega) (by omega)]; omega), fun h2 => ?_⟩
    rw [nI_clamp (by omega), nI_clamp (by omega), nI_clamp (by omega), nI_add]
    refine ⟨va, 35 + a, q2, va, 35 + a, q2, 6, q4, vb, va, 35 + a, q2, 6, q4, vm, vm, 35 + m, p2, 6, p4, vb, 6, q4, vb, ?_⟩
    rw [e1, e2, e3, nI_add]
    have ev : (if nI (fwB f m a b a m + fwB f m a b m b) < nI (fwB f m a b a b) then nI (fwB f m a b a m + fwB f m a b m b) else nI (fwB f m a b a b)) = nI (min (fwB f m a b a b) (fwB f m a b a m + fwB f m a b m b)) := by
      split <;> rename_i q <;> rw [nI_ltI (by omega) (by omega)] at q <;> congr 1 <;> omega
    rw [ev]
    exact ih (b + 1) _ (by omega) hF.fwi (hfr.fwi (R35_in (by omega))) (G35_set hg)
theorem mea_k85 {f : Nat → Nat → Nat} {m : Nat} (hF0 : Fx M0) (hT : mi M0 22 8 = nI T) (h6 : T ≤ 6) (hm : m < T) (h99 : LE99 f)
    (H : ∀ M2, Fx M2 → FrG R35 [] M0 M2 → (∀ x y, x < T → y < T → mi M2 (35 + x) y = nI (fwA T f m T x y)) → Ex (d + 1) m_Land_measure bc bs 75 [some (.ref 22), some (.int (nI (m + 1))), none, none] [] M2 Φ) :
    ∀ (n a : Nat) (M : Mem), a + n = T → Fx M → FrG R35 [] M0 M → (∀ x y, x < T → y < T → mi M (35 + x) y = nI (fwA T f m a x y)) → Ex (d + 1) m_Land_measure bc bs 85 [some (.ref 22), some (.int (nI m)), some (.int (nI a)), none] [] M Φ := by
  intro n
  induction n with
  | zero =>
    intro a M ha hF hfr hg
    obtain rfl : a = T := by omega
    refine k_Land_measure_k_85 hF ⟨fun _ => ?_, fun h1 => absurd ?_ h1⟩
    · rw [nI_add]; exact H M hF hfr hg
    · rw [hfr.row (by have := hF0.len; omega) (R35_no (by omega)), hT]; exact nI_le (Nat.le_refl _) (by omega)
  | succ n ih =>
    intro a M ha hF hfr hg
    have hT' : mi M 22 8 = nI T := by rw [hfr.row (by have := hF0.len; omega) (R35_no (by omega)), hT]
    refine k_Land_measure_k_85 hF ⟨fun h2 => absurd h2 (by rw [hT', nI_leI (by omega) (by omega)]; omega), fun h2 => ?_⟩
    exact mea_k95 hF0 hT h6 hm (by omega) (fwA_99 h99 a) (fun M2 hF2 hfr2 hg2 => ih (a + 1) M2 (by omega) hF2 hfr2 hg2) T 0 M (by omega) hF hfr hg
theorem mea_k75 {f : Nat → Nat → Nat} (hF0 : Fx M0) (hT : mi M0 22 8 = nI T) (h6 : T ≤ 6) (h99 : LE99 f) (H : ∀ M2, Fx M2 → FrG R35 [] M0 M2 → (∀ x y, x < T → y < T → mi M2 (35 + x) y = nI (fwM T f T x y)) → Φ none M2) :
    ∀ (n m : Nat) (M : Mem), m + n = T → Fx M → FrG R35 [] M0 M → (∀ x y, x < T → y < T → mi M (35 + x) y = nI (fwM T f m x y)) → Ex (d + 1) m_Land_measure bc bs 75 [some (.ref 22), some (.int (nI m)), none, none] [] M Φ := by
  intro n
  induction n with
  | zero =>
    intro m M hm hF hfr hg
    obtain rfl : m = T := by omega
    refine k_Land_measure_k_75 hF ⟨fun _ => H M hF hfr hg, fun h1 => absurd ?_ h1⟩
    rw [hfr.row (by have := hF0.len; omega) (R35_no (by omega)), hT]; exact nI_le (Nat.le_refl _) (by omega)
  | succ n ih =>
    intro m M hm hF hfr hg
    have hT' : mi M 22 8 = nI T := by rw [hfr.row (by have := hF0.len; omega) (R35_no (by omega)), hT]
    refine k_Land_measure_k_75 hF ⟨fun h2 => absurd h2 (by rw [hT', nI_leI (by omega) (by omega)]; omega), fun h2 => ?_⟩
    exact mea_k85 hF0 hT h6 (by omega) (fwM_99 h99 m) (fun M2 hF2 hfr2 hg2 => ih (m + 1) M2 (by omega) hF2 hfr2 hg2) T 0 M (by omega) hF hfr hg
end MEB_k
theorem sx_measure_k {d T : Nat} {rd : Nat → Nat → Nat} {M : Mem} {K : Mem → Prop} (hF : Fx M) (hT : mi M 22 8 = nI T) (h6 : T ≤ 6) (hrd : ∀ a b, rd a b ≤ 50) (hr : ∀ a b, a < 6 → b < 6 → mi M (28 + a) b = nI (rd a b)) (h : ∀ M2, Fx M2 → FrG R35 [] M M2 → (∀ x y, x < T → y < T → mi M2 (35 + x) y = nI (far T rd x y)) → K M2) : Con (d + 1) m_Land_measure 0 0 [.ref 22] M (PV K) := by
  refine Con.ent (k := 3) F_Land_measure.1 rfl (Nat.le_of_ble_eq_true rfl) (k_Land_measure_k_0 hF ?_)
  refine mea_k2 hF hT h6 hrd hr (fun M2 hF2 hfr2 hg2 => ?_) T 0 M (by omega) hF (FrG.rf _ _) (fun a b h _ => absurd h (Nat.not_lt_zero _))
  exact mea_k75 hF hT h6 (fw0_99 hrd) (fun M3 hF3 hfr3 hg3 => ⟨rfl, h M3 hF3 hfr3 hg3⟩) T 0 M2 (by omega) hF2 hfr2 hg2
