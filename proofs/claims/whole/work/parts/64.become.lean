/-! Land.become, for an image and back -/
theorem mi_if (M : Mem) (j k : Nat) (v : Int32) (i q : Nat) : mi (wi M j k v) i q = if i = j ∧ q = k then v else mi M i q := by
  by_cases h : i = j
  · subst h
    rw [mi_w]
    by_cases h2 : q = k
    · subst h2; rw [u1_s, if_pos ⟨rfl, rfl⟩]
    · rw [u1_n h2, if_neg (fun w => h2 w.2)]
  · rw [mi_n h, if_neg (fun w => h w.1)]
def mrg (T : Nat) (r0 r1 : Nat → Nat → Nat) : Nat → Nat → Nat := fun a b => if a < T ∨ b < T then r0 a b else r1 a b
theorem nI_max {a b : Nat} (ha : a < 2 ^ 31) (hb : b < 2 ^ 31) : (if nI b < nI a then nI a else nI b) = nI (max a b) := by
  by_cases q : b < a
  · rw [if_pos (nI_lt q ha), Nat.max_eq_left (by omega)]
  · rw [if_neg (nI_nlt (by omega) hb), Nat.max_eq_right (by omega)]
def LD_k : List Nat := [24, 25, 26] ++ ([0, 1, 2, 3, 4, 5].map (fun a => 28 + a))
def LF_k : List Nat := [22, 41, 42] ++ LD_k ++ R35
theorem LD_k_7 {a : Nat} (h : a < 6) : 28 + a ∈ LD_k := by
  rcases (show a = 0 ∨ a = 1 ∨ a = 2 ∨ a = 3 ∨ a = 4 ∨ a = 5 by omega) with rfl | rfl | rfl | rfl | rfl | rfl <;> decide
theorem LD_k_no {j : Nat} (h : ¬ (24 ≤ j ∧ j ≤ 28 + 5)) : j ∉ LD_k := fun hm => h (by
  have : ∀ j ∈ LD_k, 24 ≤ j ∧ j ≤ 28 + 5 := by decide
  exact this j hm)
section BEC_k
variable {d bc bs T0 T1 F : Nat} {r0 r1 : Nat → Nat → Nat} {M0 : Mem} {Φ : Option Value → Mem → Prop}
theorem bec_k48 {a : Nat} (hF0 : Fx M0) (hT : mi M0 1 8 = nI T0) (h6 : T0 ≤ 6) (ha : a < T0) (hr : ∀ a b, a < 6 → b < 6 → mi M0 (7 + a) b = nI (r0 a b)) (hs : ∀ a b, r0 a b = r0 b a ∧ (T0 ≤ a → r0 a b = 0))
    (H : ∀ M2, Fx M2 → FrG LD_k [] M0 M2 → (∀ x y, x < 6 → y < 6 → mi M2 (28 + x) y = nI (if x < a + 1 ∨ y < a + 1 then r0 x y else r1 x y)) → (∀ t, mi M2 24 t = if t < a + 1 then mi M0 3 t else mi M0 24 t) → (∀ t, mi M2 25 t = if t < a + 1 then mi M0 4 t else mi M0 25 t) → (∀ t, mi M2 26 t = if t < a + 1 then mi M0 5 t else mi M0 26 t) → Ex (d + 1) m_Land_become bc bs 2 [some (.ref 22), some (.ref 1), some (.int (nI (a + 1))), none, none] [] M2 Φ) :
    ∀ (n b : Nat) (M : Mem), b + n = 6 → Fx M → FrG LD_k [] M0 M → (∀ x y, x < 6 → y < 6 → mi M (28 + x) y = nI (if x < a ∨ y < a ∨ (x = a ∧ y < b) ∨ (y = a ∧ x < b) then r0 x y else r1 x y)) → (∀ t, mi M 24 t = if t < a + 1 then mi M0 3 t else mi M0 24 t) → (∀ t, mi M 25 t = if t < a + 1 then mi M0 4 t else mi M0 25 t) → (∀ t, mi M 26 t = if t < a + 1 then mi M0 5 t else mi M0 26 t) → Ex (d + 1) m_Land_become bc bs 48 [some (.ref 22), some (.ref 1), some (.int (nI a)), some (.int (nI b)), none] [] M Φ := by
  have hl := hF0.len
  intro n
  induction n with
  | zero =>
    intro b M hb hF hfr hg g3 g4 g5
    obtain rfl : b = 6 := by omega
    refine k_Land_become_k_48 hF ⟨fun _ => ?_, fun q => absurd (nI_le (Nat.le_refl _) (by omega)) q⟩
    rw [nI_add]
    refine H M hF hfr (fun x y hx hy => ?_) g3 g4 g5
    rw [hg x y hx hy]
    by_cases c : x < a ∨ y < a ∨ (x = a ∧ y < 6) ∨ (y = a ∧ x < 6)
    · rw [if_pos c, if_pos (by omega)]
    · rw [if_neg c, if_neg (by omega)]
  | succ n ih =>
    intro b M hb hF hfr hg g3 g4 g5
    obtain ⟨p1, p2, p3, p4⟩ := ref28 hF (a := a) (by omega)
    obtain ⟨q1, q2, q3, q4⟩ := ref28 hF (a := b) (by omega)
    obtain ⟨t1, t2, t3, t4⟩ := ref7 hF (a := a) (by omega)
    have va := vN (show a < 6 by omega) (by decide)
    have vb := vN (show b < 6 by omega) (by decide)
    have go : ∀ v, v = nI (r0 a b) → Ex (d + 1) m_Land_become bc bs 48 [some (.ref 22), some (.ref 1), some (.int (nI a)), some (.int (nI (b + 1))), none] [] (wi (wi M (28 + a) b v) (28 + b) a v) Φ := by
      intro v hv
      have n1 : ∀ j, j < 28 → mi (wi (wi M (28 + a) b v) (28 + b) a v) j = mi M j := fun j hj => by rw [mi_n (by omega), mi_n (by omega)]
      refine ih (b + 1) _ (by omega) hF.fwi.fwi ((hfr.fwi (LD_k_7 (by omega))).fwi (LD_k_7 (by omega))) (fun x y hx hy => ?_) (by rw [n1 24 (by omega)]; exact g3) (by rw [n1 25 (by omega)]; exact g4) (by rw [n1 26 (by omega)]; exact g5)
      rw [mi_if, mi_if]
      by_cases y1 : 28 + x = 28 + b ∧ y = a
      · obtain ⟨rfl, rfl⟩ : x = b ∧ y = a := ⟨by omega, y1.2⟩
        rw [if_pos y1, if_pos (by omega), hv, (hs y x).1]
      · rw [if_neg y1]
        by_cases y2 : 28 + x = 28 + a ∧ y = b
        · obtain ⟨rfl, rfl⟩ : x = a ∧ y = b := ⟨by omega, y2.2⟩
          rw [if_pos y2, if_pos (by omega), hv]
        · rw [if_neg y2, hg x y hx hy]
          by_cases c : x < a ∨ y < a ∨ (x = a ∧ y < b) ∨ (y = a ∧ x < b)
          · rw [if_pos c, if_pos (by omega)]
          · rw [if_neg c, if_neg (by omega)]
    refine k_Land_become_k_48 hF ?_
    rw [hfr.row (j := 1) (by omega) (LD_k_no (by decide)), hT, nI_clamp (by omega), nI_clamp (by omega), nI_add, nI_add]
    refine ⟨fun q => absurd q (by rw [nI_leI (by omega) (by omega)]; omega), fun _ => ⟨fun q => ?_, fun q => ?_⟩⟩
    · rw [nI_leI (by omega) (by omega)] at q
      exact ⟨va, _, p1, 6, p3, vb, vb, _, q1, 6, q3, va, go _ (by rw [(hs a b).1, (hs b a).2 q])⟩
    · refine ⟨va, _, t1, 6, t3, vb, va, _, p1, 6, p3, vb, vb, _, q1, 6, q3, va, ?_⟩
      have e : mi M (7 + a) b = nI (r0 a b) := by rw [hfr.row (j := 7 + a) (by omega) (LD_k_no (by omega))]; exact hr a b (by omega) (by omega)
      rw [e]
      exact go _ rfl
theorem bec_k2 (hF0 : Fx M0) (hT : mi M0 1 8 = nI T0) (h6 : T0 ≤ 6) (hr : ∀ a b, a < 6 → b < 6 → mi M0 (7 + a) b = nI (r0 a b)) (hs : ∀ a b, r0 a b = r0 b a ∧ (T0 ≤ a → r0 a b = 0))
    (H : ∀ M2, Fx M2 → FrG LD_k [] M0 M2 → (∀ x y, x < 6 → y < 6 → mi M2 (28 + x) y = nI (mrg T0 r0 r1 x y)) → (∀ t, mi M2 24 t = if t < T0 then mi M0 3 t else mi M0 24 t) → (∀ t, mi M2 25 t = if t < T0 then mi M0 4 t else mi M0 25 t) → (∀ t, mi M2 26 t = if t < T0 then mi M0 5 t else mi M0 26 t) → Ex (d + 1) m_Land_become bc bs 110 [some (.ref 22), some (.ref 1), some (.int (nI 0)), none, none] [] M2 Φ) :
    ∀ (n a : Nat) (M : Mem), a + n = T0 → Fx M → FrG LD_k [] M0 M → (∀ x y, x < 6 → y < 6 → mi M (28 + x) y = nI (if x < a ∨ y < a then r0 x y else r1 x y)) → (∀ t, mi M 24 t = if t < a then mi M0 3 t else mi M0 24 t) → (∀ t, mi M 25 t = if t < a then mi M0 4 t else mi M0 25 t) → (∀ t, mi M 26 t = if t < a then mi M0 5 t else mi M0 26 t) → Ex (d + 1) m_Land_become bc bs 2 [some (.ref 22), some (.ref 1), some (.int (nI a)), none, none] [] M Φ := by
  have hl := hF0.len
  intro n
  induction n with
  | zero =>
    intro a M hb hF hfr hg g3 g4 g5
    obtain rfl : a = T0 := by omega
    refine k_Land_become_k_2 hF ?_
    rw [hfr.row (j := 1) (by omega) (LD_k_no (by decide)), hT]
    exact ⟨fun _ => H M hF hfr hg g3 g4 g5, fun q => absurd (nI_le (Nat.le_refl _) (by omega)) q⟩
  | succ n ih =>
    intro a M hb hF hfr hg g3 g4 g5
    refine k_Land_become_k_2 hF ?_
    have va := vN (show a < 6 by omega) (by decide)
    rw [hfr.row (j := 1) (by omega) (LD_k_no (by decide)), hT, nI_clamp (by omega), hfr.row (j := 3) (by omega) (LD_k_no (by decide)), hfr.row (j := 4) (by omega) (LD_k_no (by decide)), hfr.row (j := 5) (by omega) (LD_k_no (by decide))]
    refine ⟨fun q => absurd q (by rw [nI_leI (by omega) (by omega)]; omega), fun _ => ⟨va, va, va, va, va, va, ?_⟩⟩
    refine bec_k48 hF0 hT h6 (show a < T0 by omega) hr hs (fun M2 hF2 f2 a1 a2 a3 a4 => ih (a + 1) M2 (by omega) hF2 f2 a1 a2 a3 a4) 6 0 _ rfl hF.fwi.fwi.fwi (((hfr.fwi (by decide)).fwi (by decide)).fwi (by decide)) (fun x y hx hy => ?_) (fun t => ?_) (fun t => ?_) (fun t => ?_)
    · rw [mi_n (by omega), mi_n (by omega), mi_n (by omega), hg x y hx hy]
      by_cases c : x < a ∨ y < a
      · rw [if_pos c, if_pos (by omega)]
      · rw [if_neg c, if_neg (by omega)]
    · rw [mi_n (i := 24) (j := 26) (by decide), mi_n (i := 24) (j := 25) (by decide), mi_w]
      by_cases y : t = a
      · subst y; rw [u1_s, if_pos (by omega)]
      · rw [u1_n y, g3 t]
        by_cases c : t < a
        · rw [if_pos c, if_pos (by omega)]
        · rw [if_neg c, if_neg (by omega)]
    · rw [mi_n (i := 25) (j := 26) (by decide), mi_w]
      by_cases y : t = a
      · subst y; rw [u1_s, if_pos (by omega)]
      · rw [u1_n y, mi_n (i := 25) (j := 24) (by decide), g4 t]
        by_cases c : t < a
        · rw [if_pos c, if_pos (by omega)]
        · rw [if_neg c, if_neg (by omega)]
    · rw [mi_w]
      by_cases y : t = a
      · subst y; rw [u1_s, if_pos (by omega)]
      · rw [u1_n y, mi_n (i := 26) (j := 25) (by decide), mi_n (i := 26) (j := 24) (by decide), g5 t]
        by_cases c : t < a
        · rw [if_pos c, if_pos (by omega)]
        · rw [if_neg c, if_neg (by omega)]
theorem bec_k110 (hF0 : Fx M0) (hFe : mi M0 1 10 = nI F) (hF10 : F ≤ 10)
    (H : ∀ M2, Fx M2 → FrG [41, 42] [] M0 M2 → (∀ t, t < F → mi M2 41 t = mi M0 20 t ∧ mi M2 42 t = mi M0 21 t) → Con d m_Land_measure 0 0 [.ref 22] (wi (wi (wi (wi M2 22 8 (if (mi M0 22 8) < (mi M0 1 8) then (mi M0 1 8) else (mi M0 22 8))) 22 9 (mi M0 1 9)) 22 10 (mi M0 1 10)) 22 11 (mi M0 1 11)) (PV fun M1 => Fx M1 ∧ Φ none M1)) :
    ∀ (n i : Nat) (M : Mem), i + n = F → Fx M → FrG [41, 42] [] M0 M → (∀ t, t < i → mi M 41 t = mi M0 20 t ∧ mi M 42 t = mi M0 21 t) → Ex (d + 1) m_Land_become bc bs 110 [some (.ref 22), some (.ref 1), some (.int (nI i)), none, none] [] M Φ := by
  have hl := hF0.len
  intro n
  induction n with
  | zero =>
    intro i M hb hF hfr hg
    obtain rfl : i = F := by omega
    have h1 := H M hF hfr hg
    refine k_Land_become_k_110 hF ?_
    rw [hfr.row (j := 1) (by omega) (by decide), hfr.row (j := 22) (by omega) (by decide), hFe]
    rw [hFe] at h1
    exact ⟨fun _ => h1, fun q => absurd (nI_le (Nat.le_refl _) (by omega)) q⟩
  | succ n ih =>
    intro i M hb hF hfr hg
    refine k_Land_become_k_110 hF ?_
    have vi := vN (show i < 10 by omega) (by decide)
    rw [hfr.row (j := 1) (by omega) (by decide), hFe, nI_clamp (by omega), nI_add, hfr.row (j := 20) (by omega) (by decide), hfr.row (j := 21) (by omega) (by decide)]
    refine ⟨fun q => absurd q (by rw [nI_leI (by omega) (by omega)]; omega), fun _ => ⟨vi, vi, vi, vi, ih (i + 1) _ (by omega) hF.fwi.fwi ((hfr.fwi (by decide)).fwi (by decide)) (fun t ht => ?_)⟩⟩
    rw [mi_n (i := 41) (j := 42) (by decide), mi_w, mi_w, mi_n (i := 42) (j := 41) (by decide)]
    by_cases y : t = i
    · subst y; rw [u1_s, u1_s]; exact ⟨rfl, rfl⟩
    · rw [u1_n y, u1_n y]; exact hg t (by omega)
end BEC_k
theorem sx_bec_k {d T0 T1 F : Nat} {r0 r1 : Nat → Nat → Nat} {M : Mem} {K : Mem → Prop} (hF : Fx M) (hT : mi M 1 8 = nI T0) (h6 : T0 ≤ 6) (hT1 : mi M 22 8 = nI T1) (h61 : T1 ≤ 6) (hFe : mi M 1 10 = nI F) (hF10 : F ≤ 10) (hr : ∀ a b, a < 6 → b < 6 → mi M (7 + a) b = nI (r0 a b)) (hr1 : ∀ a b, a < 6 → b < 6 → mi M (28 + a) b = nI (r1 a b)) (hs : ∀ a b, r0 a b = r0 b a ∧ (T0 ≤ a → r0 a b = 0)) (h50 : ∀ a b, r0 a b ≤ 50) (h51 : ∀ a b, r1 a b ≤ 50)
    (h : ∀ M2, Fx M2 → FrG LF_k [] M M2 → (mi M2 22 8 = nI (max T0 T1) ∧ mi M2 22 9 = mi M 1 9 ∧ mi M2 22 10 = mi M 1 10 ∧ mi M2 22 11 = mi M 1 11) → (∀ t, mi M2 24 t = if t < T0 then mi M 3 t else mi M 24 t) → (∀ t, mi M2 25 t = if t < T0 then mi M 4 t else mi M 25 t) → (∀ t, mi M2 26 t = if t < T0 then mi M 5 t else mi M 26 t) → (∀ x y, x < 6 → y < 6 → mi M2 (28 + x) y = nI (mrg T0 r0 r1 x y)) → (∀ x y, x < max T0 T1 → y < max T0 T1 → mi M2 (35 + x) y = nI (far (max T0 T1) (mrg T0 r0 r1) x y)) → (∀ t, t < F → mi M2 41 t = mi M 20 t ∧ mi M2 42 t = mi M 21 t) → K M2) : Con (d + 2) m_Land_become 0 0 [.ref 22, .ref 1] M (PV K) := by
  have hl := hF.len
  refine Con.ent (k := 3) F_Land_become.1 rfl (Nat.le_of_ble_eq_true rfl) (k_Land_become_k_0 hF ?_)
  refine bec_k2 hF hT h6 hr hs (fun M2 hF2 f2 a1 a3 a4 a5 => ?_) T0 0 M (by omega) hF (FrG.rf _ _) (fun x y hx hy => by rw [if_neg (by omega)]; exact hr1 x y hx hy) (fun t => by rw [if_neg (by omega)]) (fun t => by rw [if_neg (by omega)]) (fun t => by rw [if_neg (by omega)])
  have l2 := f2.len
  have eS : mi M2 1 = mi M 1 := f2.row (by omega) (LD_k_no (by decide))
  have eD : mi M2 22 = mi M 22 := f2.row (by omega) (LD_k_no (by decide))
  have ef : mi M2 20 = mi M 20 := f2.row (by omega) (LD_k_no (by decide))
  have eg : mi M2 21 = mi M 21 := f2.row (by omega) (LD_k_no (by decide))
  refine bec_k110 hF2 (by rw [eS]; exact hFe) hF10 (fun M3 hF3 f3 b1 => ?_) F 0 M2 (by omega) hF2 (FrG.rf _ _) (fun t ht => absurd ht (Nat.not_lt_zero _))
  have l3 := f3.len
  have n3 : ∀ j, j < 75 → j ≠ 41 → j ≠ 42 → mi M3 j = mi M2 j := fun j hj a b => f3.row (by omega) (by simp; omega)
  rw [eS, eD, hT, hT1, nI_max (by omega) (by omega)]
  have nw : ∀ j, j ≠ 22 → mi (wi (wi (wi (wi M3 22 8 (nI (max T0 T1))) 22 9 (mi M 1 9)) 22 10 (mi M 1 10)) 22 11 (mi M 1 11)) j = mi M3 j := fun j hj => by rw [mi_n hj, mi_n hj, mi_n hj, mi_n hj]
  refine sx_measure_k (T := max T0 T1) (rd := mrg T0 r0 r1) hF3.fwi.fwi.fwi.fwi (by rw [wi_f (by decide), wi_f (by decide), wi_f (by decide), wi_e]) (by omega) (fun a b => ?_) (fun x y hx hy => ?_) (fun M4 hF4 f4 g4 => ⟨hF4, rfl, h M4 hF4 ?_ ?_ (fun t => ?_) (fun t => ?_) (fun t => ?_) (fun x y hx hy => ?_) g4 (fun t ht => ?_)⟩)
  · unfold mrg
    split
    · exact h50 a b
    · exact h51 a b
  · rw [nw (28 + x) (by omega), n3 (28 + x) (by omega) (by omega) (by omega)]
    exact a1 x y hx hy
  · exact (((((f2.wk (by decide) (by simp)).tr (f3.wk (by decide) (by simp))).fwi (by decide)).fwi (by decide)).fwi (by decide)).fwi (by decide) |>.tr (f4.wk (by decide) (by simp))
  all_goals have n4 : ∀ j, j < 75 → (j < 35 ∨ 35 + 6 ≤ j) → mi M4 j = mi (wi (wi (wi (wi M3 22 8 (nI (max T0 T1))) 22 9 (mi M 1 9)) 22 10 (mi M 1 10)) 22 11 (mi M 1 11)) j := fun j hj hn => f4.row (show j < (sh M3).length by omega) (R35_no hn)
  · rw [n4 22 (by omega) (by omega)]
    refine ⟨by rw [wi_f (by decide), wi_f (by decide), wi_f (by decide), wi_e], by rw [wi_f (by decide), wi_f (by decide), wi_e], by rw [wi_f (by decide), wi_e], wi_e⟩
  · rw [n4 24 (by omega) (by omega), nw 24 (by omega), n3 24 (by omega) (by omega) (by omega)]; exact a3 t
  · rw [n4 25 (by omega) (by omega), nw 25 (by omega), n3 25 (by omega) (by omega) (by omega)]; exact a4 t
  · rw [n4 26 (by omega) (by omega), nw 26 (by omega), n3 26 (by omega) (by omega) (by omega)]; exact a5 t
  · rw [n4 (28 + x) (by omega) (by omega), nw (28 + x) (by omega), n3 (28 + x) (by omega) (by omega) (by omega)]
    exact a1 x y hx hy
  · rw [n4 41 (by omega) (by omega), n4 42 (by omega) (by omega), nw 41 (by omega), nw 42 (by omega), (b1 t ht).1, (b1 t ht).2, ef, eg]
    exact ⟨rfl, rfl⟩
def LD_b : List Nat := [3, 4, 5] ++ ([0, 1, 2, 3, 4, 5].map (fun a => 7 + a))
def LF_b : List Nat := [1, 20, 21] ++ LD_b ++ R14
theorem LD_b_7 {a : Nat} (h : a < 6) : 7 + a ∈ LD_b := by
  rcases (show a = 0 ∨ a = 1 ∨ a = 2 ∨ a = 3 ∨ a = 4 ∨ a = 5 by omega) with rfl | rfl | rfl | rfl | rfl | rfl <;> decide
theorem LD_b_no {j : Nat} (h : ¬ (3 ≤ j ∧ j ≤ 7 + 5)) : j ∉ LD_b := fun hm => h (by
  have : ∀ j ∈ LD_b, 3 ≤ j ∧ j ≤ 7 + 5 := by decide
  exact this j hm)
section BEC_b
variable {d bc bs T0 T1 F : Nat} {r0 r1 : Nat → Nat → Nat} {M0 : Mem} {Φ : Option Value → Mem → Prop}
theorem bec_b48 {a : Nat} (hF0 : Fx M0) (hT : mi M0 22 8 = nI T0) (h6 : T0 ≤ 6) (ha : a < T0) (hr : ∀ a b, a < 6 → b < 6 → mi M0 (28 + a) b = nI (r0 a b)) (hs : ∀ a b, r0 a b = r0 b a ∧ (T0 ≤ a → r0 a b = 0))
    (H : ∀ M2, Fx M2 → FrG LD_b [] M0 M2 → (∀ x y, x < 6 → y < 6 → mi M2 (7 + x) y = nI (if x < a + 1 ∨ y < a + 1 then r0 x y else r1 x y)) → (∀ t, mi M2 3 t = if t < a + 1 then mi M0 24 t else mi M0 3 t) → (∀ t, mi M2 4 t = if t < a + 1 then mi M0 25 t else mi M0 4 t) → (∀ t, mi M2 5 t = if t < a + 1 then mi M0 26 t else mi M0 5 t) → Ex (d + 1) m_Land_become bc bs 2 [some (.ref 1), some (.ref 22), some (.int (nI (a + 1))), none, none] [] M2 Φ) :
    ∀ (n b : Nat) (M : Mem), b + n = 6 → Fx M → FrG LD_b [] M0 M → (∀ x y, x < 6 → y < 6 → mi M (7 + x) y = nI (if x < a ∨ y < a ∨ (x = a ∧ y < b) ∨ (y = a ∧ x < b) then r0 x y else r1 x y)) → (∀ t, mi M 3 t = if t < a + 1 then mi M0 24 t else mi M0 3 t) → (∀ t, mi M 4 t = if t < a + 1 then mi M0 25 t else mi M0 4 t) → (∀ t, mi M 5 t = if t < a + 1 then mi M0 26 t else mi M0 5 t) → Ex (d + 1) m_Land_become bc bs 48 [some (.ref 1), some (.ref 22), some (.int (nI a)), some (.int (nI b)), none] [] M Φ := by
  have hl := hF0.len
  intro n
  induction n with
  | zero =>
    intro b M hb hF hfr hg g3 g4 g5
    obtain rfl : b = 6 := by omega
    refine k_Land_become_b_48 hF ⟨fun _ => ?_, fun q => absurd (nI_le (Nat.le_refl _) (by omega)) q⟩
    rw [nI_add]
    refine H M hF hfr (fun x y hx hy => ?_) g3 g4 g5
    rw [hg x y hx hy]
    by_cases c : x < a ∨ y < a ∨ (x = a ∧ y < 6) ∨ (y = a ∧ x < 6)
    · rw [if_pos c, if_pos (by omega)]
    · rw [if_neg c, if_neg (by omega)]
  | succ n ih =>
    intro b M hb hF hfr hg g3 g4 g5
    obtain ⟨p1, p2, p3, p4⟩ := ref7 hF (a := a) (by omega)
    obtain ⟨q1, q2, q3, q4⟩ := ref7 hF (a := b) (by omega)
    obtain ⟨t1, t2, t3, t4⟩ := ref28 hF (a := a) (by omega)
    have va := vN (show a < 6 by omega) (by decide)
    have vb := vN (show b < 6 by omega) (by decide)
    have go : ∀ v, v = nI (r0 a b) → Ex (d + 1) m_Land_become bc bs 48 [some (.ref 1), some (.ref 22), some (.int (nI a)), some (.int (nI (b + 1))), none] [] (wi (wi M (7 + a) b v) (7 + b) a v) Φ := by
      intro v hv
      have n1 : ∀ j, j < 7 → mi (wi (wi M (7 + a) b v) (7 + b) a v) j = mi M j := fun j hj => by rw [mi_n (by omega), mi_n (by omega)]
      refine ih (b + 1) _ (by omega) hF.fwi.fwi ((hfr.fwi (LD_b_7 (by omega))).fwi (LD_b_7 (by omega))) (fun x y hx hy => ?_) (by rw [n1 3 (by omega)]; exact g3) (by rw [n1 4 (by omega)]; exact g4) (by rw [n1 5 (by omega)]; exact g5)
      rw [mi_if, mi_if]
      by_cases y1 : 7 + x = 7 + b ∧ y = a
      · obtain ⟨rfl, rfl⟩ : x = b ∧ y = a := ⟨by omega, y1.2⟩
        rw [if_pos y1, if_pos (by omega), hv, (hs y x).1]
      · rw [if_neg y1]
        by_cases y2 : 7 + x = 7 + a ∧ y = b
        · obtain ⟨rfl, rfl⟩ : x = a ∧ y = b := ⟨by omega, y2.2⟩
          rw [if_pos y2, if_pos (by omega), hv]
        · rw [if_neg y2, hg x y hx hy]
          by_cases c : x < a ∨ y < a ∨ (x = a ∧ y < b) ∨ (y = a ∧ x < b)
          · rw [if_pos c, if_pos (by omega)]
          · rw [if_neg c, if_neg (by omega)]
    refine k_Land_become_b_48 hF ?_
    rw [hfr.row (j := 22) (by omega) (LD_b_no (by decide)), hT, nI_clamp (by omega), nI_clamp (by omega), nI_add, nI_add]
    refine ⟨fun q => absurd q (by rw [nI_leI (by omega) (by omega)]; omega), fun _ => ⟨fun q => ?_, fun q => ?_⟩⟩
    · rw [nI_leI (by omega) (by omega)] at q
      exact ⟨va, _, p1, 6, p3, vb, vb, _, q1, 6, q3, va, go _ (by rw [(hs a b).1, (hs b a).2 q])⟩
    · refine ⟨va, _, t1, 6, t3, vb, va, _, p1, 6, p3, vb, vb, _, q1, 6, q3, va, ?_⟩
      have e : mi M (28 + a) b = nI (r0 a b) := by rw [hfr.row (j := 28 + a) (by omega) (LD_b_no (by omega))]; exact hr a b (by omega) (by omega)
      rw [e]
      exact go _ rfl
theorem bec_b2 (hF0 : Fx M0) (hT : mi M0 22 8 = nI T0) (h6 : T0 ≤ 6) (hr : ∀ a b, a < 6 → b < 6 → mi M0 (28 + a) b = nI (r0 a b)) (hs : ∀ a b, r0 a b = r0 b a ∧ (T0 ≤ a → r0 a b = 0))
    (H : ∀ M2, Fx M2 → FrG LD_b [] M0 M2 → (∀ x y, x < 6 → y < 6 → mi M2 (7 + x) y = nI (mrg T0 r0 r1 x y)) → (∀ t, mi M2 3 t = if t < T0 then mi M0 24 t else mi M0 3 t) → (∀ t, mi M2 4 t = if t < T0 then mi M0 25 t else mi M0 4 t) → (∀ t, mi M2 5 t = if t < T0 then mi M0 26 t else mi M0 5 t) → Ex (d + 1) m_Land_become bc bs 110 [some (.ref 1), some (.ref 22), some (.int (nI 0)), none, none] [] M2 Φ) :
    ∀ (n a : Nat) (M : Mem), a + n = T0 → Fx M → FrG LD_b [] M0 M → (∀ x y, x < 6 → y < 6 → mi M (7 + x) y = nI (if x < a ∨ y < a then r0 x y else r1 x y)) → (∀ t, mi M 3 t = if t < a then mi M0 24 t else mi M0 3 t) → (∀ t, mi M 4 t = if t < a then mi M0 25 t else mi M0 4 t) → (∀ t, mi M 5 t = if t < a then mi M0 26 t else mi M0 5 t) → Ex (d + 1) m_Land_become bc bs 2 [some (.ref 1), some (.ref 22), some (.int (nI a)), none, none] [] M Φ := by
  have hl := hF0.len
  intro n
  induction n with
  | zero =>
    intro a M hb hF hfr hg g3 g4 g5
    obtain rfl : a = T0 := by omega
    refine k_Land_become_b_2 hF ?_
    rw [hfr.row (j := 22) (by omega) (LD_b_no (by decide)), hT]
    exact ⟨fun _ => H M hF hfr hg g3 g4 g5, fun q => absurd (nI_le (Nat.le_refl _) (by omega)) q⟩
  | succ n ih =>
    intro a M hb hF hfr hg g3 g4 g5
    refine k_Land_become_b_2 hF ?_
    have va := vN (show a < 6 by omega) (by decide)
    rw [hfr.row (j := 22) (by omega) (LD_b_no (by decide)), hT, nI_clamp (by omega), hfr.row (j := 24) (by omega) (LD_b_no (by decide)), hfr.row (j := 25) (by omega) (LD_b_no (by decide)), hfr.row (j := 26) (by omega) (LD_b_no (by decide))]
    refine ⟨fun q => absurd q (by rw [nI_leI (by omega) (by omega)]; omega), fun _ => ⟨va, va, va, va, va, va, ?_⟩⟩
    refine bec_b48 hF0 hT h6 (show a < T0 by omega) hr hs (fun M2 hF2 f2 a1 a2 a3 a4 => ih (a + 1) M2 (by omega) hF2 f2 a1 a2 a3 a4) 6 0 _ rfl hF.fwi.fwi.fwi (((hfr.fwi (by decide)).fwi (by decide)).fwi (by decide)) (fun x y hx hy => ?_) (fun t => ?_) (fun t => ?_) (fun t => ?_)
    · rw [mi_n (by omega), mi_n (by omega), mi_n (by omega), hg x y hx hy]
      by_cases c : x < a ∨ y < a
      · rw [if_pos c, if_pos (by omega)]
      · rw [if_neg c, if_neg (by omega)]
    · rw [mi_n (i := 3) (j := 5) (by decide), mi_n (i := 3) (j := 4) (by decide), mi_w]
      by_cases y : t = a
      · subst y; rw [u1_s, if_pos (by omega)]
      · rw [u1_n y, g3 t]
        by_cases c : t < a
        · rw [if_pos c, if_pos (by omega)]
        · rw [if_neg c, if_neg (by omega)]
    · rw [mi_n (i := 4) (j := 5) (by decide), mi_w]
      by_cases y : t = a
      · subst y; rw [u1_s, if_pos (by omega)]
      · rw [u1_n y, mi_n (i := 4) (j := 3) (by decide), g4 t]
        by_cases c : t < a
        · rw [if_pos c, if_pos (by omega)]
        · rw [if_neg c, if_neg (by omega)]
    · rw [mi_w]
      by_cases y : t = a
      · subst y; rw [u1_s, if_pos (by omega)]
      · rw [u1_n y, mi_n (i := 5) (j := 4) (by decide), mi_n (i := 5) (j := 3) (by decide), g5 t]
        by_cases c : t < a
        · rw [if_pos c, if_pos (by omega)]
        · rw [if_neg c, if_neg (by omega)]
theorem bec_b110 (hF0 : Fx M0) (hFe : mi M0 22 10 = nI F) (hF10 : F ≤ 10)
    (H : ∀ M2, Fx M2 → FrG [20, 21] [] M0 M2 → (∀ t, t < F → mi M2 20 t = mi M0 41 t ∧ mi M2 21 t = mi M0 42 t) → Con d m_Land_measure 0 0 [.ref 1] (wi (wi (wi (wi M2 1 8 (if (mi M0 1 8) < (mi M0 22 8) then (mi M0 22 8) else (mi M0 1 8))) 1 9 (mi M0 22 9)) 1 10 (mi M0 22 10)) 1 11 (mi M0 22 11)) (PV fun M1 => Fx M1 ∧ Φ none M1)) :
    ∀ (n i : Nat) (M : Mem), i + n = F → Fx M → FrG [20, 21] [] M0 M → (∀ t, t < i → mi M 20 t = mi M0 41 t ∧ mi M 21 t = mi M0 42 t) → Ex (d + 1) m_Land_become bc bs 110 [some (.ref 1), some (.ref 22), some (.int (nI i)), none, none] [] M Φ := by
  have hl := hF0.len
  intro n
  induction n with
  | zero =>
    intro i M hb hF hfr hg
    obtain rfl : i = F := by omega
    have h1 := H M hF hfr hg
    refine k_Land_become_b_110 hF ?_
    rw [hfr.row (j := 22) (by omega) (by decide), hfr.row (j := 1) (by omega) (by decide), hFe]
    rw [hFe] at h1
    exact ⟨fun _ => h1, fun q => absurd (nI_le (Nat.le_refl _) (by omega)) q⟩
  | succ n ih =>
    intro i M hb hF hfr hg
    refine k_Land_become_b_110 hF ?_
    have vi := vN (show i < 10 by omega) (by decide)
    rw [hfr.row (j := 22) (by omega) (by decide), hFe, nI_clamp (by omega), nI_add, hfr.row (j := 41) (by omega) (by decide), hfr.row (j := 42) (by omega) (by decide)]
    refine ⟨fun q => absurd q (by rw [nI_leI (by omega) (by omega)]; omega), fun _ => ⟨vi, vi, vi, vi, ih (i + 1) _ (by omega) hF.fwi.fwi ((hfr.fwi (by decide)).fwi (by decide)) (fun t ht => ?_)⟩⟩
    rw [mi_n (i := 20) (j := 21) (by decide), mi_w, mi_w, mi_n (i := 21) (j := 20) (by decide)]
    by_cases y : t = i
    · subst y; rw [u1_s, u1_s]; exact ⟨rfl, rfl⟩
    · rw [u1_n y, u1_n y]; exact hg t (by omega)
end BEC_b
theorem sx_bec_b {d T0 T1 F : Nat} {r0 r1 : Nat → Nat → Nat} {M : Mem} {K : Mem → Prop} (hF : Fx M) (hT : mi M 22 8 = nI T0) (h6 : T0 ≤ 6) (hT1 : mi M 1 8 = nI T1) (h61 : T1 ≤ 6) (hFe : mi M 22 10 = nI F) (hF10 : F ≤ 10) (hr : ∀ a b, a < 6 → b < 6 → mi M (28 + a) b = nI (r0 a b)) (hr1 : ∀ a b, a < 6 → b < 6 → mi M (7 + a) b = nI (r1 a b)) (hs : ∀ a b, r0 a b = r0 b a ∧ (T0 ≤ a → r0 a b = 0)) (h50 : ∀ a b, r0 a b ≤ 50) (h51 : ∀ a b, r1 a b ≤ 50)
    (h : ∀ M2, Fx M2 → FrG LF_b [] M M2 → (mi M2 1 8 = nI (max T0 T1) ∧ mi M2 1 9 = mi M 22 9 ∧ mi M2 1 10 = mi M 22 10 ∧ mi M2 1 11 = mi M 22 11) → (∀ t, mi M2 3 t = if t < T0 then mi M 24 t else mi M 3 t) → (∀ t, mi M2 4 t = if t < T0 then mi M 25 t else mi M 4 t) → (∀ t, mi M2 5 t = if t < T0 then mi M 26 t else mi M 5 t) → (∀ x y, x < 6 → y < 6 → mi M2 (7 + x) y = nI (mrg T0 r0 r1 x y)) → (∀ x y, x < max T0 T1 → y < max T0 T1 → mi M2 (14 + x) y = nI (far (max T0 T1) (mrg T0 r0 r1) x y)) → (∀ t, t < F → mi M2 20 t = mi M 41 t ∧ mi M2 21 t = mi M 42 t) → K M2) : Con (d + 2) m_Land_become 0 0 [.ref 1, .ref 22] M (PV K) := by
  have hl := hF.len
  refine Con.ent (k := 3) F_Land_become.1 rfl (Nat.le_of_ble_eq_true rfl) (k_Land_become_b_0 hF ?_)
  refine bec_b2 hF hT h6 hr hs (fun M2 hF2 f2 a1 a3 a4 a5 => ?_) T0 0 M (by omega) hF (FrG.rf _ _) (fun x y hx hy => by rw [if_neg (by omega)]; exact hr1 x y hx hy) (fun t => by rw [if_neg (by omega)]) (fun t => by rw [if_neg (by omega)]) (fun t => by rw [if_neg (by omega)])
  have l2 := f2.len
  have eS : mi M2 22 = mi M 22 := f2.row (by omega) (LD_b_no (by decide))
  have eD : mi M2 1 = mi M 1 := f2.row (by omega) (LD_b_no (by decide))
  have ef : mi M2 41 = mi M 41 := f2.row (by omega) (LD_b_no (by decide))
  have eg : mi M2 42 = mi M 42 := f2.row (by omega) (LD_b_no (by decide))
  refine bec_b110 hF2 (by rw [eS]; exact hFe) hF10 (fun M3 hF3 f3 b1 => ?_) F 0 M2 (by omega) hF2 (FrG.rf _ _) (fun t ht => absurd ht (Nat.not_lt_zero _))
  have l3 := f3.len
  have n3 : ∀ j, j < 75 → j ≠ 20 → j ≠ 21 → mi M3 j = mi M2 j := fun j hj a b => f3.row (by omega) (by simp; omega)
  rw [eS, eD, hT, hT1, nI_max (by omega) (by omega)]
  have nw : ∀ j, j ≠ 1 → mi (wi (wi (wi (wi M3 1 8 (nI (max T0 T1))) 1 9 (mi M 22 9)) 1 10 (mi M 22 10)) 1 11 (mi M 22 11)) j = mi M3 j := fun j hj => by rw [mi_n hj, mi_n hj, mi_n hj, mi_n hj]
  refine sx_measure (T := max T0 T1) (rd := mrg T0 r0 r1) hF3.fwi.fwi.fwi.fwi (by rw [wi_f (by decide), wi_f (by decide), wi_f (by decide), wi_e]) (by omega) (fun a b => ?_) (fun x y hx hy => ?_) (fun M4 hF4 f4 g4 => ⟨hF4, rfl, h M4 hF4 ?_ ?_ (fun t => ?_) (fun t => ?_) (fun t => ?_) (fun x y hx hy => ?_) g4 (fun t ht => ?_)⟩)
  · unfold mrg
    split
    · exact h50 a b
    · exact h51 a b
  · rw [nw (7 + x) (by omega), n3 (7 + x) (by omega) (by omega) (by omega)]
    exact a1 x y hx hy
  · exact (((((f2.wk (by decide) (by simp)).tr (f3.wk (by decide) (by simp))).fwi (by decide)).fwi (by decide)).fwi (by decide)).fwi (by decide) |>.tr (f4.wk (by decide) (by simp))
  all_goals have n4 : ∀ j, j < 75 → (j < 14 ∨ 14 + 6 ≤ j) → mi M4 j = mi (wi (wi (wi (wi M3 1 8 (nI (max T0 T1))) 1 9 (mi M 22 9)) 1 10 (mi M 22 10)) 1 11 (mi M 22 11)) j := fun j hj hn => f4.row (show j < (sh M3).length by omega) (R14_no hn)
  · rw [n4 1 (by omega) (by omega)]
    refine ⟨by rw [wi_f (by decide), wi_f (by decide), wi_f (by decide), wi_e], by rw [wi_f (by decide), wi_f (by decide), wi_e], by rw [wi_f (by decide), wi_e], wi_e⟩
  · rw [n4 3 (by omega) (by omega), nw 3 (by omega), n3 3 (by omega) (by omega) (by omega)]; exact a3 t
  · rw [n4 4 (by omega) (by omega), nw 4 (by omega), n3 4 (by omega) (by omega) (by omega)]; exact a4 t
  · rw [n4 5 (by omega) (by omega), nw 5 (by omega), n3 5 (by omega) (by omega) (by omega)]; exact a5 t
  · rw [n4 (7 + x) (by omega) (by omega), nw (7 + x) (by omega), n3 (7 + x) (by omega) (by omega) (by omega)]
    exact a1 x y hx hy
  · rw [n4 20 (by omega) (by omega), n4 21 (by omega) (by omega), nw 20 (by omega), nw 21 (by omega), (b1 t ht).1, (b1 t ht).2, ef, eg]
    exact ⟨rfl, rfl⟩
