/-! ways: which days an earlier choice leaves, and the next way, for x -/
def Fit (m : Nat) (p : Nat → Bool) : Prop := m < 128 ∧ ∀ j, j < 7 → m.testBit j = p j
theorem fit_not {m d : Nat} {p : Nat → Bool} (h : Fit m p) (hd : d < 7) : ∃ m2, nI m &&& (nI (2 ^ d) ^^^ (-1)) = nI m2 ∧ Fit m2 (fun j => p j && !decide (d = j)) := by
  obtain ⟨h1, h2⟩ := not128 m h.1 d hd
  refine ⟨_, h1, ?_, fun j hj => by rw [h2 j hj, h.2 j hj]⟩
  split
  · exact Nat.lt_of_le_of_lt (Nat.sub_le _ _) h.1
  · exact h.1
theorem fit_and {m d : Nat} {p : Nat → Bool} (h : Fit m p) (hd : d < 7) : nI m &&& nI (2 ^ d) = nI (m &&& 2 ^ d) ∧ Fit (m &&& 2 ^ d) (fun j => p j && decide (d = j)) := by
  have h1 := h.1
  have h2 := p7 hd
  refine ⟨and_N' (by omega) (by omega), Nat.lt_of_le_of_lt Nat.and_le_left h1, fun j hj => ?_⟩
  rw [Nat.testBit_and, pw_t, h.2 j hj]
theorem fit_c {m : Nat} {p q : Nat → Bool} (h : Fit m p) (e : ∀ j, p j = q j) : Fit m q := ⟨h.1, fun j hj => by rw [h.2 j hj, e j]⟩
theorem opP_s {σ : St} {W o e t j : Nat} {q : List (Nat × Nat)} : opP σ W (q ++ [(o, e)]) t j = (opP σ W q t j && cndB σ W o e t j) := by
  unfold opP okD
  rw [List.all_append]
  simp only [List.all_cons, List.all_nil, Bool.and_true]
  cases decide (j < W) <;> cases (oMy σ t).testBit j <;> cases q.all (fun x => cndB σ W x.1 x.2 t j) <;> rfl
def BX (σ : St) (W : Nat) (ts : List Nat) (M : Mem) : Prop := YX σ M ∧ NrX σ W M ∧ PtX ts M
theorem BX.wi {σ : St} {W : Nat} {ts : List Nat} {M : Mem} {j k : Nat} {v : Int32} (hw : WF σ) (h : BX σ W ts M) (hj : j = 61 ∨ j = 62 ∨ (j = 58 ∧ k = 8)) : BX σ W ts (wi M j k v) := by
  obtain ⟨h1, ⟨h2, h3⟩, h4, h5⟩ := h
  refine ⟨⟨h1.1.fwi, h1.2.1.cg (fun i a b => mi_n (by omega)) hw.T6, h1.2.2.cg (HiSame.wi (by omega)) (by rw [mi_if, if_neg (by omega)]) rfl⟩, ⟨?_, ?_⟩, ?_, ?_⟩
  · rw [mi_if, if_neg (by omega)]; exact h2
  · rw [mi_n (by omega)]; exact h3
  · rw [mi_if, if_neg (by omega)]; exact h4
  · rw [mi_n (by omega)]; exact h5
def DyX (ts : List Nat) (W : Nat) (D : Nat → Nat) (k : Nat) (M : Mem) : Prop := ∀ j, j < k → mi M 62 (ts.getD j 0) = nI (D (ts.getD j 0)) ∧ D (ts.getD j 0) < W
section OPD
variable {d bc bs W k : Nat} {σ : St} {ts : List Nat} {D : Nat → Nat} {M : Mem} {K : Int32 → Mem → Prop}
theorem opd29 (hw : WF σ) (hW : W ≤ 7) (hin : incr ts) (hT : ∀ j, j < ts.length → ts.getD j 0 < oT σ) (hN : ts.length ≤ 6) (h0 : BX σ W ts M) (hk : k < ts.length) (hD : DyX ts W D k M) (h : ∀ m, Fit m (opP σ W (pt ts D k) (ts.getD k 0)) → K (nI m) M) :
    ∀ (n i m : Nat), i + n = k → Fit m (opP σ W (pt ts D i) (ts.getD k 0)) → Ex (d + 2) m_Ways_openDays bc bs 29 [some (.ref 58), some (.int (nI k)), some (.int (nI (ts.getD k 0))), some (.int (nI m)), some (.int (nI i)), none, none] [] M (PI K) := by
  obtain ⟨⟨hF, hL, hTx⟩, ⟨n1, n2⟩, p1, p2⟩ := id h0
  have h6 := hw.T6
  have ht := hT k hk
  intro n
  induction n with
  | zero =>
    intro i m hi hm
    obtain rfl : i = k := by omega
    exact k_Ways_openDays_29 hF ⟨fun _ => PI.mk rfl (h m hm), fun q => absurd (nI_le (Nat.le_refl _) (by omega)) q⟩
  | succ n ih =>
    intro i m hi hm
    have ho := hT i (by omega)
    have hot := hin i k (by omega) hk
    obtain ⟨d1, d2⟩ := hD i (by omega)
    have e5 := (hL.2.2.2.2.1 (ts.getD k 0) ht).2.2.2
    have e5o := (hL.2.2.2.2.1 (ts.getD i 0) ho).2.2.2
    have vt := vN (show ts.getD k 0 < 6 by omega) (by decide)
    have vo := vN (show ts.getD i 0 < 6 by omega) (by decide)
    have hW0 : 0 < W := by omega
    have fin : ∀ m3, Fit m3 (fun j => opP σ W (pt ts D i) (ts.getD k 0) j && cndB σ W (ts.getD i 0) (D (ts.getD i 0)) (ts.getD k 0) j) → Ex (d + 2) m_Ways_openDays bc bs 29 [some (.ref 58), some (.int (nI k)), some (.int (nI (ts.getD k 0))), some (.int (nI m3)), some (.int (nI i + nI 1)), none, none] [] M (PI K) := by
      intro m3 h3
      rw [nI_add]
      refine ih (i + 1) m3 (by omega) (fit_c h3 (fun j => ?_))
      rw [pt_s (by omega), opP_s]
    have s104 : ∀ m2, Fit m2 (fun j => opP σ W (pt ts D i) (ts.getD k 0) j && ((!(decide (¬ nearV σ W (ts.getD i 0) (ts.getD k 0) = 0) && decide (D (ts.getD i 0) = j))) && (!decide (oBe σ (ts.getD k 0) = nI (ts.getD i 0)) || decide (j = dA W (D (ts.getD i 0)))))) → Ex (d + 2) m_Ways_openDays bc bs 104 [some (.ref 58), some (.int (nI k)), some (.int (nI (ts.getD k 0))), some (.int (nI m2)), some (.int (nI i)), some (.int (nI (ts.getD i 0))), some (.int (nI (D (ts.getD i 0))))] [] M (PI K) := by
      intro m2 h2
      refine k_Ways_openDays_104 hF ?_
      rw [nI_clamp (show ts.getD i 0 < 2 ^ 31 by omega), e5o, n1]
      refine ⟨vo, fun q => fin m2 (fit_c h2 (fun j => ?_)), fun q => ?_⟩
      · unfold cndB
        rw [decide_eq_false q, Bool.not_false, Bool.true_or, Bool.and_true]
      · refine sx_dayBefore hF d2 (by omega) ⟨hF, ?_⟩
        have hb := dB_lt (W := W) (d := D (ts.getD i 0)) hW0
        rw [one_N (by omega)]
        obtain ⟨g1, g2⟩ := fit_and h2 (d := dB W (D (ts.getD i 0))) (by omega)
        rw [g1]
        refine fin _ (fit_c g2 (fun j => ?_))
        unfold cndB
        rw [decide_eq_true q, Bool.not_true, Bool.false_or, show decide (dB W (D (ts.getD i 0)) = j) = decide (j = dB W (D (ts.getD i 0))) from decide_eq_decide.mpr eq_comm]
        simp only [Bool.and_assoc]
    have s76 : ∀ m1, Fit m1 (fun j => opP σ W (pt ts D i) (ts.getD k 0) j && !(decide (¬ nearV σ W (ts.getD i 0) (ts.getD k 0) = 0) && decide (D (ts.getD i 0) = j))) → Ex (d + 2) m_Ways_openDays bc bs 76 [some (.ref 58), some (.int (nI k)), some (.int (nI (ts.getD k 0))), some (.int (nI m1)), some (.int (nI i)), some (.int (nI (ts.getD i 0))), some (.int (nI (D (ts.getD i 0))))] [] M (PI K) := by
      intro m1 h1
      refine k_Ways_openDays_76 hF ?_
      rw [nI_clamp (show ts.getD k 0 < 2 ^ 31 by omega), e5, n1]
      refine ⟨vt, fun q => s104 m1 (fit_c h1 (fun j => ?_)), fun q => ?_⟩
      · rw [decide_eq_false q, Bool.not_false, Bool.true_or, Bool.and_true]
      · refine sx_dayAfter hF d2 (by omega) ⟨hF, ?_⟩
        have hb := dA_lt (W := W) (d := D (ts.getD i 0)) hW0
        rw [one_N (by omega)]
        obtain ⟨g1, g2⟩ := fit_and h1 (d := dA W (D (ts.getD i 0))) (by omega)
        rw [g1]
        refine s104 _ (fit_c g2 (fun j => ?_))
        rw [decide_eq_true q, Bool.not_true, Bool.false_or, show decide (dA W (D (ts.getD i 0)) = j) = decide (j = dA W (D (ts.getD i 0))) from decide_eq_decide.mpr eq_comm, Bool.and_assoc]
    have hnm := nmW_lt (σ := σ) (W := W) (oT σ) (ts.getD k 0)
    have h64 : 2 ^ oT σ ≤ 2 ^ 6 := Nat.pow_le_pow_right (by decide) h6
    refine k_Ways_openDays_29 hF ?_
    rw [nI_clamp (show i < 2 ^ 31 by omega), p2 i (by omega), nI_clamp (show ts.getD k 0 < 2 ^ 31 by omega), nI_clamp (show ts.getD i 0 < 2 ^ 31 by omega), n2 _ ht, d1]
    refine ⟨fun q => absurd q (by rw [nI_leI (by omega) (by omega)]; omega), fun _ => ⟨vN (by omega) (by decide), vo, vt, ?_⟩⟩
    refine sx_hasBit hF (by omega) (by omega) ⟨hF, fun q => s76 m (fit_c hm (fun j => ?_)), fun q => ?_⟩ <;> rw [nmW_t] at q
    · rw [decide_eq_false_iff_not] at q
      rw [decide_eq_false (p := ¬ nearV σ W (ts.getD i 0) (ts.getD k 0) = 0) (fun w => q ⟨by omega, by omega, w⟩), Bool.false_and, Bool.not_false, Bool.and_true]
    · rw [decide_eq_true_eq] at q
      rw [one_N (by omega)]
      obtain ⟨m1, g1, g2⟩ := fit_not hm (d := D (ts.getD i 0)) (by omega)
      rw [g1]
      refine s76 m1 (fit_c g2 (fun j => ?_))
      rw [decide_eq_true q.2.2, Bool.true_and]
theorem sx_openDays (hw : WF σ) (hW : 2 ≤ W ∧ W ≤ 7) (hin : incr ts) (hT : ∀ j, j < ts.length → ts.getD j 0 < oT σ) (hN : ts.length ≤ 6) (h0 : BX σ W ts M) (hk : k < ts.length) (hD : DyX ts W D k M) (h : ∀ m, Fit m (opP σ W (pt ts D k) (ts.getD k 0)) → K (nI m) M) : Con (d + 2) m_Ways_openDays 0 0 [.ref 58, .int (nI k)] M (PI K) := by
  obtain ⟨⟨hF, hL, hTx⟩, ⟨n1, n2⟩, p1, p2⟩ := id h0
  have h6 := hw.T6
  have ht := hT k hk
  have hm := (hw.x.1 (ts.getD k 0) ht).1
  obtain ⟨g1, g2, g3⟩ := msk_W (oMy σ (ts.getD k 0)) (by omega) W (by omega)
  refine Con.ent (k := 5) F_Ways_openDays.1 rfl (Nat.le_of_ble_eq_true rfl) (k_Ways_openDays_0 hF ?_)
  rw [nI_clamp (show k < 2 ^ 31 by omega), p2 k hk, nI_clamp (show ts.getD k 0 < 2 ^ 31 by omega), (hL.2.2.2.2.1 (ts.getD k 0) ht).2.1, n1, one_N (by omega), g1]
  refine ⟨vN (by omega) (by decide), vN (by omega) (by decide), opd29 hw hW.2 hin hT hN h0 hk hD h k 0 _ (by omega) ⟨g2, fun j hj => ?_⟩⟩
  rw [g3 j hj, pt_0]
  unfold opP okD
  rw [List.all_nil, Bool.and_true]
end OPD
theorem bitc : ∀ d, d < 7 → nI (2 ^ d) - nI 1 = nI (2 ^ d - 1) := by decide +kernel
theorem sx_bitCount {d m : Nat} {M : Mem} {K : Int32 → Mem → Prop} (hF : Fx M) (hm : m < 128) (h : K (nI (cntLT m.testBit 7)) M) : Con (d + 1) m_Integer_bitCount 0 0 [.int (nI m)] M (PI K) := by
  refine Con.of (lo := [some (.int (nI m))]) F_Integer_bitCount.1 rfl (Nat.le_of_ble_eq_true rfl) (k_Integer_bitCount_0 hF (PI.mk ?_ h))
  clear h
  revert m
  decide +kernel
theorem cnt_p : ∀ d, d < 7 → cntLT (2 ^ d - 1).testBit 7 = d ∧ 2 ^ d - 1 < 128 := by decide +kernel
section NXT
variable {d bc bs W : Nat} {σ : St} {ts : List Nat} {M0 : Mem} {K : Bool → Mem → Prop} {L : List (List (Nat × Nat))}
def FnX (σ : St) (W : Nat) (ts : List Nat) (D U : Nat → Nat) (M0 M : Mem) : Prop := BX σ W ts M ∧ FrG [58, 61, 62] [] M0 M ∧ (∀ k, k ≠ 8 → mi M 58 k = mi M0 58 k) ∧ mi M 58 8 = nI 1
def UsX (U : Nat → Nat) (k : Nat) (M : Mem) : Prop := ∀ j, j < k → mi M 61 j = nI (U j) ∧ U j < 128
theorem upW {m W : Nat} (h : ∀ j, j < 7 → m.testBit j = true → j < W) : ∀ d ∈ upF m.testBit 7 0, d < W := fun d hd => by
  obtain ⟨a, b, c⟩ := up_in hd
  exact h d (by omega) a
theorem nxt153 {D U : Nat → Nat} {M : Mem} {l2 : Int32} (hN : ts.length ≤ 6) (hB : BX σ W ts M) (κ : Nat) (hκ : κ ≤ ts.length) (h0 : κ ≠ ts.length + 1 → K false M) : Ex (d + 3) m_Ways_next bc bs 153 [some (.ref 58), some (.int (nI κ - nI 1)), some (.int l2), none] [] M (PB K) := by
  refine k_Ways_next_153 hB.1.1 ?_
  rw [hB.2.2.1]
  refine ⟨fun _ => PB.mk rfl (h0 (by omega)), fun q => ?_⟩
  rw [i_eq, pk_sub_toInt (by omega) (by decide), nI_T (by omega)] at q
  omega
theorem nxtT {M : Mem} {i : Nat} (hN : ts.length ≤ 6) (hi : i < 2 ^ 31) (hB : BX σ W ts M) (h1 : K true M) : Ex (d + 3) m_Ways_next bc bs 50 [some (.ref 58), some (.int (nI ts.length)), some (.int (nI i)), none] [] M (PB K) := by
  have s153 : Ex (d + 3) m_Ways_next bc bs 153 [some (.ref 58), some (.int (nI ts.length)), some (.int (nI i)), none] [] M (PB K) := by
    refine k_Ways_next_153 hB.1.1 ?_
    rw [hB.2.2.1]
    exact ⟨fun q => absurd rfl q, fun _ => PB.mk rfl h1⟩
  refine k_Ways_next_50 hB.1.1 ?_
  rw [hB.2.2.1]
  exact ⟨fun _ => s153, fun _ => ⟨fun q => absurd q (nI_pos (by omega)), fun _ => ⟨fun _ => s153, fun q => absurd (nI_le (Nat.le_refl _) (by omega)) q⟩⟩⟩
theorem nxt50 (hw : WF σ) (hW : 2 ≤ W ∧ W ≤ 7) (hin : incr ts) (hT : ∀ j, j < ts.length → ts.getD j 0 < oT σ) (hN : ts.length ≤ 6)
    (H0 : ∀ M2 D U, FnX σ W ts D U M0 M2 → L = [] → K false M2)
    (H1 : ∀ M2 D U, FnX σ W ts D U M0 M2 → DyX ts W D ts.length M2 → UsX U ts.length M2 → (∀ j, j < ts.length → ∀ x, x < 7 → (U j).testBit x = true → x < W) → L = pt ts D ts.length :: rsX σ W ts D U ts.length → muX U ts.length ts.length ≤ 200000 → K true M2) :
    ∀ (n i κ : Nat) (D U : Nat → Nat) (M : Mem), muX U ts.length κ ≤ n → i + n < 1000000 → κ ≤ ts.length → FnX σ W ts D U M0 M → DyX ts W D (κ - 1) M → UsX U κ M → (∀ j, j < κ → ∀ x, x < 7 → (U j).testBit x = true → x < W) → L = rsX σ W ts D U κ → muX U ts.length κ ≤ 200000 → Ex (d + 3) m_Ways_next bc bs 50 [some (.ref 58), some (.int (nI κ - nI 1)), some (.int (nI i)), none] [] M (PB K) := by
  have h6 := hw.T6
  intro n
  induction n with
  | zero =>
    intro i κ D U M hmu hi hκ hf hD hU hUW hL hmu2
    have h0 : κ = 0 := by
      cases κ with
      | zero => rfl
      | succ k => rw [muX_s] at hmu; omega
    subst h0
    have s153 := nxt153 (d := d) (bc := bc) (bs := bs) (l2 := nI i) (D := D) (U := U) hN hf.1 0 hκ (fun _ => H0 M D U hf hL)
    refine k_Ways_next_50 hf.1.1.1 ⟨fun _ => s153, fun _ => ⟨fun _ => s153, fun q => absurd ((nlt0 (by decide)).mpr rfl) q⟩⟩
  | succ n ih =>
    intro i κ D U M hmu hi hκ hf hD hU hUW hL hmu2
    cases κ with
    | zero =>
      have s153 := nxt153 (d := d) (bc := bc) (bs := bs) (l2 := nI i) (D := D) (U := U) hN hf.1 0 hκ (fun _ => H0 M D U hf hL)
      exact k_Ways_next_50 hf.1.1.1 ⟨fun _ => s153, fun _ => ⟨fun _ => s153, fun q => absurd ((nlt0 (by decide)).mpr rfl) q⟩⟩
    | succ k =>
      rw [Nat.add_sub_cancel] at hD
      obtain ⟨hB, hfr, hc, h8⟩ := id hf
      obtain ⟨⟨hF, hL1, hTx⟩, ⟨n1, n2⟩, p1, p2⟩ := id hB
      obtain ⟨u1e, u2e⟩ := hU k (by omega)
      have htk := hT k (by omega)
      have vk := vN (show k < 6 by omega) (by decide)
      have hmk := muX_s (U := U) (N := ts.length) (k := k)
      rw [nI_sub1 (by omega), Nat.add_sub_cancel]
      refine k_Ways_next_50 hF ?_
      rw [p1, nI_clamp (show k < 2 ^ 31 by omega), u1e]
      refine ⟨fun q => absurd q (by rw [nI_leI (by omega) (by omega)]; omega), fun _ => ⟨fun q => absurd q (nI_pos (by omega)), fun _ => ⟨fun q => absurd q (by rw [nI_leI (by omega) (by omega)]; omega), fun _ => ⟨vk, fun q => ?_, fun q => ?_⟩⟩⟩⟩
      · rcases low128 (U k) u2e with z | ⟨x, hx, l1, l2, l3⟩
        · rw [z] at q; exact absurd rfl q
        · have hxW : x < W := hUW k (by omega) x hx (by
            have := (up_in (p := (U k).testBit) (n := 7) (e := 0) (d := x) (by rw [l3]; exact List.mem_cons_self)).1
            exact this)
          have hp7 := p7 hx
          rw [l1, pk_sub l2, bitc x hx]
          refine ⟨vk, vk, vk, vk, vk, ?_⟩
          obtain ⟨c1, c2⟩ := cnt_p x hx
          refine sx_bitCount hF.fwi c2 ⟨hF.fwi, ?_⟩
          rw [p2 k (by omega), nI_clamp (show ts.getD k 0 < 2 ^ 31 by omega), c1]
          have e58 : mi (wi M 61 k (nI (U k - 2 ^ x))) 58 5 = nI ts.length := by rw [mi_n (by decide)]; exact p1
          rw [e58, nI_add, nI_add]
          have hB1 : BX σ W ts (wi (wi M 61 k (nI (U k - 2 ^ x))) 62 (ts.getD k 0) (nI x)) := (hB.wi hw (.inl rfl)).wi hw (.inr (.inl rfl))
          have hf1 : ∀ D' U', FnX σ W ts D' U' M0 (wi (wi M 61 k (nI (U k - 2 ^ x))) 62 (ts.getD k 0) (nI x)) := fun D' U' => ⟨hB1, (hfr.fwi (by simp)).fwi (by simp), fun j hj => by rw [mi_n (by decide), mi_n (by decide)]; exact hc j hj, by rw [mi_n (by decide), mi_n (by decide)]; exact h8⟩
          have hD1 : DyX ts W (u1 D (ts.getD k 0) x) (k + 1) (wi (wi M 61 k (nI (U k - 2 ^ x))) 62 (ts.getD k 0) (nI x)) := fun j hj => by
            rw [mi_w]
            by_cases y : j = k
            · subst y; rw [u1_s, u1_s]; exact ⟨rfl, hxW⟩
            · have := hin j k (by omega) (by omega)
              rw [u1_n (by omega), u1_n (by omega), mi_n (by decide)]
              exact hD j (by omega)
          have hU1 : UsX (u1 U k (U k - 2 ^ x)) (k + 1) (wi (wi M 61 k (nI (U k - 2 ^ x))) 62 (ts.getD k 0) (nI x)) := fun j hj => by
            rw [mi_n (by decide), mi_w]
            by_cases y : j = k
            · subst y; rw [u1_s, u1_s]; exact ⟨rfl, Nat.lt_of_le_of_lt (Nat.sub_le _ _) u2e⟩
            · rw [u1_n y, u1_n y]; exact hU j (by omega)
          have hUW1 : ∀ j, j < k + 1 → ∀ y, y < 7 → (u1 U k (U k - 2 ^ x) j).testBit y = true → y < W := fun j hj y hy ht => by
            by_cases z : j = k
            · subst z
              rw [u1_s] at ht
              have h1 : y ∈ upF (U j - 2 ^ x).testBit 7 0 := by
                have h2 : ∀ (n e : Nat), e ≤ y → y < e + n → y ∈ upF (U j - 2 ^ x).testBit n e := by
                  intro n
                  induction n with
                  | zero => intro e a b; omega
                  | succ n ihn =>
                    intro e a b
                    rw [up_s]
                    by_cases w : e = y
                    · subst w; rw [if_pos ht]; exact List.mem_cons_self
                    · have := ihn (e + 1) (by omega) (by omega)
                      split
                      · exact List.mem_cons_of_mem _ this
                      · exact this
                exact h2 7 0 (by omega) (by omega)
              have h3 : y ∈ upF (U j).testBit 7 0 := by rw [l3]; exact List.mem_cons_of_mem _ h1
              exact hUW j (by omega) y hy (up_in h3).1
            · rw [u1_n z] at ht; exact hUW j (by omega) y hy ht
          have hmu1 : muX (u1 U k (U k - 2 ^ x)) ts.length (k + 1) = (upF (U k - 2 ^ x).testBit 7 0).length * (1 + cF (ts.length - k - 1)) + 1 + muX U ts.length k := by
            rw [muX_s, u1_s, muX_c (U2 := U) (fun j hj => u1_n (by omega))]
          have hlen : (upF (U k).testBit 7 0).length * (1 + cF (ts.length - k - 1)) = (upF (U k - 2 ^ x).testBit 7 0).length * (1 + cF (ts.length - k - 1)) + (1 + cF (ts.length - k - 1)) := by
            rw [l3, List.length_cons, Nat.succ_mul]
          rw [hlen] at hmk
          have hr0 : rsX σ W ts D U k = rsX σ W ts (u1 D (ts.getD k 0) x) (u1 U k (U k - 2 ^ x)) k := rsX_c (by omega) (fun j hj => (u1_n (by have := hin j k (by omega) (by omega); omega)).symm) (fun j hj => (u1_n (by omega)).symm)
          have hpk : pt ts (u1 D (ts.getD k 0) x) k = pt ts D k := pt_u hin (Nat.le_refl _) (by omega)
          have hL2 : L = exW σ W (ts.drop (k + 1)) (pt ts (u1 D (ts.getD k 0) x) (k + 1)) ++ rsX σ W ts (u1 D (ts.getD k 0) x) (u1 U k (U k - 2 ^ x)) (k + 1) := by
            rw [hL, rsX_s, rsX_s]
            unfold lvX
            rw [u1_s, hpk, pt_s (by omega), hpk, u1_s, l3, List.flatMap_cons, hr0, List.append_assoc]
          refine ⟨vN (by omega) (by decide), fun q2 => ?_, fun q2 => ?_⟩
          · rw [nI_leI (by omega) (by omega)] at q2
            have hkN : k + 1 = ts.length := by omega
            rw [hkN] at hD1 hU1 hUW1 hL2 hmu1 ⊢
            rw [List.drop_eq_nil_of_le (Nat.le_refl _), exW_0] at hL2
            exact nxtT hN (by omega) hB1 (H1 _ _ _ (hf1 _ _) hD1 hU1 hUW1 hL2 (by omega))
          · rw [nI_leI (by omega) (by omega)] at q2
            rw [nI_clamp (show k + 1 < 2 ^ 31 by omega)]
            refine sx_openDays hw hW hin hT hN hB1 (show k + 1 < ts.length by omega) hD1 (fun m hm => ⟨hB1.1.1, vN (by omega) (by decide), ?_⟩)
            have ec : cF (ts.length - k - 1) = 7 * (1 + cF (ts.length - (k + 1) - 1)) + 1 := by
              rw [show ts.length - k - 1 = (ts.length - (k + 1) - 1) + 1 by omega, cF_s]
            have hl7 := up_len (p := m.testBit) 7 0
            have hmul := Nat.mul_le_mul_right (1 + cF (ts.length - (k + 1) - 1)) hl7
            have hmu3 : muX (u1 (u1 U k (U k - 2 ^ x)) (k + 1) m) ts.length (k + 2) = (upF m.testBit 7 0).length * (1 + cF (ts.length - (k + 1) - 1)) + 1 + muX (u1 U k (U k - 2 ^ x)) ts.length (k + 1) := by
              rw [muX_s, u1_s, muX_c (U2 := u1 U k (U k - 2 ^ x)) (fun j hj => u1_n (by omega))]
            have hmM : Fit m (opP σ W (pt ts (u1 D (ts.getD k 0) x) (k + 1)) (ts.getD (k + 1) 0)) := hm
            have := ih (i + 1) (k + 2) (u1 D (ts.getD k 0) x) (u1 (u1 U k (U k - 2 ^ x)) (k + 1) m) (wi (wi (wi M 61 k (nI (U k - 2 ^ x))) 62 (ts.getD k 0) (nI x)) 61 (k + 1) (nI m)) (by omega) (by omega) (by omega) ⟨hB1.wi hw (.inl rfl), (hf1 D U).2.1.fwi (by simp), fun j hj => by rw [mi_n (by decide)]; exact (hf1 D U).2.2.1 j hj, by rw [mi_n (by decide)]; exact (hf1 D U).2.2.2⟩ (fun j hj => by rw [mi_n (by decide)]; exact hD1 j (by omega)) (fun j hj => ?_) (fun j hj y hy ht => ?_) ?_ (by omega)
            · rw [show nI (k + 2) - nI 1 = nI (k + 1) from nI_sub1 (by omega)] at this
              exact this
            · rw [mi_w]
              by_cases y : j = k + 1
              · subst y; rw [u1_s, u1_s]; exact ⟨rfl, hmM.1⟩
              · rw [u1_n y, u1_n y]; exact hU1 j (by omega)
            · by_cases z : j = k + 1
              · subst z
                rw [u1_s, hmM.2 y hy] at ht
                unfold opP at ht
                rw [Bool.and_eq_true, decide_eq_true_eq] at ht
                exact ht.1
              · rw [u1_n z] at ht; exact hUW1 j (by omega) y hy ht
            · rw [hL2, rsX_s, dr_s (k := k + 1) (by omega), exW_s]
              congr 1
              · unfold lvX opn
                rw [u1_s, up_c (p := m.testBit) (fun y a b => hmM.2 y (by omega))]
              · refine rsX_c (by omega) ?_ ?_
                · intro j hj; rfl
                · intro j hj; rw [u1_n (show j ≠ k + 1 by omega)]
      · have z : U k = 0 := by rw [nI_z (by omega)] at q; exact q
        rw [z, bits0] at hmk
        rw [m1_sub, nI_add]
        refine ih (i + 1) k D U M (by simp at hmk; omega) (by omega) (by omega) hf (fun j hj => hD j (by omega)) (fun j hj => hU j (by omega)) (fun j hj => hUW j (by omega)) ?_ (by simp at hmk; omega)
        rw [hL, rsX_s]
        unfold lvX
        rw [z, bits0]
        rfl
/-- x's goer through the ways of ts: begun or not, these are to come -/
def ItX (σ : St) (W : Nat) (ts : List Nat) (b : Bool) (L : List (List (Nat × Nat))) (M : Mem) : Prop := BX σ W ts M ∧ match b with
  | false => mi M 58 8 = 0 ∧ L = exW σ W ts []
  | true => mi M 58 8 = nI 1 ∧ ∃ D U, DyX ts W D ts.length M ∧ UsX U ts.length M ∧ (∀ j, j < ts.length → ∀ x, x < 7 → (U j).testBit x = true → x < W) ∧ L = rsX σ W ts D U ts.length ∧ muX U ts.length ts.length ≤ 200000
theorem sx_next {b : Bool} (hw : WF σ) (hW : 2 ≤ W ∧ W ≤ 7) (hin : incr ts) (hT : ∀ j, j < ts.length → ts.getD j 0 < oT σ) (hN : ts.length ≤ 6) (h0 : ItX σ W ts b L M0) (hF : L = [] → ∀ M2, BX σ W ts M2 → FrG [58, 61, 62] [] M0 M2 → K false M2)
    (hN1 : ∀ w L2 M2, L = w :: L2 → ItX σ W ts true L2 M2 → FrG [58, 61, 62] [] M0 M2 → (∃ D, w = pt ts D ts.length ∧ DyX ts W D ts.length M2) → K true M2) : Con (d + 3) m_Ways_next 0 0 [.ref 58] M0 (PB K) := by
  obtain ⟨hB, hb⟩ := id h0
  obtain ⟨⟨hFx, hL1, hTx⟩, ⟨n1, n2⟩, p1, p2⟩ := id hB
  have f0 : ∀ D U, FnX σ W ts D U M0 (wi M0 58 8 (nI 1)) := fun D U => ⟨hB.wi hw (.inr (.inr ⟨rfl, rfl⟩)), (FrG.rf _ _).fwi (by simp), fun k hk => wi_f hk, wi_e⟩
  have H0 : ∀ M2 D U, FnX σ W ts D U M0 M2 → L = [] → K false M2 := fun M2 D U f hL => hF hL M2 f.1 f.2.1
  have H1 : ∀ M2 D U, FnX σ W ts D U M0 M2 → DyX ts W D ts.length M2 → UsX U ts.length M2 → (∀ j, j < ts.length → ∀ x, x < 7 → (U j).testBit x = true → x < W) → L = pt ts D ts.length :: rsX σ W ts D U ts.length → muX U ts.length ts.length ≤ 200000 → K true M2 := fun M2 D U f hD hU hUW hL hmu => hN1 _ _ M2 hL ⟨f.1, f.2.2.2, D, U, hD, hU, hUW, rfl, hmu⟩ f.2.1 ⟨D, rfl, hD⟩
  refine Con.ent (k := 3) F_Ways_next.1 rfl (Nat.le_of_ble_eq_true rfl) (k_Ways_next_0 hFx ?_)
  cases b with
  | true =>
    obtain ⟨h8, D, U, hD, hU, hUW, hL, hmu⟩ := hb
    have ne : ¬ nI 1 = 0 := by decide
    rw [h8, p1]
    refine ⟨fun q => absurd q ne, fun _ => ⟨fun _ => k_Ways_next_43 hFx ?_, fun q => absurd q ne⟩⟩
    exact nxt50 hw hW hin hT hN H0 H1 200000 0 ts.length D U _ hmu (by omega) (Nat.le_refl _) (f0 D U) (fun j hj => by rw [mi_n (by decide)]; exact hD j (by omega)) (fun j hj => by rw [mi_n (by decide)]; exact hU j hj) hUW hL hmu
  | false =>
    obtain ⟨h8, hL⟩ := hb
    rw [h8, p1]
    refine ⟨fun _ => ⟨fun q => absurd rfl q, fun _ => ⟨fun q => ?_, fun q => ?_⟩⟩, fun q => absurd rfl q⟩
    · rw [i_le, i_0, nI_T (by omega)] at q
      have hz : ts.length = 0 := by omega
      have hnil : ts = [] := List.length_eq_zero_iff.mp hz
      refine k_Ways_next_43 hFx ?_
      have := nxtT (d := d) (bc := 0) (bs := 0) (i := 0) (M := wi M0 58 8 (nI 1)) hN (by decide) (f0 (fun _ => 0) (fun _ => 0)).1 (H1 _ (fun _ => 0) (fun _ => 0) (f0 _ _) (fun j hj => by omega) (fun j hj => by omega) (fun j hj => by omega) (by rw [hL, hnil]; rfl) (by rw [hz]; decide))
      rw [hz] at this
      exact this
    · rw [i_le, i_0, nI_T (by omega)] at q
      have hz : 0 < ts.length := by omega
      refine sx_openDays hw hW hin hT hN hB hz (D := fun _ => 0) (fun j hj => absurd hj (Nat.not_lt_zero _)) (fun m hm => ⟨hFx, k_Ways_next_43 hFx.fwi ?_⟩)
      have hl7 := up_len (p := m.testBit) 7 0
      have hmul := Nat.mul_le_mul_right (1 + cF (ts.length - 1)) hl7
      have hc6 := cF_le hN
      rw [cF_6] at hc6
      have hcs : cF ts.length = 7 * (1 + cF (ts.length - 1)) + 1 := by
        obtain ⟨c, hc⟩ : ∃ c, ts.length = c + 1 := ⟨ts.length - 1, by omega⟩
        rw [hc, cF_s]; rfl
      have hmu : muX (fun _ => m) ts.length 1 ≤ 200000 := by
        rw [muX_s]
        show (upF m.testBit 7 0).length * (1 + cF (ts.length - 0 - 1)) + 1 + 0 ≤ 200000
        rw [Nat.sub_zero]; omega
      exact nxt50 hw hW hin hT hN H0 H1 200000 0 1 (fun _ => 0) (fun _ => m) _ hmu (by omega) hz ⟨(hB.wi hw (.inl rfl)).wi hw (.inr (.inr ⟨rfl, rfl⟩)), ((FrG.rf _ _).fwi (by simp)).fwi (by simp), fun k hk => by rw [wi_f hk, mi_n (by decide)], wi_e⟩ (fun j hj => absurd hj (Nat.not_lt_zero _)) (fun j hj => by
        obtain rfl : j = 0 := by omega
        rw [mi_n (by decide)]
        exact ⟨wi_e, hm.1⟩) (fun j hj y hy ht => by
        rw [hm.2 y hy] at ht
        unfold opP at ht
        rw [Bool.and_eq_true, decide_eq_true_eq] at ht
        exact ht.1) (by
        have e0 : exW σ W ts [] = exW σ W (ts.drop 0) (pt ts (fun _ => 0) 0) := rfl
        rw [hL, e0, dr_s hz, exW_s, rsX_s]
        unfold lvX opn
        rw [up_c (p := m.testBit) (fun y a b => hm.2 y (by omega))]
        exact (List.append_nil _).symm) hmu
end NXT
