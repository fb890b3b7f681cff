/-! copy, both sides -/
theorem mi_ws {M : Mem} {j : Nat} {g : Nat → Int32} : mi (wrow M j g) j = g := ro_s _ _ _
theorem mi_wn {M : Mem} {i j : Nat} {g : Nat → Int32} (h : i ≠ j) : mi (wrow M j g) i = mi M i := ro_n h
theorem Fx.fwrow {M : Mem} {j : Nat} {g : Nat → Int32} (h : Fx M) : Fx (wrow M j g) := Fz.of h (fun _ _ _ => rfl) (fun _ _ _ => rfl)
theorem FrG.fwrow {L R : List Nat} {M M2 : Mem} {j : Nat} {g : Nat → Int32} (h : FrG L R M M2) (hj : j ∈ L) : FrG L R M (wrow M2 j g) := ⟨h.1, h.2.1, fun i hi => by
  obtain ⟨x1, x2, x3⟩ := h.2.2 i hi
  refine ⟨fun hn => ?_, x2, x3⟩
  rw [← x1 hn]
  show ro (mi M2) j g i = mi M2 i
  exact ro_n (fun e => hn (e ▸ hj))⟩
def okC (σ : St) (s o : Nat) (i j n : Int32) : Bool := decide (0 ≤ i.toInt ∧ 0 ≤ j.toInt ∧ 0 ≤ n.toInt ∧ i.toInt + n.toInt ≤ oSs σ s ∧ j.toInt + n.toInt ≤ oSs σ o)
def cpS (σ : St) (s o i j n : Nat) : St := (oT σ, oW σ, oSz σ, oMy σ, oWi σ, oBe σ, oRd σ, oFe σ, oTp σ, oTx σ, oRu σ, oGv σ, oFo σ, oRo σ, oIm σ, oSo σ, oSs σ, ro (oSc σ) o (va_cpy (oSc σ s) (oSc σ o) i j n))
def cpG {α : Type} (σ : St) (s i o j n : Int32) (bad no srt out ok : α) : α := if isB 0 3 s = true then (if isB 0 3 o = true then (if oSo σ s.toNatClampNeg = -1 then no else if oSo σ o.toNatClampNeg = -1 then no else if oSo σ s.toNatClampNeg = oSo σ o.toNatClampNeg then (if okC σ s.toNatClampNeg o.toNatClampNeg i j n = true then ok else out) else srt) else bad) else bad
def pCopy (σ : St) (s i o j n : Int32) : Int32 := cpG σ s i o j n (-2) (-11) (-13) (-12) n
def tCopy (σ : St) (s i o j n : Int32) : St := cpG σ s i o j n σ σ σ σ (cpS σ s.toNatClampNeg o.toNatClampNeg i.toNatClampNeg j.toNatClampNeg n.toNatClampNeg)
section CPG
variable {α : Type} {σ : St} {s i o j n : Int32} {bad no srt out ok : α} {k l : Nat}
theorem cpG_1 (h : isB 0 3 s = false) : cpG σ s i o j n bad no srt out ok = bad := by unfold cpG; rw [h]; rfl
theorem cpG_2 (h : isB 0 3 o = false) : cpG σ s i o j n bad no srt out ok = bad := by unfold cpG; rw [h]; split <;> rfl
theorem is03 {q : Nat} (hq : q < 4) : isB 0 3 (nI q) = true := by rw [isB_i (by omega), decide_eq_true_eq]; omega
theorem cpG_3 (hk : k < 4) (hl : l < 4) : cpG σ (nI k) i (nI l) j n bad no srt out ok = if oSo σ k = -1 then no else if oSo σ l = -1 then no else if oSo σ k = oSo σ l then (if okC σ k l i j n = true then ok else out) else srt := by
  unfold cpG
  rw [if_pos (is03 hk), if_pos (is03 hl), nI_clamp (by omega), nI_clamp (by omega)]
end CPG
theorem WF.cpS {σ : St} (h : WF σ) (s o i j n : Nat) : WF (cpS σ s o i j n) := by
  obtain ⟨x0, b, c, x, tp, tx, gv, fo, ro, im, ss⟩ := h
  exact ⟨x0, b, c, x, tp, tx, gv, fo, ro, im, ss⟩
theorem WF.copy {σ : St} (h : WF σ) (s i o j n : Int32) : WF (tCopy σ s i o j n) := by
  unfold tCopy cpG
  split
  · split
    · split
      · exact h
      · split
        · exact h
        · split
          · split
            · exact h.cpS _ _ _ _ _
            · exact h
          · exact h
    · exact h
  · exact h
theorem cpy_c {f g f2 g2 : Nat → Int32} {a b c i : Nat} (hi : i < 40) (ha : a + c ≤ 40) (h1 : ∀ q, q < 40 → f q = f2 q) (h2 : ∀ q, q < 40 → g q = g2 q) : va_cpy f g a b c i = va_cpy f2 g2 a b c i := by
  unfold va_cpy
  by_cases q : b ≤ i ∧ i < b + c
  · rw [if_pos q, if_pos q]; exact h1 _ (by omega)
  · rw [if_neg q, if_neg q]; exact h2 _ hi
theorem sX_copy {d : Nat} {σ : St} {s i o j n : Int32} {M : Mem} {K : Int32 → Mem → Prop} (hw : WF σ) (hx : XA σ M) (h : ∀ M2, SX (tCopy σ s i o j n) M M2 → K (pCopy σ s i o j n) M2) : Con (d + 2) m_MD_copy 0 0 [.ref 0, .int s, .int i, .int o, .int j, .int n] M (PI K) := by
  obtain ⟨hF, -, -, -, -, -, -, -, hS⟩ := id hx
  unfold tCopy pCopy at h
  refine Con.ent (k := 2) F_MD_copy.1 rfl (Nat.le_of_ble_eq_true rfl) (k_MD_copy_0 hF ?_)
  refine sx_shC hF (fun q => ⟨hF, fun _ => ?_, (fun _ z => nomatch z)⟩) (fun k hk e q => ⟨hF, (fun z => nomatch z), fun a2 ea => ?_⟩)
  · have e : K (-2) M := by
      have := h M (by rw [cpG_1 q]; exact SX.rf hx)
      rwa [cpG_1 q] at this
    exact sx_shC hF (fun _ => ⟨hF, fun _ => PI.mk rfl e, (fun _ z => nomatch z)⟩) (fun k hk _ _ => ⟨hF, (fun z => nomatch z), fun _ _ => PI.mk rfl e⟩)
  cases ea
  refine sx_shC hF (fun q2 => ⟨hF, fun _ => PI.mk rfl ?_, (fun _ z => nomatch z)⟩) (fun l hl e2 q2 => ⟨hF, (fun z => nomatch z), fun a4 ea => ?_⟩)
  · have := h M (by rw [cpG_2 q2]; exact SX.rf hx)
    rwa [cpG_2 q2] at this
  cases ea
  subst e e2
  rw [cpG_3 hk hl, cpG_3 hk hl, nI_clamp (by omega), nI_clamp (by omega)] at h
  obtain ⟨r1, r2, r3⟩ := sheetRef hF hk
  obtain ⟨t1, t2, t3⟩ := sheetRef hF hl
  obtain ⟨s1, s2, s3⟩ := hS k hk
  obtain ⟨v1, v2, v3⟩ := hS l hl
  have k40 := (hw.shs hk).2
  have l40 := (hw.shs hl).2
  have ri := i_rng i
  have rj := i_rng j
  refine ⟨r1, sx_missing hx hk ⟨hF, fun z => PI.mk rfl ?_, fun z => ⟨t1, sx_missing hx hl ⟨hF, fun z2 => ⟨r1, t1, ?_⟩, fun z2 => PI.mk rfl ?_⟩⟩⟩⟩
  · have z := of_decide_eq_true z
    have := h M (by rw [if_pos z]; exact SX.rf hx)
    rwa [if_pos z] at this
  · have z := of_decide_eq_false z
    have z2 := of_decide_eq_false z2
    rw [if_neg z, if_neg z, if_neg z2, if_neg z2] at h
    rw [s1, v1]
    refine ⟨fun y => ?_, fun y => PI.mk rfl ?_⟩
    · rw [if_pos y, if_pos y] at h
      have bad : ¬ okC σ k l i j n = true → K (-12) M := fun q => by
        have := h M (by rw [if_neg q]; exact SX.rf hx)
        rwa [if_neg q] at this
      refine ⟨r1, sx_spans hF r1 s2 k40 (by rw [Int32.toInt_toInt64]; omega) (by rw [Int32.toInt_toInt64]; omega) ⟨hF, fun w => PI.mk rfl (bad ?_), fun w => ⟨t1, sx_spans hF t1 v2 l40 (by rw [Int32.toInt_toInt64]; omega) (by rw [Int32.toInt_toInt64]; omega) ⟨hF, fun w2 => ⟨r1, _, r2, t1, _, t2, 40, 40, r3, t3, ?_⟩, fun w2 => PI.mk rfl (bad ?_)⟩⟩⟩⟩
      · have w := of_decide_eq_false w
        rw [Int32.toInt_toInt64] at w
        unfold okC; rw [decide_eq_true_eq]; omega
      · have w := of_decide_eq_true w
        have w2 := of_decide_eq_true w2
        rw [Int32.toInt_toInt64] at w w2
        have ok : okC σ k l i j n = true := by unfold okC; rw [decide_eq_true_eq]; omega
        obtain ⟨a, ha, rfl⟩ : ∃ k, k < 41 ∧ i = nI k := i_of (by omega) (by omega) (by omega)
        obtain ⟨b, hb, rfl⟩ : ∃ k, k < 41 ∧ j = nI k := i_of (by omega) (by omega) (by omega)
        obtain ⟨c, hc, rfl⟩ : ∃ k, k < 41 ∧ n = nI k := i_of (by omega) (by omega) (by omega)
        rw [nI_T (show a < 2 ^ 31 by omega), nI_T (show c < 2 ^ 31 by omega)] at w
        rw [nI_T (show b < 2 ^ 31 by omega), nI_T (show c < 2 ^ 31 by omega)] at w2
        rw [nI_clamp (show a < 2 ^ 31 by omega), nI_clamp (show b < 2 ^ 31 by omega), nI_clamp (show c < 2 ^ 31 by omega)] at h ⊢
        refine ⟨nI_pos (by omega), nI_pos (by omega), nI_pos (by omega), by omega, by omega, PI.mk rfl ?_⟩
        have := h (wrow M (68 + 2 * l) (va_cpy (mi M (68 + 2 * k)) (mi M (68 + 2 * l)) a b c)) (by
          rw [if_pos ok]
          refine hx.sheetS (L := [68 + 2 * l]) ((FrG.rf _ _).fwrow (by simp)) (by rcases (show l = 0 ∨ l = 1 ∨ l = 2 ∨ l = 3 by omega) with rfl | rfl | rfl | rfl <;> rfl) hw.T6 rfl rfl (fun t ht => ?_)
          show mi (wrow M (68 + 2 * l) (va_cpy (mi M (68 + 2 * k)) (mi M (68 + 2 * l)) a b c)) (67 + 2 * t) 1 = oSo σ t ∧ mi (wrow M (68 + 2 * l) (va_cpy (mi M (68 + 2 * k)) (mi M (68 + 2 * l)) a b c)) (67 + 2 * t) 2 = nI (oSs σ t) ∧ ∀ i, i < 40 → mi (wrow M (68 + 2 * l) (va_cpy (mi M (68 + 2 * k)) (mi M (68 + 2 * l)) a b c)) (68 + 2 * t) i = ro (oSc σ) l (va_cpy (oSc σ k) (oSc σ l) a b c) t i
          obtain ⟨x1, x2, x3⟩ := hS t ht
          rw [mi_wn (i := 67 + 2 * t) (by omega)]
          refine ⟨x1, x2, fun q hq => ?_⟩
          by_cases y : t = l
          · subst y
            rw [mi_ws, ro_s]
            exact cpy_c hq (by omega) s3 v3
          · rw [mi_wn (by omega), ro_n y]; exact x3 q hq)
        rwa [if_pos ok] at this
      · have w := of_decide_eq_true w
        have w2 := of_decide_eq_false w2
        rw [Int32.toInt_toInt64] at w w2
        unfold okC; rw [decide_eq_true_eq]; omega
    · have := h M (by rw [if_neg y]; exact SX.rf hx)
      rwa [if_neg y] at this
  · have z := of_decide_eq_false z
    have z2 := of_decide_eq_true z2
    have := h M (by rw [if_neg z, if_pos z2]; exact SX.rf hx)
    rwa [if_neg z, if_pos z2] at this
theorem cpm147 {d bc bs n a b : Nat} {l1 l2 l3 l4 : Int32} {M0 : Mem} {Φ : Option Value → Mem → Prop} (hn : n ≤ 40) (ha : a + n ≤ 160) (hb : b + n ≤ 160) (H : ∀ M2, Fm M2 → FrG [102] [] M0 M2 → (∀ q, mi M2 102 q = if b ≤ q ∧ q < b + n then mi M0 102 (a + (q - b)) else mi M0 102 q) → Φ (some (.int (nI n))) M2) :
    ∀ (m i : Nat) (M : Mem), i + m = n → Fm M → FrG [102] [] M0 M → (∀ q, mi M 102 q = if b ≤ a ∧ b ≤ q ∧ q < b + i ∨ a < b ∧ b + n ≤ q + i ∧ q < b + n then mi M0 102 (a + (q - b)) else mi M0 102 q) → Ex (d + 1) m_MM_copy bc bs 147 [some (.ref 78), some (.int l1), some (.int l2), some (.int l3), some (.int l4), some (.int (nI n)), some (.int (nI a)), some (.int (nI b)), some (.int (nI i)), none] [] M Φ := by
  intro m
  induction m with
  | zero =>
    intro i M hi hF hfr hg
    obtain rfl : i = n := by omega
    refine k_MM_copy_147 hF ⟨fun _ => H M hF hfr (fun q => ?_), fun q => absurd (nI_le (Nat.le_refl _) (by omega)) q⟩
    rw [hg q]
    by_cases y : b ≤ q ∧ q < b + i
    · rw [if_pos y, if_pos (by omega)]
    · rw [if_neg y, if_neg (by omega)]
  | succ m ih =>
    intro i M hi hF hfr hg
    refine k_MM_copy_147 hF ⟨fun q => absurd q (by rw [nI_leI (by omega) (by omega)]; omega), fun _ => ⟨fun q => ?_, fun q => ?_⟩⟩
    · rw [nI_leI (by omega) (by omega)] at q
      rw [nI_add, nI_add, nI_add, nI_clamp (by omega), nI_clamp (by omega)]
      refine ⟨vN (by omega) (by omega), vN (by omega) (by omega), ih (i + 1) _ (by omega) hF.fwi (hfr.fwi (by simp)) (fun p => ?_)⟩
      rw [hg (a + i), if_neg (by omega), mi_w]
      by_cases y : p = b + i
      · subst y
        rw [u1_s, if_pos (by omega), Nat.add_sub_cancel_left]
      · rw [u1_n y, hg p]
        by_cases y2 : b ≤ a ∧ b ≤ p ∧ p < b + i ∨ a < b ∧ b + n ≤ p + i ∧ p < b + n
        · rw [if_pos y2, if_pos (by omega)]
        · rw [if_neg y2, if_neg (by omega)]
    · rw [nI_leI (by omega) (by omega)] at q
      rw [pk_sub (by omega), pk_sub (by omega), nI_add, nI_add, nI_add, nI_clamp (by omega), nI_clamp (by omega)]
      refine ⟨vN (by omega) (by omega), vN (by omega) (by omega), ih (i + 1) _ (by omega) hF.fwi (hfr.fwi (by simp)) (fun p => ?_)⟩
      rw [hg (a + (n - 1 - i)), if_neg (by omega), mi_w]
      by_cases y : p = b + (n - 1 - i)
      · subst y
        rw [u1_s, if_pos (by omega), Nat.add_sub_cancel_left]
      · rw [u1_n y, hg p]
        by_cases y2 : b ≤ a ∧ b ≤ p ∧ p < b + i ∨ a < b ∧ b + n ≤ p + i ∧ p < b + n
        · rw [if_pos y2, if_pos (by omega)]
        · rw [if_neg y2, if_neg (by omega)]
theorem sM_copy {d : Nat} {σ : St} {s i o j n : Int32} {M : Mem} {K : Int32 → Mem → Prop} (hw : WF σ) (hm : MA σ M) (h : ∀ M2, SM (tCopy σ s i o j n) M M2 → K (pCopy σ s i o j n) M2) : Con (d + 2) m_MM_copy 0 0 [.ref 78, .int s, .int i, .int o, .int j, .int n] M (PI K) := by
  obtain ⟨hF, -, -, -, -, -, -, -, -, hS⟩ := id hm
  unfold tCopy pCopy at h
  refine Con.ent (k := 4) F_MM_copy.1 rfl (Nat.le_of_ble_eq_true rfl) (k_MM_copy_0 hF ?_)
  refine sm_inD hF (by omega) (fun q => ⟨hF, fun _ => PI.mk rfl ?_, (fun z => nomatch z)⟩) (fun k hk e q => ⟨hF, (fun z => nomatch z), fun _ => ?_⟩)
  · rw [show ((3 : Nat) : Int) = 3 from rfl] at q
    have := h M (by rw [cpG_1 q]; exact SM.rf hm)
    rwa [cpG_1 q] at this
  refine sm_inD hF (by omega) (fun q => ⟨hF, (fun z => nomatch z), fun _ => PI.mk rfl ?_⟩) (fun l hl e2 q2 => ⟨hF, fun _ => ?_, (fun z => nomatch z)⟩)
  · rw [show ((3 : Nat) : Int) = 3 from rfl] at q
    have := h M (by rw [cpG_2 q]; exact SM.rf hm)
    rwa [cpG_2 q] at this
  subst e e2
  have hk : k < 4 := by omega
  have hl : l < 4 := by omega
  rw [cpG_3 hk hl, cpG_3 hk hl, nI_clamp (by omega), nI_clamp (by omega)] at h
  obtain ⟨s1, s2, s3⟩ := hS k hk
  obtain ⟨v1, v2, v3⟩ := hS l hl
  have k40 := (hw.shs hk).2
  have l40 := (hw.shs hl).2
  have vk := vN hk (by decide)
  have vl := vN hl (by decide)
  rw [nI_clamp (by omega), nI_clamp (by omega), s1, s2, v1, v2]
  refine ⟨vk, fun z => PI.mk rfl ?_, fun z => ⟨vl, fun z2 => ⟨vk, vl, fun y => ?_, fun y => PI.mk rfl ?_⟩, fun z2 => PI.mk rfl ?_⟩⟩
  · have := h M (by rw [if_pos z]; exact SM.rf hm)
    rwa [if_pos z] at this
  · rw [if_neg z, if_neg z, if_neg z2, if_neg z2, if_pos y, if_pos y] at h
    have bad : ¬ (0 ≤ i.toInt ∧ 0 ≤ j.toInt ∧ 0 ≤ n.toInt ∧ i.toInt + n.toInt ≤ oSs σ k ∧ j.toInt + n.toInt ≤ oSs σ l) → PI K (some (.int (-12))) M := fun q => PI.mk rfl (by
      have q : ¬ okC σ k l i j n = true := by unfold okC; rw [decide_eq_true_eq]; exact q
      have := h M (by rw [if_neg q]; exact SM.rf hm)
      rwa [if_neg q] at this)
    refine ⟨fun w => bad (by rw [i_lt, i_0] at w; omega), fun w => ⟨fun w2 => bad (by rw [i_lt, i_0] at w2; omega), fun w2 => ⟨fun w3 => bad (by rw [i_lt, i_0] at w3; omega), fun w3 => ⟨vk, fun w4 => bad ?_, fun w4 => ⟨vl, fun w5 => bad ?_, fun w5 => ⟨vk, ?_⟩⟩⟩⟩⟩⟩
    · rw [i_lt, i_0] at w w2 w3; rw [i_lt, nI_T (by omega)] at w4; omega
    · rw [i_lt, i_0] at w w2 w3; rw [i_lt, nI_T (by omega)] at w5; omega
    rw [i_lt, i_0] at w w2 w3
    rw [i_lt, nI_T (by omega)] at w4 w5
    obtain ⟨a, ha, rfl⟩ : ∃ k, k < 41 ∧ i = nI k := i_of (by omega) (by omega) (by omega)
    obtain ⟨b, hb, rfl⟩ : ∃ k, k < 41 ∧ j = nI k := i_of (by omega) (by omega) (by omega)
    rw [nI_T (show a < 2 ^ 31 by omega)] at w4
    rw [nI_T (show b < 2 ^ 31 by omega)] at w5
    rw [pk_sub (show a ≤ oSs σ k by omega), pk_sub (show b ≤ oSs σ l by omega)]
    refine ⟨fun w6 => bad ?_, fun w6 => ⟨vl, fun w7 => ?_, fun w7 => bad ?_⟩⟩
    · rw [i_lt, nI_T (by omega)] at w6
      rw [nI_T (show a < 2 ^ 31 by omega)]; omega
    · rw [i_lt, nI_T (by omega)] at w6
      rw [i_le, nI_T (show oSs σ l - b < 2 ^ 31 by omega)] at w7
      obtain ⟨c, hc, rfl⟩ : ∃ k, k < 41 ∧ n = nI k := i_of (by omega) (by omega) (by omega)
      rw [nI_T (show c < 2 ^ 31 by omega)] at w6 w7
      have ok : okC σ k l (nI a) (nI b) (nI c) = true := by
        unfold okC
        rw [decide_eq_true_eq, nI_T (show a < 2 ^ 31 by omega), nI_T (show b < 2 ^ 31 by omega), nI_T (show c < 2 ^ 31 by omega)]
        omega
      rw [if_pos ok, if_pos ok, nI_clamp (show a < 2 ^ 31 by omega), nI_clamp (show b < 2 ^ 31 by omega), nI_clamp (show c < 2 ^ 31 by omega)] at h
      rw [pk_mul, pk_mul, nI_add, nI_add]
      refine cpm147 (by omega) (by omega) (by omega) (fun M2 hF2 f2 g => PI.mk rfl (h M2 ?_)) c 0 M (by omega) hF (FrG.rf _ _) (fun q => by rw [if_neg (by omega)])
      refine hm.sheetS f2 rfl rfl rfl (fun t ht => ?_)
      have hlen := hF.len
      show mi M2 100 t = oSo σ t ∧ mi M2 101 t = nI (oSs σ t) ∧ ∀ i, i < 40 → mi M2 102 (40 * t + i) = ro (oSc σ) l (va_cpy (oSc σ k) (oSc σ l) a b c) t i
      rw [f2.row (j := 100) (by omega) (by simp), f2.row (j := 101) (by omega) (by simp)]
      obtain ⟨x1, x2, x3⟩ := hS t ht
      refine ⟨x1, x2, fun q hq => ?_⟩
      rw [g]
      by_cases y : t = l
      · subst y
        rw [ro_s]
        unfold va_cpy
        by_cases y2 : b ≤ q ∧ q < b + c
        · rw [if_pos y2, if_pos (by omega), ← s3 (a + (q - b)) (by omega)]
          congr 1
          omega
        · rw [if_neg y2, if_neg (by omega)]
          exact x3 q hq
      · rw [if_neg (by omega), ro_n y]
        exact x3 q hq
    · rw [i_lt, nI_T (by omega)] at w6
      rw [i_le, nI_T (show oSs σ l - b < 2 ^ 31 by omega)] at w7
      rw [nI_T (show b < 2 ^ 31 by omega)]; omega
  · have := h M (by rw [if_neg z, if_neg z2, if_neg y]; exact SM.rf hm)
    rwa [if_neg z, if_neg z2, if_neg y] at this
  · have := h M (by rw [if_neg z, if_pos z2]; exact SM.rf hm)
    rwa [if_neg z, if_pos z2] at this
