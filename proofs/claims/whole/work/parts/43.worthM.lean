/-! worth of a town, m -/
def F103 (σ : St) (M : Mem) : Prop := ∀ x y, x < 6 → y < 6 → mi M 103 (6 * x + y) = nI (far (oT σ) (oRd σ) x y)
def FN (σ : St) (f : Nat → Nat) (M : Mem) : Prop := Fm M ∧ MLand σ M ∧ MText σ M ∧ MkAt M 109 (oT σ) f ∧ F103 σ M
theorem FN.fr {σ : St} {f : Nat → Nat} {M M2 : Mem} (h : FN σ f M) (g : FrG [106, 107] [] M M2) : FN σ f M2 := by
  obtain ⟨h1, h2, h3, h4, h5⟩ := h
  have hX := g.M h1 rfl
  have hl := h1.len
  refine ⟨g.fm h1 (by simp), h2.fr hX, h3.fr hX, ?_, ?_⟩
  · unfold MkAt
    rw [g.row (by omega) (by decide)]
    exact h4
  · unfold F103
    rw [g.row (by omega) (by decide)]
    exact h5
theorem cnt_s {p : Nat → Bool} {n : Nat} : cntLT p (n + 1) = if p n = true then cntLT p n + 1 else cntLT p n := rfl
theorem min_s {p : Nat → Bool} {g : Nat → Nat} {n : Nat} : minLT p g (n + 1) = if p n = true then min (minLT p g n) (g n) else minLT p g n := rfl
theorem sum_s {p : Nat → Bool} {g : Nat → Int32} {n : Nat} : sumI p g (n + 1) = if p n = true then sumI p g n + g n else sumI p g n := rfl
theorem bitv {m i : Nat} (hm : m < 2 ^ 31) (hi : i < 32) : (nI m >>> (nI i &&& 31)) &&& nI 1 = nI (if m.testBit i = true then 1 else 0) := by
  rw [bit_at hm hi]
  congr 1
  split <;> rename_i q
  · exact (tb_iff _ _).mp q
  · rw [tb_iff] at q; omega
section WNO
variable {d bc bs t : Nat} {σ : St} {f : Nat → Nat} {M0 : Mem} {K : Int32 → Mem → Prop}
theorem wno36 {e : Nat} {s : Int32} (hw : WF σ) (hf : ∀ t, f t < 128) (ht : t < oT σ) (he : e < oW σ) {M : Mem} (h0 : FN σ f M)
    (H : ∀ M2, FN σ f M2 → FrG [106, 107] [] M M2 → Ex (d + 4) m_MM_worthNow bc bs 4 [some (.ref 78), some (.int (nI t)), some (.int (s + dayV σ f t e)), some (.int (nI (e + 1))), none, none, none, none] [] M2 (PI K)) :
    ∀ (n k : Nat), k + n = oT σ → Ex (d + 4) m_MM_worthNow bc bs 36 [some (.ref 78), some (.int (nI t)), some (.int s), some (.int (nI e)), some (.int (nI (minLT (atO f t (dB (oW σ) e)) (fun o => far (oT σ) (oRd σ) t o) k))), some (.int (nI (cntLT (atO f t e) k))), some (.int (nI k)), none] [] M (PI K) := by
  obtain ⟨hF, hL, hT, hm, h103⟩ := id h0
  have h6 := hw.T6
  obtain ⟨w1, w2⟩ := hw.W
  have hd := dB_lt (d := e) (show 0 < oW σ by omega)
  intro n
  induction n with
  | zero =>
    intro k hk
    obtain rfl : k = oT σ := by omega
    refine k_MM_worthNow_36 hF ?_
    rw [hL.1]
    refine ⟨fun _ => ?_, fun q => absurd (nI_le (Nat.le_refl _) (by omega)) q⟩
    rw [nI_add]
    exact sm_worthBy hF hw hL hT ht (fun M2 hF2 f2 => ⟨hF2, H M2 (h0.fr f2) f2⟩)
  | succ n ih =>
    intro k hk
    have ih2 := ih (k + 1) (by omega)
    have hm9 := min_le (atO f t (dB (oW σ) e)) (fun o => far (oT σ) (oRd σ) t o) k
    have hc := cnt_le (atO f t e) k
    have hfr := hw.far t k
    have hfk := hf k
    rw [min_s, cnt_s] at ih2
    refine k_MM_worthNow_36 hF ?_
    rw [hL.1, hL.2.1, before_N he (by omega), pk_mul, nI_add (6 * t) k, nI_clamp (by omega), nI_clamp (by omega), nI_eq (by omega) (by omega), hm k (by omega), bitv (i := dB (oW σ) e) (by omega) (by omega), bitv (i := e) (by omega) (by omega), h103 t k (by omega) (by omega), nI_add k 1]
    refine ⟨fun q => absurd q (by rw [nI_leI (by omega) (by omega)]; omega), fun _ => ⟨fun z => ?_, fun z => ⟨vN (by omega) (by omega), by rw [nI_z (by omega)]; omega, ?_⟩⟩⟩
    · rwa [if_neg (by unfold atO; rw [decide_eq_false (fun q => q z), Bool.false_and]; decide), if_neg (by unfold atO; rw [decide_eq_false (fun q => q z), Bool.false_and]; decide)] at ih2
    · have ea : ∀ e, atO f t e k = (f k).testBit e := fun e => by unfold atO; rw [decide_eq_true z, Bool.true_and]
      rw [ea, ea] at ih2
      have ec : nI (cntLT (atO f t e) k) + nI (if (f k).testBit e = true then 1 else 0) = nI (if (f k).testBit e = true then cntLT (atO f t e) k + 1 else cntLT (atO f t e) k) := by
        rw [nI_add]
        split <;> rfl
      have s122 : ∀ v : Nat, (if (f k).testBit (dB (oW σ) e) = true then min (minLT (atO f t (dB (oW σ) e)) (fun o => far (oT σ) (oRd σ) t o) k) (far (oT σ) (oRd σ) t k) else minLT (atO f t (dB (oW σ) e)) (fun o => far (oT σ) (oRd σ) t o) k) = minLT (atO f t (dB (oW σ) e)) (fun o => far (oT σ) (oRd σ) t o) k → Ex (d + 4) m_MM_worthNow bc bs 122 [some (.ref 78), some (.int (nI t)), some (.int s), some (.int (nI e)), some (.int (nI (minLT (atO f t (dB (oW σ) e)) (fun o => far (oT σ) (oRd σ) t o) k))), some (.int (nI (cntLT (atO f t e) k))), some (.int (nI k)), some (.int (nI v))] [] M (PI K) := by
        intro v hv
        refine k_MM_worthNow_122 hF ?_
        rw [nI_clamp (by omega), hm k (by omega), bitv (by omega) (by omega), nI_add k 1, ec]
        rw [hv] at ih2
        exact ⟨vN (by omega) (by omega), ih2⟩
      rw [ec]
      have v36 : vp_in (nI (6 * t + k)) 36 := vN (by omega) (by omega)
      have v6 : vp_in (nI k) 6 := vN (by omega) (by omega)
      refine ⟨fun y => ⟨fun _ => s122 0 ?_, fun q => absurd rfl q⟩, fun y => ⟨fun q => absurd q (by decide), fun _ => ⟨v36, fun q => s122 1 ?_, fun q => ⟨v36, v6, ?_⟩⟩⟩⟩
      · rw [if_neg (fun q => y (by rw [if_pos q]))]
      · rw [nI_leI (by omega) (by omega)] at q
        split
        · omega
        · rfl
      · rw [nI_leI (by omega) (by omega)] at q
        have yt : (f k).testBit (dB (oW σ) e) = true := by
          cases hh : (f k).testBit (dB (oW σ) e) with
          | true => rfl
          | false => rw [hh] at y; exact absurd y (by decide)
        rw [if_pos yt, show min (minLT (atO f t (dB (oW σ) e)) (fun o => far (oT σ) (oRd σ) t o) k) (far (oT σ) (oRd σ) t k) = far (oT σ) (oRd σ) t k by omega] at ih2
        exact ih2
theorem wno4 (hw : WF σ) (hf : ∀ t, f t < 128) (ht : t < oT σ) (h : ∀ M2, FN σ f M2 → FrG [106, 107] [] M0 M2 → K (sumV σ f t) M2) :
    ∀ (n k : Nat) (M : Mem), k + n = oW σ → FN σ f M → FrG [106, 107] [] M0 M → Ex (d + 4) m_MM_worthNow bc bs 4 [some (.ref 78), some (.int (nI t)), some (.int (sumI (fun e => (f t).testBit e) (dayV σ f t) k)), some (.int (nI k)), none, none, none, none] [] M (PI K) := by
  have h6 := hw.T6
  obtain ⟨w1, w2⟩ := hw.W
  have hft := hf t
  intro n
  induction n with
  | zero =>
    intro k M hk h0 hfr
    obtain rfl : k = oW σ := by omega
    refine k_MM_worthNow_4 h0.1 ?_
    rw [h0.2.1.2.1]
    exact ⟨fun _ => PI.mk rfl (h M h0 hfr), fun q => absurd (nI_le (Nat.le_refl _) (by omega)) q⟩
  | succ n ih =>
    intro k M hk h0 hfr
    obtain ⟨hF, hL, hT, hm, h103⟩ := id h0
    have ih2 := ih (k + 1)
    rw [sum_s] at ih2
    refine k_MM_worthNow_4 hF ?_
    rw [hL.2.1, nI_clamp (by omega), hm t ht, bit_1 (by omega) (by omega), nI_add]
    refine ⟨fun q => absurd q (by rw [nI_leI (by omega) (by omega)]; omega), fun _ => ⟨vN (by omega) (by omega), fun z => ?_, fun z => ?_⟩⟩
    · rw [if_neg z] at ih2
      exact ih2 M (by omega) h0 hfr
    · rw [if_pos z] at ih2
      exact wno36 hw hf ht (by omega) h0 (fun M2 h2 f2 => ih2 M2 (by omega) h2 (hfr.tr f2)) (oT σ) 0 (by omega)
end WNO
theorem sm_worthNow {d t : Nat} {σ : St} {f : Nat → Nat} {M : Mem} {K : Int32 → Mem → Prop} (hw : WF σ) (h0 : FN σ f M) (hf : ∀ t, f t < 128) (ht : t < oT σ) (h : ∀ M2, FN σ f M2 → FrG [106, 107] [] M M2 → K (sumV σ f t) M2) : Con (d + 4) m_MM_worthNow 0 0 [.ref 78, .int (nI t)] M (PI K) := by
  refine Con.ent (k := 6) F_MM_worthNow.1 rfl (Nat.le_of_ble_eq_true rfl) (k_MM_worthNow_0 h0.1 ?_)
  exact wno4 hw hf ht h (oW σ) 0 M (by omega) h0 (FrG.rf _ _)
theorem sm_worthIn {d t k : Nat} {σ : St} {f : Nat → Nat} {M : Mem} {K : Int32 → Mem → Prop} (hw : WF σ) (h0 : FN σ f M) (hf : ∀ t, f t < 128) (hk : k < 6) (ht : t < oT σ) (h : ∀ M2, FN σ f M2 → FrG [106, 107] [] M M2 → K (townV σ k f t) M2) : Con (d + 5) m_MM_worthIn 0 0 [.ref 78, .int (nI k), .int (nI t)] M (PI K) := by
  have h6 := hw.T6
  have hft := hf t
  have s23 : (f t = 0 → ¬ k = 1 ∧ ¬ k = 5) → Ex (d + 5) m_MM_worthIn 0 0 23 [some (.ref 78), some (.int (nI k)), some (.int (nI t)), none] [] M (PI K) := by
    intro hz
    refine k_MM_worthIn_23 h0.1 ?_
    refine sm_worthNow hw h0 hf ht (fun M2 h2 f2 => ⟨h2.1, ?_⟩)
    have hk2 := h M2 h2 f2
    unfold townV byK at hk2
    rw [nI_eq (by omega) (by omega), nI_eq (by omega) (by omega), nI_eq (by omega) (by omega), nI_eq (by omega) (by omega)]
    refine ⟨fun z2 => ⟨fun z3 => PI.mk ?_ hk2, fun z3 => ⟨fun z4 => ⟨fun z5 => PI.mk ?_ hk2, fun z5 => PI.mk ?_ hk2⟩, fun z4 => PI.mk ?_ hk2⟩⟩, fun z2 => PI.mk ?_ hk2⟩
    · rw [if_neg (by omega), if_neg (by omega), if_pos z3]
    · rw [if_neg z2, if_neg z3, if_neg z4, if_neg z5]
      split
      · rw [if_neg (fun q => (hz q).1 (by assumption))]
      · rfl
    · rw [if_neg (by omega), if_neg (by omega), if_neg (by omega), if_neg (by omega), if_pos z5, if_neg (fun q => (hz q).2 z5)]
    · rw [if_neg (by omega), if_neg (by omega), if_neg (by omega), if_pos z4]
    · rw [if_neg (by omega), if_pos z2]
  have hk0 := h M h0 (FrG.rf _ _)
  unfold townV byK at hk0
  refine Con.ent (k := 1) F_MM_worthIn.1 rfl (Nat.le_of_ble_eq_true rfl) (k_MM_worthIn_0 h0.1 ?_)
  rw [nI_clamp (by omega), h0.2.2.2.1 t ht, nI_z (by omega), nI_eq (by omega) (by omega), nI_eq (by omega) (by omega), nI_eq (by omega) (by omega), nI_eq (by omega) (by omega), nI_eq (by omega) (by omega)]
  refine ⟨vN (by omega) (by omega), fun z => s23 (fun q => absurd q z), fun z => ⟨fun z1 => ⟨fun z2 => ⟨fun z3 => by omega, fun z3 => ⟨fun z4 => ⟨fun z5 => PI.mk ?_ hk0, fun z5 => by omega⟩, fun z4 => by omega⟩⟩, fun z2 => by omega⟩, fun z1 => ⟨fun z5 => s23 (fun _ => ⟨z1, z5⟩), fun z5 => ⟨fun z2 => ⟨fun z3 => by omega, fun z3 => ⟨fun z4 => ⟨fun q => absurd z5 q, fun _ => PI.mk ?_ hk0⟩, fun z4 => by omega⟩⟩, fun z2 => by omega⟩⟩⟩⟩
  · rw [if_pos z1, if_pos z]
  · rw [if_neg (by omega), if_neg (by omega), if_neg (by omega), if_neg (by omega), if_pos z5, if_pos z]
    rfl
section WAM
variable {d bc bs k : Nat} {out : Int32} {σ : St} {f : Nat → Nat} {M0 : Mem} {K : Int32 → Mem → Prop}
theorem wam5 (hw : WF σ) (hf : ∀ t, f t < 128) (hk : k < 6) (h : ∀ M2, FN σ f M2 → FrG [106, 107] [] M0 M2 → K (allV σ k f out) M2) :
    ∀ (n t : Nat) (M : Mem), t + n = oT σ → FN σ f M → FrG [106, 107] [] M0 M → Ex (d + 6) m_MM_worthAll bc bs 5 [some (.ref 78), some (.int (nI k)), some (.int out), some (.int (sumI (fun t => decide (¬ nI t = out)) (townV σ k f) t)), some (.int (nI t))] [] M (PI K) := by
  have h6 := hw.T6
  intro n
  induction n with
  | zero =>
    intro t M ht h0 hfr
    obtain rfl : t = oT σ := by omega
    refine k_MM_worthAll_5 h0.1 ?_
    rw [h0.2.1.1]
    exact ⟨fun _ => PI.mk rfl (h M h0 hfr), fun q => absurd (nI_le (Nat.le_refl _) (by omega)) q⟩
  | succ n ih =>
    intro t M ht h0 hfr
    have ih2 := ih (t + 1)
    rw [sum_s] at ih2
    refine k_MM_worthAll_5 h0.1 ?_
    rw [h0.2.1.1, nI_add t 1]
    refine ⟨fun q => absurd q (by rw [nI_leI (by omega) (by omega)]; omega), fun _ => ⟨fun z => ?_, fun z => ?_⟩⟩
    · rw [if_pos (decide_eq_true z)] at ih2
      exact sm_worthIn hw h0 hf hk (by omega) (fun M2 h2 f2 => ⟨h2.1, ih2 M2 (by omega) h2 (hfr.tr f2)⟩)
    · rw [if_neg (by rw [decide_eq_false (fun q => q z)]; decide)] at ih2
      rw [nI_0, Int32.add_zero]
      exact ih2 M (by omega) h0 hfr
end WAM
theorem sm_worthAll {d k : Nat} {out : Int32} {σ : St} {f : Nat → Nat} {M : Mem} {K : Int32 → Mem → Prop} (hw : WF σ) (h0 : FN σ f M) (hf : ∀ t, f t < 128) (hk : k < 6) (h : ∀ M2, FN σ f M2 → FrG [106, 107] [] M M2 → K (allV σ k f out) M2) : Con (d + 6) m_MM_worthAll 0 0 [.ref 78, .int (nI k), .int out] M (PI K) := by
  refine Con.ent (k := 2) F_MM_worthAll.1 rfl (Nat.le_of_ble_eq_true rfl) (k_MM_worthAll_0 h0.1 ?_)
  exact wam5 hw hf hk h (oT σ) 0 M (by omega) h0 (FrG.rf _ _)
