/-! worth of a town, x -/
def cntLT (p : Nat → Bool) : Nat → Nat
  | 0 => 0
  | n + 1 => if p n = true then cntLT p n + 1 else cntLT p n
def minLT (p : Nat → Bool) (g : Nat → Nat) : Nat → Nat
  | 0 => 99
  | n + 1 => if p n = true then min (minLT p g n) (g n) else minLT p g n
def sumI (p : Nat → Bool) (g : Nat → Int32) : Nat → Int32
  | 0 => nI 0
  | n + 1 => if p n = true then sumI p g n + g n else sumI p g n
theorem cnt_le (p : Nat → Bool) : ∀ n, cntLT p n ≤ n
  | 0 => Nat.le_refl _
  | n + 1 => by
    have := cnt_le p n
    unfold cntLT
    split <;> omega
theorem min_le (p : Nat → Bool) (g : Nat → Nat) : ∀ n, minLT p g n ≤ 99
  | 0 => Nat.le_refl _
  | n + 1 => by
    have := min_le p g n
    unfold minLT
    split <;> omega
def atO (f : Nat → Nat) (t e : Nat) : Nat → Bool := fun o => decide (o ≠ t) && (f o).testBit e
def othV (σ : St) (f : Nat → Nat) (t e : Nat) : Nat := cntLT (atO f t e) (oT σ)
def hrsV (σ : St) (f : Nat → Nat) (t e : Nat) : Nat := minLT (atO f t e) (fun o => far (oT σ) (oRd σ) t o) (oT σ)
def dayV (σ : St) (f : Nat → Nat) (t e : Nat) : Int32 := worthV σ t e (hrsV σ f t (dB (oW σ) e)) (othV σ f t e)
def sumV (σ : St) (f : Nat → Nat) (t : Nat) : Int32 := sumI (fun e => (f t).testBit e) (dayV σ f t) (oW σ)
def byK (k : Nat) (none0 : Prop) [Decidable none0] (s : Int32) : Int32 := if k = 1 then (if none0 then -1 else s) else if k = 2 then s / nI 2 else if k = 3 then s - nI 2 else if k = 4 then s - nI 2 else if k = 5 then (if none0 then nI 0 else s + nI 1) else s
theorem byK_c {k : Nat} {s : Int32} {P Q : Prop} [Decidable P] [Decidable Q] (h : P ↔ Q) : byK k P s = byK k Q s := by
  by_cases q : P
  · have q2 := h.mp q
    simp only [byK, if_pos q, if_pos q2]
  · have q2 := fun z => q (h.mpr z)
    simp only [byK, if_neg q, if_neg q2]
def townV (σ : St) (k : Nat) (f : Nat → Nat) (t : Nat) : Int32 := byK k (f t = 0) (sumV σ f t)
def allV (σ : St) (k : Nat) (f : Nat → Nat) (out : Int32) : Int32 := sumI (fun t => decide (¬ nI t = out)) (townV σ k f) (oT σ)
theorem nI_min {a b : Nat} (ha : a < 2 ^ 31) (hb : b < 2 ^ 31) : (if nI a < nI b then nI a else nI b) = nI (min b a) := by
  split <;> rename_i q <;> rw [nI_ltI ha hb] at q <;> congr 1 <;> omega
section OTH
variable {d bc bs t e : Nat} {σ : St} {f : Nat → Nat} {M : Mem} {K : Int32 → Mem → Prop}
theorem oth5 (hw : WF σ) (h0 : FX σ f M) (hf : ∀ t, f t < 128) (ht : t < oT σ) (he : e < 7) (h : K (nI (othV σ f t e)) M) :
    ∀ (n k : Nat), k + n = oT σ → Ex (d + 3) m_Fair_othersAt bc bs 5 [some (.ref 51), some (.int (nI t)), some (.int (nI e)), some (.int (nI (cntLT (atO f t e) k))), some (.int (nI k))] [] M (PI K) := by
  obtain ⟨hF, hL, hT, hm⟩ := h0
  have h6 := hw.T6
  intro n
  induction n with
  | zero =>
    intro k hk
    obtain rfl : k = oT σ := by omega
    refine k_Fair_othersAt_5 hF ?_
    rw [hL.1]
    exact ⟨fun _ => PI.mk rfl h, fun q => absurd (nI_le (Nat.le_refl _) (by omega)) q⟩
  | succ n ih =>
    intro k hk
    have ih2 := ih (k + 1) (by omega)
    unfold cntLT atO at ih2
    refine k_Fair_othersAt_5 hF ?_
    rw [hL.1, nI_eq (by omega) (by omega), nI_add, nI_add]
    refine ⟨fun q => absurd q (by rw [nI_leI (by omega) (by omega)]; omega), fun _ => ⟨fun z => ?_, fun z => ?_⟩⟩
    · rwa [if_neg (by rw [decide_eq_false (fun q => q z), Bool.false_and]; decide)] at ih2
    · refine sx_isAt hF hm hf h6 (by omega) he ⟨hF, fun y => ?_, fun y => ?_⟩
      · rwa [if_neg (by rw [y, Bool.and_false]; decide)] at ih2
      · rwa [if_pos (by rw [y, decide_eq_true z]; rfl)] at ih2
theorem sx_othersAt (hw : WF σ) (h0 : FX σ f M) (hf : ∀ t, f t < 128) (ht : t < oT σ) (he : e < 7) (h : K (nI (othV σ f t e)) M) : Con (d + 3) m_Fair_othersAt 0 0 [.ref 51, .int (nI t), .int (nI e)] M (PI K) := by
  refine Con.ent (k := 2) F_Fair_othersAt.1 rfl (Nat.le_of_ble_eq_true rfl) (k_Fair_othersAt_0 h0.1 ?_)
  exact oth5 hw h0 hf ht he h (oT σ) 0 (by omega)
theorem hrs6 (hw : WF σ) (h0 : FX σ f M) (hf : ∀ t, f t < 128) (ht : t < oT σ) (he : e < 7) (h : K (nI (hrsV σ f t e)) M) :
    ∀ (n k : Nat), k + n = oT σ → Ex (d + 3) m_Fair_hoursToMarket bc bs 6 [some (.ref 51), some (.int (nI t)), some (.int (nI e)), some (.int (nI (minLT (atO f t e) (fun o => far (oT σ) (oRd σ) t o) k))), some (.int (nI k))] [] M (PI K) := by
  obtain ⟨hF, hL, hT, hm⟩ := h0
  have h6 := hw.T6
  intro n
  induction n with
  | zero =>
    intro k hk
    obtain rfl : k = oT σ := by omega
    refine k_Fair_hoursToMarket_6 hF ?_
    rw [hL.1]
    exact ⟨fun _ => PI.mk rfl h, fun q => absurd (nI_le (Nat.le_refl _) (by omega)) q⟩
  | succ n ih =>
    intro k hk
    have ih2 := ih (k + 1) (by omega)
    have hm9 := min_le (atO f t e) (fun o => far (oT σ) (oRd σ) t o) k
    have hfr := hw.far t k
    have es : ∀ m, minLT (atO f t e) (fun o => far (oT σ) (oRd σ) t o) (m + 1) = if atO f t e m = true then min (minLT (atO f t e) (fun o => far (oT σ) (oRd σ) t o) m) (far (oT σ) (oRd σ) t m) else minLT (atO f t e) (fun o => far (oT σ) (oRd σ) t o) m := fun _ => rfl
    rw [es] at ih2
    refine k_Fair_hoursToMarket_6 hF ?_
    rw [hL.1, nI_eq (by omega) (by omega), nI_add]
    refine ⟨fun q => absurd q (by rw [nI_leI (by omega) (by omega)]; omega), fun _ => ⟨fun z => ?_, fun z => ?_⟩⟩
    · rwa [if_neg (by unfold atO; rw [decide_eq_false (fun q => q z), Bool.false_and]; decide)] at ih2
    · refine sx_isAt hF hm hf h6 (by omega) he ⟨hF, fun y => ?_, fun y => ?_⟩
      · rwa [if_neg (by unfold atO; rw [y, Bool.and_false]; decide)] at ih2
      · refine sx_hoursBetween hF hw hL ht (by omega) ⟨hF, ?_⟩
        rw [nI_min (by omega) (by omega)]
        rwa [if_pos (by unfold atO; rw [y, decide_eq_true z]; rfl)] at ih2
theorem sx_hoursTo (hw : WF σ) (h0 : FX σ f M) (hf : ∀ t, f t < 128) (ht : t < oT σ) (he : e < 7) (h : K (nI (hrsV σ f t e)) M) : Con (d + 3) m_Fair_hoursToMarket 0 0 [.ref 51, .int (nI t), .int (nI e)] M (PI K) := by
  refine Con.ent (k := 2) F_Fair_hoursToMarket.1 rfl (Nat.le_of_ble_eq_true rfl) (k_Fair_hoursToMarket_0 h0.1 ?_)
  exact hrs6 hw h0 hf ht he h (oT σ) 0 (by omega)
end OTH
theorem sx_worthBy {d p v : Nat} {g : Nat × List Nat} {s : Int32} {M : Mem} {K : Int32 → Mem → Prop} (hF : Fx M) (hg : GivX M p g) (hg6 : g.1 < 6) (hv : v < 2) (h : K (byK g.1 (v = 0) s) M) : Con (d + 1) m_Giving_worthBy 0 0 [.ref p, .int s, .int (nI v)] M (PI K) := by
  refine Con.of (lo := [some (.ref p), some (.int s), some (.int (nI v))]) F_Giving_worthBy.1 rfl (Nat.le_of_ble_eq_true rfl) (k_Giving_worthBy_0 hF ⟨hg.2.1, ?_⟩)
  rw [hg.2.2.1, nI_eq (by omega) (by omega), nI_eq (by omega) (by omega), nI_eq (by omega) (by omega), nI_eq (by omega) (by omega), nI_eq (by omega) (by omega), nI_z (by omega)]
  unfold byK at h
  refine ⟨fun z => ⟨fun y => PI.mk ?_ h, fun y => PI.mk ?_ h⟩, fun z => PI.mk ?_ h, fun z => PI.mk ?_ h, fun z => PI.mk ?_ h, fun z => ⟨fun y => PI.mk ?_ h, fun y => PI.mk ?_ h⟩, fun z1 z2 z3 z4 z5 => PI.mk ?_ h⟩
  · rw [if_pos z, if_pos y]
  · rw [if_pos z, if_neg y]
  · rw [if_neg (by omega), if_pos z]
  · rw [if_neg (by omega), if_neg (by omega), if_pos z]
  · rw [if_neg (by omega), if_neg (by omega), if_neg (by omega), if_pos z]
  · rw [if_neg (by omega), if_neg (by omega), if_neg (by omega), if_neg (by omega), if_pos z, if_pos y]
  · rw [if_neg (by omega), if_neg (by omega), if_neg (by omega), if_neg (by omega), if_pos z, if_neg y]
  · rw [if_neg z1, if_neg z2, if_neg z3, if_neg z4, if_neg z5]
def FXG (σ : St) (f : Nat → Nat) (p : Nat) (g : Nat × List Nat) (M : Mem) : Prop := FX σ f M ∧ mr M 51 3 = some p ∧ GivX M p g
theorem FXG.fr {σ : St} {f : Nat → Nat} {p : Nat} {g : Nat × List Nat} {M M2 : Mem} (h : FXG σ f p g M) (hw : WF σ) (q : FrG [48, 49] [] M M2) : FXG σ f p g M2 := by
  obtain ⟨h1, h2, h3⟩ := h
  exact ⟨h1.fr hw q, by rw [q.rrow (by have := h1.1.len; omega) (by simp)]; exact h2, h3.fr (q.X rfl rfl)⟩
section WTO
variable {d bc bs t p : Nat} {σ : St} {f : Nat → Nat} {g : Nat × List Nat} {M0 : Mem} {K : Int32 → Mem → Prop}
theorem wto13 (hw : WF σ) (hf : ∀ t, f t < 128) (hg : g.1 < 6) (ht : t < oT σ) (h : ∀ M2, FXG σ f p g M2 → FrG [48, 49] [] M0 M2 → K (townV σ g.1 f t) M2) :
    ∀ (n k : Nat) (M : Mem), k + n = oW σ → FXG σ f p g M → FrG [48, 49] [] M0 M → Ex (d + 4) m_Fair_worthOfTown bc bs 13 [some (.ref 51), some (.int (nI t)), some (.int (sumI (fun e => (f t).testBit e) (dayV σ f t) k)), some (.int (nI k))] [] M (PI K) := by
  have h6 := hw.T6
  obtain ⟨w1, w2⟩ := hw.W
  have hft := hf t
  intro n
  induction n with
  | zero =>
    intro k M hk h0 hfr
    obtain rfl : k = oW σ := by omega
    obtain ⟨⟨hF, hL, hT, hm⟩, h51, hgx⟩ := id h0
    refine k_Fair_worthOfTown_13 hF ?_
    rw [hL.2.1, nI_clamp (by omega), hm t ht, nI_z (by omega)]
    refine ⟨fun _ => ⟨p, h51, vN (by omega) (by omega), fun z => ⟨hgx.2.1, ?_⟩, fun z => ⟨hgx.2.1, ?_⟩⟩, fun q => absurd (nI_le (Nat.le_refl _) (by omega)) q⟩
    · refine sx_worthBy hF hgx hg (by omega) ⟨hF, PI.mk ?_ (h M h0 hfr)⟩
      exact byK_c ⟨fun _ => z, fun _ => rfl⟩
    · refine sx_worthBy hF hgx hg (by omega) ⟨hF, PI.mk ?_ (h M h0 hfr)⟩
      exact byK_c ⟨fun q => absurd q (by decide), fun q => absurd q z⟩
  | succ n ih =>
    intro k M hk h0 hfr
    obtain ⟨⟨hF, hL, hT, hm⟩, h51, hgx⟩ := id h0
    have ih2 := ih (k + 1)
    have es : ∀ m, sumI (fun e => (f t).testBit e) (dayV σ f t) (m + 1) = if (f t).testBit m = true then sumI (fun e => (f t).testBit e) (dayV σ f t) m + dayV σ f t m else sumI (fun e => (f t).testBit e) (dayV σ f t) m := fun _ => rfl
    rw [es] at ih2
    refine k_Fair_worthOfTown_13 hF ?_
    rw [hL.2.1, nI_add]
    refine ⟨fun q => absurd q (by rw [nI_leI (by omega) (by omega)]; omega), fun _ => ?_⟩
    refine sx_isAt hF hm hf h6 ht (by omega) ⟨hF, fun z => ?_, fun z => ?_⟩
    · rw [if_neg (by rw [z]; decide)] at ih2
      exact ih2 M (by omega) h0 hfr
    · rw [if_pos z] at ih2
      have hd := dB_lt (d := k) (show 0 < oW σ by omega)
      rw [hL.2.1]
      refine sx_dayBefore hF (by omega) (by omega) ⟨hF, sx_hoursTo hw h0.1 hf ht (by omega) ⟨hF, sx_othersAt hw h0.1 hf ht (by omega) ⟨hF, ?_⟩⟩⟩
      exact sx_worthOfDay hF hw hL hT ht (fun M2 hF2 f2 => ⟨hF2, ih2 M2 (by omega) (h0.fr hw f2) (hfr.tr f2)⟩)
end WTO
theorem sx_worthOfTown {d t p : Nat} {σ : St} {f : Nat → Nat} {g : Nat × List Nat} {M : Mem} {K : Int32 → Mem → Prop} (hw : WF σ) (h0 : FXG σ f p g M) (hf : ∀ t, f t < 128) (hg : g.1 < 6) (ht : t < oT σ) (h : ∀ M2, FXG σ f p g M2 → FrG [48, 49] [] M M2 → K (townV σ g.1 f t) M2) : Con (d + 4) m_Fair_worthOfTown 0 0 [.ref 51, .int (nI t)] M (PI K) := by
  refine Con.ent (k := 2) F_Fair_worthOfTown.1 rfl (Nat.le_of_ble_eq_true rfl) (k_Fair_worthOfTown_0 h0.1.1 ⟨fun q => ?_, fun a1 q => ?_⟩)
  · rw [h0.2.1] at q; cases q
  · exact wto13 hw hf hg ht h (oW σ) 0 M (by omega) h0 (FrG.rf _ _)
section WAB
variable {d bc bs p : Nat} {out : Int32} {σ : St} {f : Nat → Nat} {g : Nat × List Nat} {M0 : Mem} {K : Int32 → Mem → Prop}
theorem wab4 (hw : WF σ) (hf : ∀ t, f t < 128) (hg : g.1 < 6) (h : ∀ M2, FXG σ f p g M2 → FrG [48, 49] [] M0 M2 → K (allV σ g.1 f out) M2) :
    ∀ (n k : Nat) (M : Mem), k + n = oT σ → FXG σ f p g M → FrG [48, 49] [] M0 M → Ex (d + 5) m_Fair_worthOfAllBut bc bs 4 [some (.ref 51), some (.int out), some (.int (sumI (fun t => decide (¬ nI t = out)) (townV σ g.1 f) k)), some (.int (nI k))] [] M (PI K) := by
  have h6 := hw.T6
  intro n
  induction n with
  | zero =>
    intro k M hk h0 hfr
    obtain rfl : k = oT σ := by omega
    refine k_Fair_worthOfAllBut_4 h0.1.1 ?_
    rw [h0.1.2.1.1]
    exact ⟨fun _ => PI.mk rfl (h M h0 hfr), fun q => absurd (nI_le (Nat.le_refl _) (by omega)) q⟩
  | succ n ih =>
    intro k M hk h0 hfr
    have ih2 := ih (k + 1)
    have es : ∀ m, sumI (fun t => decide (¬ nI t = out)) (townV σ g.1 f) (m + 1) = if decide (¬ nI m = out) = true then sumI (fun t => decide (¬ nI t = out)) (townV σ g.1 f) m + townV σ g.1 f m else sumI (fun t => decide (¬ nI t = out)) (townV σ g.1 f) m := fun _ => rfl
    rw [es] at ih2
    refine k_Fair_worthOfAllBut_4 h0.1.1 ?_
    rw [h0.1.2.1.1, nI_add]
    refine ⟨fun q => absurd q (by rw [nI_leI (by omega) (by omega)]; omega), fun _ => ⟨fun z => ?_, fun z => ?_⟩⟩
    · rw [if_neg (by rw [decide_eq_false (fun q => q z)]; decide)] at ih2
      exact ih2 M (by omega) h0 hfr
    · rw [if_pos (decide_eq_true z)] at ih2
      exact sx_worthOfTown hw h0 hf hg (by omega) (fun M2 h2 f2 => ⟨h2.1.1, ih2 M2 (by omega) h2 (hfr.tr f2)⟩)
end WAB
theorem sx_worthAll {d p : Nat} {out : Int32} {σ : St} {f : Nat → Nat} {g : Nat × List Nat} {M : Mem} {K : Int32 → Mem → Prop} (hw : WF σ) (h0 : FXG σ f p g M) (hf : ∀ t, f t < 128) (hg : g.1 < 6) (h : ∀ M2, FXG σ f p g M2 → FrG [48, 49] [] M M2 → K (allV σ g.1 f out) M2) : Con (d + 5) m_Fair_worthOfAllBut 0 0 [.ref 51, .int out] M (PI K) := by
  refine Con.ent (k := 2) F_Fair_worthOfAllBut.1 rfl (Nat.le_of_ble_eq_true rfl) (k_Fair_worthOfAllBut_0 h0.1.1 ?_)
  exact wab4 hw hf hg h (oT σ) 0 M (by omega) h0 (FrG.rf _ _)
