/-! roads, both sides; feed, both sides; each piece of m's state by its rows -/
def rdP (σ : St) (s p : Nat) : St := tRoad σ (oSc σ s p) (oSc σ s (p + 1)) (oSc σ s (p + 2))
def rdA (σ : St) (s p : Nat) : Int32 := pRoad σ (oSc σ s p) (oSc σ s (p + 1)) (oSc σ s (p + 2))
def rdsV (s a : Nat) : Nat → Nat → Nat → St → Int32 × St
  | 0, _, c, σ => (nI c, σ)
  | n + 1, k, c, σ => if a + 3 * k + 3 ≤ oSs σ s then rdsV s a n (k + 1) (if rdA σ s (a + 3 * k) < 0 then c else c + 1) (rdP σ s (a + 3 * k)) else (-12, σ)
def rdsW (l : Int32) (s n : Nat) (σ : St) : Int32 × St := if l < 0 then (if n = 0 then (nI 0, σ) else (-12, σ)) else rdsV s l.toNatClampNeg n 0 0 σ
def rdG {α : Type} (σ : St) (s so n : Int32) (bad no srt : α) (ok : Nat → Nat → α) : α := if isB 0 3 s = true then (if isB 0 2 so = true then (if isB 0 13 n = true then (if oSo σ s.toNatClampNeg = -1 then no else if oSo σ s.toNatClampNeg = so then ok s.toNatClampNeg n.toNatClampNeg else srt) else bad) else bad) else bad
def pRoads (σ : St) (s so l n : Int32) : Int32 := rdG σ s so n (-2) (-11) (-13) (fun s n => (rdsW l s n σ).1)
def tRoads (σ : St) (s so l n : Int32) : St := rdG σ s so n σ σ σ (fun s n => (rdsW l s n σ).2)
section RDG
variable {α : Type} {σ : St} {s so n : Int32} {bad no srt : α} {ok : Nat → Nat → α} {k l : Nat}
theorem rdG_1 (h : isB 0 3 s = false) : rdG σ s so n bad no srt ok = bad := by unfold rdG; rw [h]; rfl
theorem rdG_2 (h : isB 0 2 so = false) : rdG σ s so n bad no srt ok = bad := by unfold rdG; rw [h]; split <;> rfl
theorem rdG_3 (h : isB 0 13 n = false) : rdG σ s so n bad no srt ok = bad := by
  unfold rdG
  rw [h]
  split
  · split <;> rfl
  · rfl
theorem rdG_4 (hk : k < 4) (h : isB 0 2 so = true) (hl : l ≤ 13) : rdG σ (nI k) so (nI l) bad no srt ok = if oSo σ k = -1 then no else if oSo σ k = so then ok k l else srt := by
  unfold rdG
  rw [if_pos (is03 hk), if_pos h, if_pos (by rw [isB_i (by omega), decide_eq_true_eq]; omega), nI_clamp (by omega), nI_clamp (by omega)]
end RDG
theorem rdsV_s {s a n k c : Nat} {σ : St} : rdsV s a (n + 1) k c σ = if a + 3 * k + 3 ≤ oSs σ s then rdsV s a n (k + 1) (if rdA σ s (a + 3 * k) < 0 then c else c + 1) (rdP σ s (a + 3 * k)) else (-12, σ) := rfl
theorem WF.rds {s a : Nat} : ∀ (n k c : Nat) (σ : St), WF σ → WF (rdsV s a n k c σ).2
  | 0, _, _, _, h => h
  | n + 1, k, c, σ, h => by
    rw [rdsV_s]
    split
    · exact WF.rds n _ _ _ (h.road _ _ _)
    · exact h
theorem WF.rdw {σ : St} {l : Int32} {s n : Nat} (h : WF σ) : WF (rdsW l s n σ).2 := by
  unfold rdsW
  split
  · split <;> exact h
  · exact WF.rds _ _ _ _ h
theorem WF.roads {σ : St} (h : WF σ) (s so l n : Int32) : WF (tRoads σ s so l n) := by
  unfold tRoads rdG
  split
  · split
    · split
      · split
        · exact h
        · split
          · exact h.rdw
          · exact h
      · exact h
    · exact h
  · exact h
theorem rdx65 {d s n a : Nat} {l1 l2 : Int32} {M0 : Mem} {K : Int32 → Mem → Prop} (hs : s < 4) (hn : n ≤ 13) (ha : a < 2 ^ 31) : ∀ (m k c : Nat) (σ : St) (M : Mem), k + m = n → c ≤ k → WF σ → XA σ M → (∀ ρ, MA ρ M0 → MA ρ M) → (∀ M2, SX (rdsV s a m k c σ).2 M0 M2 → K (rdsV s a m k c σ).1 M2) → Ex (d + 4) m_MD_roads 0 0 65 [some (.ref 0), some (.int l1), some (.int l2), some (.int (nI a)), some (.int (nI n)), some (.ref (67 + 2 * s)), some (.int (nI c)), some (.int (nI k)), none, none, none] [] M (PI K) := by
  intro m
  induction m with
  | zero =>
    intro k c σ M hk hc hw hx hm H
    obtain rfl : k = n := by omega
    exact k_MD_roads_65 hx.1 ⟨fun _ => PI.mk rfl (H M ⟨hx, hm⟩), fun q => absurd (nI_le (Nat.le_refl _) (by omega)) q⟩
  | succ m ih =>
    intro k c σ M hk hc hw hx hm H
    obtain ⟨hF, -, -, -, -, -, -, -, hS⟩ := id hx
    obtain ⟨r1, r2, r3⟩ := sheetRef hF hs
    obtain ⟨s1, s2, s3⟩ := hS s hs
    have s40 := (hw.shs hs).2
    have eL : (nI a).toInt64 + 3 * (nI k).toInt64 = lN (a + 3 * k) := by rw [nI_l ha, nI_l (by omega), show (3 : Int64) = lN 3 from rfl, lN_mul, lN_add]
    have eT : (lN (a + 3 * k)).toInt = ((a + 3 * k : Nat) : Int) := pk_lT (by omega)
    refine k_MD_roads_65 hF ⟨fun q => absurd q (by rw [nI_leI (by omega) (by omega)]; omega), fun _ => ⟨r1, ?_⟩⟩
    rw [eL]
    refine sx_spans hF r1 s2 s40 (by rw [eT]; omega) (by rw [eT]; omega) ⟨hF, fun q => ?_, fun q => PI.mk rfl ?_⟩
    · have q := of_decide_eq_true q
      rw [eT, show (nI 3).toInt = 3 from rfl] at q
      have hle : a + 3 * k + 3 ≤ oSs σ s := by omega
      rw [rdsV_s, if_pos hle] at H
      simp only [lN_i, nI_add]
      refine ⟨r1, _, r2, 40, r3, vN (by omega) (by decide), r1, _, r2, 40, r3, vN (by omega) (by decide), r1, _, r2, 40, r3, vN (by omega) (by decide), ?_⟩
      rw [nI_clamp (show a + 3 * k < 2 ^ 31 by omega), nI_clamp (show a + 3 * k + 1 < 2 ^ 31 by omega), nI_clamp (show a + 3 * k + 2 < 2 ^ 31 by omega), s3 _ (by omega), s3 _ (by omega), s3 _ (by omega)]
      refine sX_road hw hx (fun M2 x2 => ⟨x2.1.1, fun y => ?_, fun y => ?_⟩)
      · rw [if_pos (show rdA σ s (a + 3 * k) < 0 from y)] at H
        exact ih (k + 1) c _ M2 (by omega) (by omega) (hw.road _ _ _) x2.1 (fun ρ hρ => x2.2 ρ (hm ρ hρ)) H
      · rw [if_neg (show ¬ rdA σ s (a + 3 * k) < 0 from y)] at H
        exact ih (k + 1) (c + 1) _ M2 (by omega) (by omega) (hw.road _ _ _) x2.1 (fun ρ hρ => x2.2 ρ (hm ρ hρ)) H
    · have q := of_decide_eq_false q
      rw [eT, show (nI 3).toInt = 3 from rfl] at q
      rw [rdsV_s, if_neg (by omega)] at H
      exact H M ⟨hx, hm⟩
theorem sX_roads {d : Nat} {σ : St} {s so l n : Int32} {M : Mem} {K : Int32 → Mem → Prop} (hw : WF σ) (hx : XA σ M) (h : ∀ M2, SX (tRoads σ s so l n) M M2 → K (pRoads σ s so l n) M2) : Con (d + 4) m_MD_roads 0 0 [.ref 0, .int s, .int so, .int l, .int n] M (PI K) := by
  obtain ⟨hF, -, -, -, -, -, -, -, hS⟩ := id hx
  unfold tRoads pRoads at h
  have bad : (∀ (α : Type) (a b c : α) (f : Nat → Nat → α), rdG σ s so n a b c f = a) → K (-2) M := fun q => by
    have := h M (by rw [q]; exact SX.rf hx)
    rwa [q] at this
  refine Con.ent (k := 6) F_MD_roads.1 rfl (Nat.le_of_ble_eq_true rfl) (k_MD_roads_0 hF ?_)
  refine sx_shC hF (fun q => ⟨hF, fun _ => PI.mk rfl (bad (fun α a b c f => rdG_1 q)), (fun _ z => nomatch z)⟩) (fun k hk e q => ⟨hF, (fun z => nomatch z), fun a2 ea => ?_⟩)
  cases ea
  obtain ⟨r1, r2, r3⟩ := sheetRef hF hk
  obtain ⟨s1, s2, s3⟩ := hS k hk
  refine ⟨fun z => PI.mk rfl (bad (fun α a b c f => rdG_2 ?_)), fun z => ⟨fun z2 => PI.mk rfl (bad (fun α a b c f => rdG_2 ?_)), fun z2 => ⟨fun z3 => PI.mk rfl (bad (fun α a b c f => rdG_3 ?_)), fun z3 => ⟨fun z4 => ⟨r1, sx_missing hx hk ⟨hF, fun z5 => ⟨r1, ?_⟩, fun z5 => PI.mk rfl ?_⟩⟩, fun z4 => PI.mk rfl (bad (fun α a b c f => rdG_3 ?_))⟩⟩⟩⟩
  · rw [isB_f]; rw [i_lt, i_0] at z; omega
  · rw [isB_f]; rw [i_le, show (nI 3).toInt = 3 from rfl] at z2; omega
  · rw [isB_f]; rw [i_lt, i_0] at z3; omega
  all_goals try rw [i_lt, i_0] at z z3
  all_goals try rw [i_le, show (nI 3).toInt = 3 from rfl] at z2
  all_goals try rw [i_le, show (nI 13).toInt = 13 from rfl] at z4
  · obtain ⟨m, hm, rfl⟩ : ∃ m, m < 14 ∧ n = nI m := i_of (by omega) (by omega) (by omega)
    have z5 := of_decide_eq_false z5
    have hso : isB 0 2 so = true := isB_t.mpr (by omega)
    subst e
    rw [rdG_4 hk hso (by omega), rdG_4 hk hso (by omega), if_neg z5, if_neg z5] at h
    rw [s1]
    refine ⟨fun y => ?_, fun y => PI.mk rfl ?_⟩
    · rw [if_pos y, if_pos y] at h
      unfold rdsW at h
      by_cases hl : l < 0
      · rw [if_pos hl] at h
        by_cases hm0 : m = 0
        · subst hm0
          exact k_MD_roads_65 hF ⟨fun _ => PI.mk rfl (h M (SX.rf hx)), fun q => absurd (nI_le (Nat.le_refl _) (by decide)) q⟩
        · rw [if_neg hm0] at h
          refine k_MD_roads_65 hF ⟨fun q => absurd q (by rw [nI_leI (by omega) (by omega)]; omega), fun _ => ⟨r1, ?_⟩⟩
          have eT : (l.toInt64 + 3 * (nI 0).toInt64).toInt = l.toInt := by
            rw [show 3 * (nI 0).toInt64 = 0 from rfl, Int64.add_zero, Int32.toInt_toInt64]
          have := i_rng l
          rw [i_lt, i_0] at hl
          refine sx_spans hF r1 s2 (hw.shs hk).2 (by rw [eT]; omega) (by rw [eT]; omega) ⟨hF, fun q => ?_, fun q => PI.mk rfl (h M (SX.rf hx))⟩
          have q := of_decide_eq_true q
          rw [eT] at q
          omega
      · obtain ⟨a, ha, rfl⟩ := nI_of hl
        rw [if_neg hl, nI_clamp ha] at h
        exact rdx65 hk (by omega) ha m 0 0 σ M (by omega) (by omega) hw hx (fun _ q => q) h
    · have := h M (by rw [if_neg y]; exact SX.rf hx)
      rwa [if_neg y] at this
  · obtain ⟨m, hm, rfl⟩ : ∃ m, m < 14 ∧ n = nI m := i_of (by omega) (by omega) (by omega)
    have z5 := of_decide_eq_true z5
    have hso : isB 0 2 so = true := isB_t.mpr (by omega)
    subst e
    rw [rdG_4 hk hso (by omega), rdG_4 hk hso (by omega)] at h
    have := h M (by rw [if_pos z5]; exact SX.rf hx)
    rwa [if_pos z5] at this
  · rw [isB_f]; omega
theorem rdm64 {d s n a : Nat} {l2 : Int32} {M0 : Mem} {K : Int32 → Mem → Prop} (hs : s < 4) (hn : n ≤ 13) (ha : a < 2 ^ 31) : ∀ (m k c : Nat) (σ : St) (M : Mem), k + m = n → c ≤ k → (k = 0 ∨ a ≤ 40) → WF σ → MA σ M → (∀ ρ, oT ρ ≤ 6 → XA ρ M0 → XA ρ M) → (∀ M2, SM (rdsV s a m k c σ).2 M0 M2 → K (rdsV s a m k c σ).1 M2) → Ex (d + 4) m_MM_roads 0 0 64 [some (.ref 78), some (.int (nI s)), some (.int l2), some (.int (nI a)), some (.int (nI n)), some (.int (nI c)), some (.int (nI k)), none, none] [] M (PI K) := by
  intro m
  induction m with
  | zero =>
    intro k c σ M hk hc hka hw hm hx H
    obtain rfl : k = n := by omega
    exact k_MM_roads_64 hm.1 ⟨fun _ => PI.mk rfl (H M ⟨hm, hx⟩), fun q => absurd (nI_le (Nat.le_refl _) (by omega)) q⟩
  | succ m ih =>
    intro k c σ M hk hc hka hw hm hx H
    obtain ⟨hF, -, -, -, -, -, -, -, -, hS⟩ := id hm
    obtain ⟨s1, s2, s3⟩ := hS s hs
    have s40 := (hw.shs hs).2
    have hsm : a + 3 * k < 2 ^ 31 := by omega
    refine k_MM_roads_64 hF ⟨fun q => absurd q (by rw [nI_leI (by omega) (by omega)]; omega), fun _ => ⟨fun q => absurd q (nI_pos ha), fun _ => ?_⟩⟩
    rw [pk_mul, nI_add, nI_clamp (show s < 2 ^ 31 by omega), s2]
    refine ⟨fun q => absurd q (nI_nlt (by omega) hsm), fun _ => ⟨vN hs (by decide), fun q => ?_, fun q => PI.mk rfl ?_⟩⟩
    · rw [i_le, nI_T hsm, pk_sub_toInt (by omega) (by omega)] at q
      have hle : a + 3 * k + 3 ≤ oSs σ s := by omega
      rw [rdsV_s, if_pos hle] at H
      simp only [pk_mul, nI_add]
      refine ⟨vN (by omega) (by decide), vN (by omega) (by decide), vN (by omega) (by decide), ?_⟩
      rw [nI_clamp (show 40 * s + (a + 3 * k) < 2 ^ 31 by omega), nI_clamp (show 40 * s + (a + 3 * k) + 1 < 2 ^ 31 by omega), nI_clamp (show 40 * s + (a + 3 * k) + 2 < 2 ^ 31 by omega), s3 _ (by omega), show 40 * s + (a + 3 * k) + 1 = 40 * s + (a + 3 * k + 1) by omega, s3 _ (by omega), show 40 * s + (a + 3 * k) + 2 = 40 * s + (a + 3 * k + 2) by omega, s3 _ (by omega)]
      refine sM_road hw hm (fun M2 x2 => ⟨x2.1.1, fun y => ?_, fun y => ?_⟩)
      · rw [if_pos (show rdA σ s (a + 3 * k) < 0 from y)] at H
        exact ih (k + 1) c _ M2 (by omega) (by omega) (by omega) (hw.road _ _ _) x2.1 (fun ρ h6 hρ => x2.2 ρ h6 (hx ρ h6 hρ)) H
      · rw [if_neg (show ¬ rdA σ s (a + 3 * k) < 0 from y)] at H
        exact ih (k + 1) (c + 1) _ M2 (by omega) (by omega) (by omega) (hw.road _ _ _) x2.1 (fun ρ h6 hρ => x2.2 ρ h6 (hx ρ h6 hρ)) H
    · rw [i_le, nI_T hsm, pk_sub_toInt (by omega) (by omega)] at q
      rw [rdsV_s, if_neg (by omega)] at H
      exact H M ⟨hm, hx⟩
theorem sM_roads {d : Nat} {σ : St} {s so l n : Int32} {M : Mem} {K : Int32 → Mem → Prop} (hw : WF σ) (hm : MA σ M) (h : ∀ M2, SM (tRoads σ s so l n) M M2 → K (pRoads σ s so l n) M2) : Con (d + 4) m_MM_roads 0 0 [.ref 78, .int s, .int so, .int l, .int n] M (PI K) := by
  obtain ⟨hF, -, -, -, -, -, -, -, -, hS⟩ := id hm
  unfold tRoads pRoads at h
  have bad : (∀ (α : Type) (a b c : α) (f : Nat → Nat → α), rdG σ s so n a b c f = a) → K (-2) M := fun q => by
    have := h M (by rw [q]; exact SM.rf hm)
    rwa [q] at this
  refine Con.ent (k := 4) F_MM_roads.1 rfl (Nat.le_of_ble_eq_true rfl) (k_MM_roads_0 hF ?_)
  refine sm_inD hF (by omega) (fun q => ⟨hF, fun _ => PI.mk rfl (bad (fun α a b c f => rdG_1 q)), (fun z => nomatch z)⟩) (fun k hk e q => ⟨hF, (fun z => nomatch z), fun _ => ?_⟩)
  refine sm_inD hF (by omega) (fun q => ⟨hF, fun _ => PI.mk rfl (bad (fun α a b c f => rdG_2 q)), (fun z => nomatch z)⟩) (fun j hj e2 q2 => ⟨hF, (fun z => nomatch z), fun _ => ?_⟩)
  refine sm_inD hF (by omega) (fun q => ⟨hF, (fun z => nomatch z), fun _ => PI.mk rfl (bad (fun α a b c f => rdG_3 q))⟩) (fun m hm2 e3 q3 => ⟨hF, fun _ => ?_, (fun z => nomatch z)⟩)
  rw [show ((2 : Nat) : Int) = 2 from rfl] at q2
  subst e e3
  have hk4 : k < 4 := by omega
  rw [rdG_4 hk4 q2 hm2, rdG_4 hk4 q2 hm2] at h
  obtain ⟨s1, s2, s3⟩ := hS k hk4
  have vk := vN hk4 (by decide)
  rw [nI_clamp (by omega), s1]
  refine ⟨vk, fun z => ⟨vk, fun y => ?_, fun y => PI.mk rfl ?_⟩, fun z => PI.mk rfl ?_⟩
  · rw [if_neg z, if_neg z, if_pos y, if_pos y] at h
    unfold rdsW at h
    by_cases hl : l < 0
    · rw [if_pos hl] at h
      by_cases hm0 : m = 0
      · subst hm0
        exact k_MM_roads_64 hF ⟨fun _ => PI.mk rfl (h M (SM.rf hm)), fun q => absurd (nI_le (Nat.le_refl _) (by decide)) q⟩
      · rw [if_neg hm0] at h
        exact k_MM_roads_64 hF ⟨fun q => absurd q (by rw [nI_leI (by omega) (by omega)]; omega), fun _ => ⟨fun _ => PI.mk rfl (h M (SM.rf hm)), fun q => absurd hl q⟩⟩
    · obtain ⟨a, ha, rfl⟩ := nI_of hl
      rw [if_neg hl, nI_clamp ha] at h
      exact rdm64 hk4 (by omega) ha m 0 0 σ M (by omega) (by omega) (.inl rfl) hw hm (fun _ _ q => q) h
  · have := h M (by rw [if_neg z, if_neg y]; exact SM.rf hm)
    rwa [if_neg z, if_neg y] at this
  · have := h M (by rw [if_pos z]; exact SM.rf hm)
    rwa [if_pos z] at this
