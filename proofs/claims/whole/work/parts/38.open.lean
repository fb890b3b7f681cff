/-! all markets of a week: the Fair's, m's market and laysNow -/
def MkAt (M : Mem) (j T : Nat) (f : Nat → Nat) : Prop := ∀ t, t < T → mi M j t = nI (f t)
theorem MkAt.set {M : Mem} {j T t v : Nat} {f : Nat → Nat} (h : MkAt M j T f) : MkAt (wi M j t (nI v)) j T (u1 f t v) := fun s hs => by
  rw [mi_w]
  unfold u1
  split
  · rfl
  · exact h s hs
section OPN
variable {d bc bs p w : Nat} {σ : St} {g : Nat × List Nat} {M0 : Mem} {Φ : Option Value → Mem → Prop}
theorem opn7 (hF0 : Fx M0) (hw : WF σ) (hL : XLand σ M0) (hg : GivX M0 p g) (hgw : GivW (oT σ) g) (hww : w < 100) (H : ∀ M2, Fx M2 → FrG [52] [] M0 M2 → MkAt M2 52 (oT σ) (fun t => marketV σ g t w) → Φ none M2) :
    ∀ (n k : Nat) (M : Mem), k + n = oT σ → Fx M → FrG [52] [] M0 M → MkAt M 52 k (fun t => marketV σ g t w) → Ex (d + 4) m_Fair_open bc bs 7 [some (.ref 51), some (.ref p), some (.int (nI w)), some (.int (nI k))] [] M Φ := by
  intro n
  have h6 := hw.T6
  induction n with
  | zero =>
    intro k M hk hF hfr hm
    obtain rfl : k = oT σ := by omega
    have hL2 := hL.fr (hfr.X rfl rfl) hF0 h6
    refine k_Fair_open_7 hF ⟨fun _ => H M hF hfr hm, fun q => absurd ?_ q⟩
    rw [hL2.1]; exact nI_le (Nat.le_refl _) (by omega)
  | succ n ih =>
    intro k M hk hF hfr hm
    have hX := hfr.X rfl rfl
    have hL2 := hL.fr hX hF0 h6
    have hg2 := hg.fr hX
    refine k_Fair_open_7 hF ⟨fun q => absurd q ?_, fun _ => ⟨hg2.2.1, ?_⟩⟩
    · rw [hL2.1, nI_leI (by omega) (by omega)]; omega
    · refine sx_marketIn hF hw hL2 hg2 hgw (by omega) hww ⟨hF, vN (by omega) (by omega), ?_⟩
      rw [nI_clamp (by omega), nI_add]
      refine ih (k + 1) _ (by omega) hF.fwi (hfr.fwi (by decide)) (fun t ht => ?_)
      rw [mi_w]
      unfold u1
      split
      · rename_i q; rw [q]
      · exact hm t (by omega)
end OPN
theorem w513 : ∀ l, refT[51]? = some l → ∀ q, l[3]? ≠ some (some q) := fun l hl q hq => by
  have e : refT[51]? = some (refT[51]'(Nat.le_of_ble_eq_true rfl)) := rfl
  rw [e] at hl
  cases hl
  cases hq
theorem sx_open {d p w : Nat} {σ : St} {g : Nat × List Nat} {M : Mem} {K : Mem → Prop} (hF : Fx M) (hw : WF σ) (hL : XLand σ M) (hg : GivX M p g) (hgw : GivW (oT σ) g) (hww : w < 100) (h : ∀ M2, Fx M2 → FrG [52] [51] M M2 → mr M2 51 3 = some p → MkAt M2 52 (oT σ) (fun t => marketV σ g t w) → K M2) : Con (d + 4) m_Fair_open 0 0 [.ref 51, .ref p, .int (nI w)] M (PV K) := by
  refine Con.ent (k := 1) F_Fair_open.1 rfl (Nat.le_of_ble_eq_true rfl) (k_Fair_open_0 hF ?_)
  have hF1 : Fx (wr M 51 3 (some p)) := hF.fwr _ w513
  have f1 : FrG [] [51] M (wr M 51 3 (some p)) := (FrG.rf _ _).fwr (by decide)
  have hX := f1.X rfl rfl
  refine opn7 hF1 hw (hL.fr hX hF hw.T6) (hg.fr hX) hgw hww (fun M2 hF2 f2 hm => ⟨rfl, h M2 hF2 ((f1.wk (by simp) (by simp)).tr (f2.wk (by simp) (by simp))) ?_ hm⟩) (oT σ) 0 _ (by omega) hF1 (FrG.rf _ _) (fun t ht => absurd ht (Nat.not_lt_zero _))
  rw [f2.rrow (by have := hF1.len; omega) (by simp)]
  show u2 (mr M) 51 3 (some p) 51 3 = _
  rw [u2_s, u1_s]
theorem sx_isAt {d t e : Nat} {T : Nat} {f : Nat → Nat} {M : Mem} {K : Bool → Mem → Prop} (hF : Fx M) (hm : MkAt M 52 T f) (hf : ∀ t, f t < 128) (h6 : T ≤ 6) (ht : t < T) (he : e < 7) (h : K ((f t).testBit e) M) : Con (d + 2) m_Fair_isAt 0 0 [.ref 51, .int (nI t), .int (nI e)] M (PB K) := by
  have := hf t
  refine Con.of (lo := [some (.ref 51), some (.int (nI t)), some (.int (nI e))]) F_Fair_isAt.1 rfl (Nat.le_of_ble_eq_true rfl) (k_Fair_isAt_0 hF ?_)
  rw [nI_clamp (by omega), hm t ht]
  exact ⟨vN (by omega) (by omega), sx_hasBit hF (by omega) (by omega) ⟨hF, PB.mk rfl h⟩⟩
theorem sm_daysOf {d i t w : Nat} {σ : St} {g : Nat × List Nat} {M : Mem} {K : Int32 → Mem → Prop} (hF : Fm M) (hw : WF σ) (hL : MLand σ M) (hg : GivM M i g) (hi : i < 12) (hgw : GivW (oT σ) g) (ht : t < 6) (hww : w < 100) (h : K (nI (daysV (oW σ) g t w)) M) : Con (d + 2) m_MM_daysOf 0 0 [.ref 78, .int (nI i), .int (nI t), .int (nI w)] M (PI K) := by
  obtain ⟨w1, w2⟩ := hw.W
  have h6 := hw.T6
  have hlen := hgw.2.1
  have hk5 := hgw.1
  obtain ⟨g1, g2, g3⟩ := hg
  refine Con.ent (k := 1) F_MM_daysOf.1 rfl (Nat.le_of_ble_eq_true rfl) (k_MM_daysOf_0 hF ?_)
  rw [pk_mul, nI_add, nI_clamp (by omega), nI_clamp (by omega), g2, hL.2.1]
  unfold daysV at h
  refine ⟨vN (by omega) (by omega), fun q => ?_, fun q => ⟨vN (by omega) (by omega), ?_⟩⟩
  · rw [nI_leI (by omega) (by omega)] at q
    rw [List.getElem?_eq_none q] at h
    refine sm_in1 hF (by omega) ⟨hF, fun z => ?_, fun z => PI.mk rfl h⟩
    rw [isB_t, show (-1 : Int32).toInt = -1 from rfl] at z
    omega
  · rw [nI_leI (by omega) (by omega)] at q
    obtain ⟨e, hv⟩ : ∃ e, g.2[t]? = some e := ⟨_, List.getElem?_eq_getElem (by omega)⟩
    have h7 : e ≤ 7 := hgw.2.2 e (List.mem_of_getElem? hv)
    rw [hv] at h
    rw [g3 t e hv]
    refine sm_in1 hF (by omega) ⟨hF, fun z => ⟨vN (by omega) (by omega), ?_⟩, fun z => PI.mk ?_ h⟩
    · rw [isB_t, nI_toInt (by omega)] at z
      have q : e < oW σ := by omega
      replace h : K (nI (dayMask (oW σ) g.1 e w)) M := by
        have h2 : K (nI (if e < oW σ then dayMask (oW σ) g.1 e w else 0)) M := h
        rwa [if_pos q] at h2
      unfold dayMask at h
      have ml := fun x => Nat.mod_lt x (show oW σ > 0 by omega)
      have m1 := ml (e + oW σ / 2)
      have m2 := ml (e + w)
      have m3 := ml (e + w + 2)
      have nz : ¬ nI (oW σ) = 0 := by rw [nI_z (by omega)]; omega
      rw [g1, hL.2.1, one_N (by omega), div_N (by omega) (by omega) (by omega), nI_add, nI_add, nI_add, nI_add, rem_N (by omega) (by omega) (by omega), rem_N (by omega) (by omega) (by omega), rem_N (by omega) (by omega) (by omega), rem_N (by omega) (by omega) (by omega), rem_N (by omega) (by omega) (by omega), one_N (by omega), one_N (by omega), Nat.add_zero, one_N (by omega), or_N (p7 (by omega)) (p7 (by omega)), nI_z (n := w % 2) (by omega)]
      refine ⟨fun z => ⟨nz, PI.mk ?_ h⟩, fun z => ⟨nz, PI.mk ?_ h⟩, fun z => ⟨fun z2 => ⟨nz, PI.mk ?_ h⟩, fun z2 => ⟨nz, PI.mk ?_ h⟩⟩, fun z1 z2 z3 => PI.mk ?_ h⟩
      · rw [nI_eq (by omega) (by omega)] at z
        rw [if_pos z]
      · rw [nI_eq (by omega) (by omega)] at z
        rw [if_neg (by omega), if_pos z]
      · rw [nI_eq (by omega) (by omega)] at z
        rw [if_neg (by omega), if_neg (by omega), if_pos z, if_neg z2, Nat.add_assoc]
      · rw [nI_eq (by omega) (by omega)] at z
        rw [if_neg (by omega), if_neg (by omega), if_pos z, if_pos z2, Nat.add_zero, one_N (by omega)]
      · rw [nI_eq (by omega) (by omega)] at z1 z2 z3
        rw [if_neg z1, if_neg z2, if_neg z3]
    · rw [isB_f, nI_toInt (by omega)] at z
      show nI 0 = nI (if e < oW σ then dayMask (oW σ) g.1 e w else 0)
      rw [if_neg (by omega)]
section MKM
variable {d bc bs w W F i kk : Nat} {v1 : Int32} {M : Mem} {Φ : Option Value → Mem → Prop}
theorem mkm12 (hF : Fm M) (hW : mi M 78 6 = nI W) (hWW : 2 ≤ W ∧ W ≤ 7) (hFe : mi M 78 7 = nI F) (hF10 : F ≤ 10) (hww : w < 100) (hi : i < 12) (hkd : mi M 89 i = nI kk) (hk6 : kk < 6) :
    ∀ (r : List (Nat × Nat)) (k m : Nat), k + r.length = F → (∀ (j : Nat) (q : Nat × Nat), r[j]? = some q → mi M 84 (k + j) = nI q.1 ∧ mi M 85 (k + j) = nI q.2 ∧ q.1 < 100 ∧ q.2 < 7) → m < 128 → Φ (some (.int (nI (if kk = 5 then m else movedV W w r m)))) M →
      Ex (d + 2) m_MM_market bc bs 12 [some (.ref 78), some (.int (nI i)), some (.int v1), some (.int (nI w)), some (.int (nI m)), some (.int (nI k)), none] [] M Φ := by
  intro r
  induction r with
  | nil =>
    intro k m hk hr hm H
    have hk2 : k = F := by simpa using hk
    subst hk2
    refine k_MM_market_12 hF ?_
    rw [hFe]
    refine ⟨fun _ => ?_, fun q => absurd (nI_le (Nat.le_refl k) (by omega)) q⟩
    rwa [show (if kk = 5 then m else movedV W w [] m) = m by split <;> rfl] at H
  | cons q fs ih =>
    intro k m hk hr hm H
    have hk2 : k < F := by simp only [List.length_cons] at hk; omega
    obtain ⟨g1, g2, g3, g4⟩ := hr 0 q rfl
    rw [Nat.add_zero] at g1 g2
    refine k_MM_market_12 hF ?_
    rw [hFe, hW, nI_clamp (by omega), nI_clamp (by omega), g1, g2, hkd]
    refine ⟨fun z => absurd z (by rw [nI_leI (by omega) (by omega)]; omega), fun _ => ⟨vN (by omega) (by omega), fun z => ?_, fun z => ?_⟩⟩
    · rw [nI_eq (by omega) (by omega)] at z
      rwa [if_pos z] at H
    · rw [nI_eq (by omega) (by omega)] at z
      rw [if_neg z] at H
      have next : ∀ m2, m2 < 128 → (if q.1 = w ∧ q.2 < W ∧ m.testBit q.2 = true then (m - 2 ^ q.2) ||| 2 ^ dA W q.2 else m) = m2 → Ex (d + 2) m_MM_market bc bs 12 [some (.ref 78), some (.int (nI i)), some (.int v1), some (.int (nI w)), some (.int (nI m2)), some (.int (nI k + nI 1)), none] [] M Φ := by
        intro m2 hm2 he
        rw [nI_add]
        refine ih (k + 1) m2 (by simp only [List.length_cons] at hk; omega) (fun j q' hj => ?_) hm2 ?_
        · rw [show k + 1 + j = k + (j + 1) by omega]
          exact hr (j + 1) q' (by simpa using hj)
        · rw [if_neg z, ← he]; exact H
      have hd : (q.2 + 1) % W < W := dA_lt (d := q.2) (show 0 < W by omega)
      rw [nI_add q.2 1, rem_N (by omega) (by omega) (by omega), one_N (i := q.2) (by omega), one_N (i := (q.2 + 1) % W) (by omega), bit_1 (by omega) (by omega)]
      refine ⟨vN (by omega) (by omega), vN (by omega) (by omega), fun z => ?_, fun z => ⟨fun z2 => ?_, fun z2 => ⟨fun y => ?_, fun y => ⟨?_, ?_⟩⟩⟩⟩
      · rw [nI_eq (by omega) (by omega)] at z
        exact next m hm (if_neg (fun y => z y.1))
      · rw [nI_leI (by omega) (by omega)] at z2
        exact next m hm (if_neg (fun y => by omega))
      · exact next m hm (if_neg (fun x => y x.2.2))
      · rw [nI_z (by omega)]; omega
      · rw [nI_eq (by omega) (by omega)] at z
        rw [nI_leI (by omega) (by omega)] at z2
        rw [mov_N hm (by omega) (by omega) y]
        exact next _ (or128 (sub128 hm) (p7 (by omega))) (if_pos ⟨z, by omega, y⟩)
end MKM
theorem MLand.fe {σ : St} {M : Mem} (hL : MLand σ M) (hw : WF σ) : ∀ (j : Nat) (q : Nat × Nat), (oFe σ)[j]? = some q → mi M 84 (0 + j) = nI q.1 ∧ mi M 85 (0 + j) = nI q.2 ∧ q.1 < 100 ∧ q.2 < 7 := fun j q hj => by
  rw [Nat.zero_add]
  obtain ⟨a, b⟩ := hL.2.2.2.2.2.2 j q.1 q.2 hj
  obtain ⟨x, y⟩ := hw.x.2.2.2 q (List.mem_of_getElem? hj)
  exact ⟨a, b, x, y⟩
theorem sm_market {d i t w : Nat} {σ : St} {g : Nat × List Nat} {M : Mem} {K : Int32 → Mem → Prop} (hF : Fm M) (hw : WF σ) (hL : MLand σ M) (hg : GivM M i g) (hi : i < 12) (hgw : GivW (oT σ) g) (ht : t < 6) (hww : w < 100) (h : K (nI (marketV σ g t w)) M) : Con (d + 3) m_MM_market 0 0 [.ref 78, .int (nI i), .int (nI t), .int (nI w)] M (PI K) := by
  refine Con.ent (k := 3) F_MM_market.1 rfl (Nat.le_of_ble_eq_true rfl) (k_MM_market_0 hF ?_)
  refine sm_daysOf hF hw hL hg hi hgw ht hww ⟨hF, ?_⟩
  exact mkm12 hF hL.2.1 hw.W hL.2.2.1 hw.x.2.2.1 hww hi hg.1 hgw.1 (oFe σ) 0 _ (by omega) (hL.fe hw) (daysV_lt hw.W) (PI.mk rfl h)
theorem MLand.fr {σ : St} {M M2 : Mem} (h : MLand σ M) (f : FrM M M2) : MLand σ M2 := by
  obtain ⟨c, c4⟩ := f
  unfold MLand
  rw [c 78 (by decide) rfl, c 79 (by decide) rfl, c 80 (by decide) rfl, c 81 (by decide) rfl, c 82 (by decide) rfl, c 83 (by decide) rfl, c 84 (by decide) rfl, c 85 (by decide) rfl]
  exact h
theorem MText.fr {σ : St} {M M2 : Mem} (h : MText σ M) (f : FrM M M2) : MText σ M2 := by
  obtain ⟨c, c4⟩ := f
  unfold MText
  rw [c 78 (by decide) rfl, c 87 (by decide) rfl, c 88 (by decide) rfl]
  exact h
section LAY
variable {d bc bs i w : Nat} {σ : St} {g : Nat × List Nat} {M0 : Mem} {Φ : Option Value → Mem → Prop}
theorem lay2 (hF0 : Fm M0) (hw : WF σ) (hL : MLand σ M0) (hg : GivM M0 i g) (hi : i < 12) (hgw : GivW (oT σ) g) (hww : w < 100) (H : ∀ M2, Fm M2 → FrG [109] [] M0 M2 → MkAt M2 109 (oT σ) (fun t => marketV σ g t w) → Φ none M2) :
    ∀ (n k : Nat) (M : Mem), k + n = oT σ → Fm M → FrG [109] [] M0 M → MkAt M 109 k (fun t => marketV σ g t w) → Ex (d + 4) m_MM_laysNow bc bs 2 [some (.ref 78), some (.int (nI i)), some (.int (nI w)), some (.int (nI k))] [] M Φ := by
  intro n
  have h6 := hw.T6
  induction n with
  | zero =>
    intro k M hk hF hfr hm
    obtain rfl : k = oT σ := by omega
    have hL2 := hL.fr (hfr.M hF0 rfl)
    refine k_MM_laysNow_2 hF ⟨fun _ => H M hF hfr hm, fun q => absurd ?_ q⟩
    rw [hL2.1]; exact nI_le (Nat.le_refl _) (by omega)
  | succ n ih =>
    intro k M hk hF hfr hm
    have hX := hfr.M hF0 rfl
    have hL2 := hL.fr hX
    have hg2 := hg.fr hX
    refine k_MM_laysNow_2 hF ⟨fun q => absurd q ?_, fun _ => ?_⟩
    · rw [hL2.1, nI_leI (by omega) (by omega)]; omega
    · refine sm_market hF hw hL2 hg2 hi hgw (by omega) hww ⟨hF, vN (by omega) (by omega), ?_⟩
      rw [nI_clamp (by omega), nI_add]
      refine ih (k + 1) _ (by omega) hF.fwi (hfr.fwi (by decide)) (fun t ht => ?_)
      rw [mi_w]
      unfold u1
      split
      · rename_i q; rw [q]
      · exact hm t (by omega)
end LAY
theorem sm_laysNow {d i w : Nat} {σ : St} {g : Nat × List Nat} {M : Mem} {K : Mem → Prop} (hF : Fm M) (hw : WF σ) (hL : MLand σ M) (hg : GivM M i g) (hi : i < 12) (hgw : GivW (oT σ) g) (hww : w < 100) (h : ∀ M2, Fm M2 → FrG [109] [] M M2 → MkAt M2 109 (oT σ) (fun t => marketV σ g t w) → K M2) : Con (d + 4) m_MM_laysNow 0 0 [.ref 78, .int (nI i), .int (nI w)] M (PV K) := by
  refine Con.ent (k := 1) F_MM_laysNow.1 rfl (Nat.le_of_ble_eq_true rfl) (k_MM_laysNow_0 hF ?_)
  exact lay2 hF hw hL hg hi hgw hww (fun M2 hF2 f2 hm => ⟨rfl, h M2 hF2 f2 hm⟩) (oT σ) 0 M (by omega) hF (FrG.rf _ _) (fun t ht => absurd ht (Nat.not_lt_zero _))
