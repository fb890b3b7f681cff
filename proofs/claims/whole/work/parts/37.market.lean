/-! markets as bits -/
def dayMask (W k e w : Nat) : Nat := if k = 2 then 2 ^ e ||| 2 ^ ((e + W / 2) % W) else if k = 3 then 2 ^ ((e + w) % W) else if k = 4 then 2 ^ ((e + (if w % 2 = 0 then w else w + 2)) % W) else 2 ^ e
def daysV (W : Nat) (g : Nat × List Nat) (t w : Nat) : Nat := match g.2[t]? with
  | none => 0
  | some e => if e < W then dayMask W g.1 e w else 0
def movedV (W w : Nat) : List (Nat × Nat) → Nat → Nat
  | [], m => m
  | q :: fs, m => movedV W w fs (if q.1 = w ∧ q.2 < W ∧ m.testBit q.2 = true then (m - 2 ^ q.2) ||| 2 ^ dA W q.2 else m)
def marketV (σ : St) (g : Nat × List Nat) (t w : Nat) : Nat := if g.1 = 5 then daysV (oW σ) g t w else movedV (oW σ) w (oFe σ) (daysV (oW σ) g t w)
theorem p7 {e : Nat} (h : e < 7) : 2 ^ e < 128 := by
  rcases (show e = 0 ∨ e = 1 ∨ e = 2 ∨ e = 3 ∨ e = 4 ∨ e = 5 ∨ e = 6 by omega) with rfl | rfl | rfl | rfl | rfl | rfl | rfl <;> decide
theorem or128 {a b : Nat} (ha : a < 128) (hb : b < 128) : a ||| b < 128 := Nat.or_lt_two_pow (n := 7) ha hb
theorem dayMask_lt {W k e w : Nat} (hW : 2 ≤ W ∧ W ≤ 7) (he : e < W) : dayMask W k e w < 128 := by
  have m := fun x => Nat.mod_lt x (show W > 0 by omega)
  have m1 := m (e + W / 2)
  have m2 := m (e + w)
  have m3 := m (e + (if w % 2 = 0 then w else w + 2))
  unfold dayMask
  split
  · exact or128 (p7 (by omega)) (p7 (by omega))
  · split
    · exact p7 (by omega)
    · split
      · exact p7 (by omega)
      · exact p7 (by omega)
theorem daysV_lt {W : Nat} {g : Nat × List Nat} {t w : Nat} (hW : 2 ≤ W ∧ W ≤ 7) : daysV W g t w < 128 := by
  unfold daysV
  split
  · decide
  · split
    · exact dayMask_lt hW (by assumption)
    · decide
theorem sub128 {m e : Nat} (h : m < 128) : m - 2 ^ e < 128 := Nat.lt_of_le_of_lt (Nat.sub_le _ _) h
theorem movedV_lt {W w : Nat} (hW : 2 ≤ W ∧ W ≤ 7) : ∀ (fs : List (Nat × Nat)) (m : Nat), m < 128 → movedV W w fs m < 128
  | [], _, h => h
  | q :: fs, m, h => by
    unfold movedV
    refine movedV_lt hW fs _ ?_
    split
    · have := dA_lt (d := q.2) (show 0 < W by omega)
      exact or128 (sub128 h) (p7 (by omega))
    · exact h
theorem marketV_lt {σ : St} (hw : WF σ) {g : Nat × List Nat} {t w : Nat} : marketV σ g t w < 128 := by
  unfold marketV
  split
  · exact daysV_lt hw.W
  · exact movedV_lt hw.W _ _ (daysV_lt hw.W)
theorem or_N' {a b : Nat} (ha : a < 2 ^ 31) (hb : b < 2 ^ 31) : nI a ||| nI b = nI (a ||| b) := by
  have hc : a ||| b < 2 ^ 31 := Nat.or_lt_two_pow ha hb
  apply Int32.toBitVec_inj.mp
  apply BitVec.eq_of_toNat_eq
  rw [Int32.toBitVec_or, BitVec.toNat_or, pk_tn (by omega), pk_tn (by omega), pk_tn (by omega)]
theorem and_N' {a b : Nat} (ha : a < 2 ^ 31) (hb : b < 2 ^ 31) : nI a &&& nI b = nI (a &&& b) := by
  have hc : a &&& b < 2 ^ 31 := Nat.lt_of_le_of_lt Nat.and_le_left ha
  apply Int32.toBitVec_inj.mp
  apply BitVec.eq_of_toNat_eq
  rw [Int32.toBitVec_and, BitVec.toNat_and, pk_tn (by omega), pk_tn (by omega), pk_tn (by omega)]
theorem or_N {a b : Nat} (ha : a < 128) (hb : b < 128) : nI a ||| nI b = nI (a ||| b) := or_N' (by omega) (by omega)
theorem mov_N {m e f : Nat} (hm : m < 128) (he : e < 7) (hf : f < 7) (hb : m.testBit e = true) : (nI m &&& (nI (2 ^ e) ^^^ (-1))) ||| nI (2 ^ f) = nI ((m - 2 ^ e) ||| 2 ^ f) := by
  have h : ∀ m, m < 128 → ∀ e, e < 7 → m.testBit e = true → (nI m &&& (nI (2 ^ e) ^^^ (-1))) = nI (m - 2 ^ e) := by decide +kernel
  rw [h m hm e he hb, or_N (sub128 hm) (p7 hf)]
def GivX (M : Mem) (p : Nat) (g : Nat × List Nat) : Prop := 113 ≤ p ∧ (sh M)[p]? = some (3, 2) ∧ mi M p 0 = nI g.1 ∧ ∃ u, mr M p 1 = some u ∧ 113 ≤ u ∧ (sh M)[u]? = some (100, g.2.length) ∧ ∀ t v, g.2[t]? = some v → mi M u t = nI v
def GivM (M : Mem) (i : Nat) (g : Nat × List Nat) : Prop := mi M 89 i = nI g.1 ∧ mi M 90 i = nI g.2.length ∧ ∀ t v, g.2[t]? = some v → mi M 91 (6 * i + t) = nI v
def GivW (T : Nat) (g : Nat × List Nat) : Prop := g.1 < 6 ∧ g.2.length ≤ T ∧ ∀ v ∈ g.2, v ≤ 7
theorem GivX.fr {M M2 : Mem} {p : Nat} {g : Nat × List Nat} (h : GivX M p g) (f : FrX M M2) : GivX M2 p g := by
  obtain ⟨e2, e3, e4, u, e5, e6, e7, e8⟩ := h
  have hl := (List.getElem?_eq_some_iff.mp e3).1
  have hl2 := (List.getElem?_eq_some_iff.mp e7).1
  exact ⟨e2, f.s _ _ e3, by rw [f.l p hl (sxr_n (by omega))]; exact e4, u, by rw [f.r p hl (rxr_n (by omega))]; exact e5, e6, f.s _ _ e7, fun t v hv => by rw [f.l u hl2 (sxr_n (by omega))]; exact e8 t v hv⟩
theorem GivM.fr {M M2 : Mem} {i : Nat} {g : Nat × List Nat} (h : GivM M i g) (f : FrM M M2) : GivM M2 i g := by
  unfold GivM
  rw [f.1 89 (by decide) rfl, f.1 90 (by decide) rfl, f.1 91 (by decide) rfl]
  exact h
theorem XGiv.at {σ : St} {M : Mem} (h : XGiv σ M) {i : Nat} {g : Nat × List Nat} (hg : (oGv σ)[i]? = some g) : ∃ p, mr M 50 i = some p ∧ GivX M p g := by
  obtain ⟨p, u, e1, e2, e3, e4, e5, e6, e7, e8⟩ := h.2 i g.1 g.2 hg
  exact ⟨p, e1, e2, e3, e4, u, e5, e6, e7, e8⟩
theorem MGiv.at {σ : St} {M : Mem} (h : MGiv σ M) {i : Nat} {g : Nat × List Nat} (hg : (oGv σ)[i]? = some g) : GivM M i g := h.2 i g.1 g.2 hg
theorem WF.gv {σ : St} (h : WF σ) {i : Nat} {g : Nat × List Nat} (hg : (oGv σ)[i]? = some g) : i < 12 ∧ GivW (oT σ) g := by
  have h2 := h.2.2.2.2.2.2.1
  have := (List.getElem?_eq_some_iff.mp hg).1
  exact ⟨by omega, h2.2 g (List.mem_of_getElem? hg)⟩
def numV (l : List Nat) (t : Nat) : Int32 := match l[t]? with
  | none => -1
  | some v => nI v
theorem sx_numberOf {d p t : Nat} {g : Nat × List Nat} {M : Mem} {K : Int32 → Mem → Prop} (hF : Fx M) (hg : GivX M p g) (hl : g.2.length ≤ 6) (ht : t < 2 ^ 31) (h : K (numV g.2 t) M) : Con (d + 1) m_Giving_numberOf 0 0 [.ref p, .int (nI t)] M (PI K) := by
  obtain ⟨e2, e3, e4, u, e5, e6, e7, e8⟩ := hg
  refine Con.of (lo := [some (.ref p), some (.int (nI t))]) F_Giving_numberOf.1 rfl (Nat.le_of_ble_eq_true rfl) (k_Giving_numberOf_0 hF ?_)
  refine ⟨fun q => absurd q (by rw [i_lt, nI_toInt ht, i_0]; omega), fun _ => ⟨e3, u, e5, _, e7, fun q => PI.mk ?_ h, fun q => ⟨e3, u, e5, _, e7, ?_, PI.mk ?_ h⟩⟩⟩
  · rw [nI_leI (by omega) ht] at q
    unfold numV
    rw [List.getElem?_eq_none q]
  · rw [nI_leI (by omega) ht] at q
    exact vN (by omega) (by omega)
  · rw [nI_leI (by omega) ht] at q
    unfold numV
    rw [nI_clamp ht, List.getElem?_eq_getElem (by omega)]
    exact e8 t _ (List.getElem?_eq_getElem (by omega))
theorem sx_daysOn {d a b W : Nat} {M : Mem} {K : Int32 → Mem → Prop} (hF : Fx M) (hW : mi M 1 9 = nI W) (h0 : 0 < W) (h7 : W < 1000) (ha : a < 1000) (hb : b < 1000) (h : K (nI ((a + b) % W)) M) : Con (d + 1) m_Land_daysOn 0 0 [.ref 1, .int (nI a), .int (nI b)] M (PI K) := by
  refine Con.of (lo := [some (.ref 1), some (.int (nI a)), some (.int (nI b))]) F_Land_daysOn.1 rfl (Nat.le_of_ble_eq_true rfl) (k_Land_daysOn_0 hF ?_)
  rw [hW, nI_add, rem_N (by omega) h0 (by omega)]
  refine ⟨fun q => absurd q ?_, fun _ => ⟨?_, PI.mk rfl h⟩⟩
  · rw [i_le, nI_toInt (by omega), i_0]; omega
  · rw [nI_z (by omega)]; omega
theorem sx_daysIn {d p t w : Nat} {σ : St} {g : Nat × List Nat} {M : Mem} {K : Int32 → Mem → Prop} (hF : Fx M) (hw : WF σ) (hL : XLand σ M) (hg : GivX M p g) (hgw : GivW (oT σ) g) (ht : t < 6) (hww : w < 100) (h : K (nI (daysV (oW σ) g t w)) M) : Con (d + 2) m_Giving_daysIn 0 0 [.ref p, .ref 1, .int (nI t), .int (nI w)] M (PI K) := by
  obtain ⟨w1, w2⟩ := hw.W
  have h6 := hw.T6
  have hsh := hg.2.1
  have hk := hg.2.2.1
  refine Con.ent (k := 1) F_Giving_daysIn.1 rfl (Nat.le_of_ble_eq_true rfl) (k_Giving_daysIn_0 hF ⟨hsh, ?_⟩)
  refine sx_numberOf hF hg (Nat.le_trans hgw.2.1 h6) (by omega) ?_
  rw [hL.2.1, hk]
  unfold daysV at h
  unfold numV
  cases hv : g.2[t]? with
  | none =>
    rw [hv] at h
    exact ⟨hF, fun _ => PI.mk rfl h, fun q => absurd (show (-1 : Int32) < 0 by decide) q⟩
  | some e =>
    rw [hv] at h
    have h7 : e ≤ 7 := hgw.2.2 e (List.mem_of_getElem? hv)
    refine ⟨hF, fun q => absurd q (by rw [i_lt, nI_toInt (by omega), i_0]; omega), fun _ => ⟨fun q => ⟨hsh, ?_⟩, fun q => PI.mk ?_ h⟩⟩
    · rw [nI_ltI (by omega) (by omega)] at q
      replace h : K (nI (dayMask (oW σ) g.1 e w)) M := by
        have h2 : K (nI (if e < oW σ then dayMask (oW σ) g.1 e w else 0)) M := h
        rwa [if_pos q] at h2
      unfold dayMask at h
      have ml := fun x => Nat.mod_lt x (show oW σ > 0 by omega)
      have m1 := ml (e + oW σ / 2)
      have m2 := ml (e + w)
      have m3 := ml (e + (w + 2))
      rw [one_N (by omega)]
      refine ⟨fun z => ?_, fun z => ?_, fun z => ?_, fun z1 z2 z3 => PI.mk ?_ h⟩
      · rw [nI_eq (by have := hgw.1; omega) (by omega)] at z
        rw [div_N (by omega) (by omega) (by omega)]
        refine sx_daysOn hF hL.2.1 (by omega) (by omega) (by omega) (by omega) ⟨hF, PI.mk ?_ h⟩
        rw [one_N (by omega), or_N (p7 (by omega)) (p7 (by omega)), if_pos z]
      · rw [nI_eq (by have := hgw.1; omega) (by omega)] at z
        refine sx_daysOn hF hL.2.1 (by omega) (by omega) (by omega) (by omega) ⟨hF, PI.mk ?_ h⟩
        rw [one_N (by omega), if_neg (by omega), if_pos z]
      · rw [nI_eq (by have := hgw.1; omega) (by omega)] at z
        rw [rem_N (by omega) (by omega) (by omega), nI_z (by omega)]
        refine ⟨fun z2 => ?_, fun z2 => ?_⟩
        · rw [nI_add]
          refine sx_daysOn hF hL.2.1 (by omega) (by omega) (by omega) (by omega) ⟨hF, PI.mk ?_ h⟩
          rw [one_N (by omega), if_neg (by omega), if_neg (by omega), if_pos z, if_neg z2]
        · refine sx_daysOn hF hL.2.1 (by omega) (by omega) (by omega) (by omega) ⟨hF, PI.mk ?_ h⟩
          rw [one_N (by omega), if_neg (by omega), if_neg (by omega), if_pos z, if_pos z2]
      · have := hgw.1
        rw [nI_eq (by omega) (by omega)] at z1 z2 z3
        rw [if_neg z1, if_neg z2, if_neg z3]
    · rw [nI_ltI (by omega) (by omega)] at q
      show nI 0 = nI (if e < oW σ then dayMask (oW σ) g.1 e w else 0)
      rw [if_neg q]
section MOV
variable {d bc bs w W F : Nat} {v1 : Int32} {M : Mem} {Φ : Option Value → Mem → Prop}
theorem mvx5 (hF : Fx M) (hW : mi M 1 9 = nI W) (hWW : 2 ≤ W ∧ W ≤ 7) (hFe : mi M 1 10 = nI F) (hF10 : F ≤ 10) (hww : w < 100) :
    ∀ (r : List (Nat × Nat)) (k m : Nat), k + r.length = F → (∀ (j : Nat) (q : Nat × Nat), r[j]? = some q → mi M 20 (k + j) = nI q.1 ∧ mi M 21 (k + j) = nI q.2 ∧ q.1 < 100 ∧ q.2 < 7) → m < 128 → Φ (some (.int (nI (movedV W w r m)))) M →
      Ex (d + 2) m_Land_movedByFeasts bc bs 5 [some (.ref 1), some (.int v1), some (.int (nI w)), some (.int (nI m)), some (.int (nI k)), none] [] M Φ := by
  intro r
  induction r with
  | nil =>
    intro k m hk hr hm H
    have hk2 : k = F := by simpa using hk
    subst hk2
    refine k_Land_movedByFeasts_5 hF ?_
    rw [hFe]
    exact ⟨fun _ => H, fun q => absurd (nI_le (Nat.le_refl k) (by omega)) q⟩
  | cons q fs ih =>
    intro k m hk hr hm H
    have hk2 : k < F := by simp only [List.length_cons] at hk; omega
    obtain ⟨g1, g2, g3, g4⟩ := hr 0 q rfl
    rw [Nat.add_zero] at g1 g2
    have next : ∀ m2, m2 < 128 → (if q.1 = w ∧ q.2 < W ∧ m.testBit q.2 = true then (m - 2 ^ q.2) ||| 2 ^ dA W q.2 else m) = m2 → Ex (d + 2) m_Land_movedByFeasts bc bs 5 [some (.ref 1), some (.int v1), some (.int (nI w)), some (.int (nI m2)), some (.int (nI k + nI 1)), none] [] M Φ := by
      intro m2 hm2 he
      rw [nI_add]
      refine ih (k + 1) m2 (by simp only [List.length_cons] at hk; omega) (fun j q' hj => ?_) hm2 ?_
      · rw [show k + 1 + j = k + (j + 1) by omega]
        exact hr (j + 1) q' (by simpa using hj)
      · rw [← he]; exact H
    refine k_Land_movedByFeasts_5 hF ?_
    rw [hFe, hW, nI_clamp (by omega), g1, g2]
    refine ⟨fun z => absurd z (by rw [nI_leI (by omega) (by omega)]; omega), fun _ => ⟨vN (by omega) (by omega), vN (by omega) (by omega), fun z => ?_, fun z => ⟨fun z2 => ?_, fun z2 => ?_⟩⟩⟩
    · rw [nI_eq (by omega) (by omega)] at z
      exact next m hm (if_neg (fun y => z y.1))
    · rw [nI_leI (by omega) (by omega)] at z2
      exact next m hm (if_neg (fun y => by omega))
    · rw [nI_eq (by omega) (by omega)] at z
      rw [nI_leI (by omega) (by omega)] at z2
      refine sx_hasBit hF (by omega) (by omega) ⟨hF, fun y => ?_, fun y => ?_⟩
      · exact next m hm (if_neg (fun x => by rw [y] at x; exact absurd x.2.2 (by decide)))
      · have hd := dA_lt (d := q.2) (show 0 < W by omega)
        rw [hW]
        refine sx_dayAfter hF (by omega) (by omega) ⟨hF, ?_⟩
        rw [one_N (by omega), one_N (by omega), mov_N hm (by omega) (by omega) y]
        exact next _ (or128 (sub128 hm) (p7 (by omega))) (if_pos ⟨z, by omega, y⟩)
end MOV
theorem XLand.fe {σ : St} {M : Mem} (hL : XLand σ M) (hw : WF σ) : ∀ (j : Nat) (q : Nat × Nat), (oFe σ)[j]? = some q → mi M 20 (0 + j) = nI q.1 ∧ mi M 21 (0 + j) = nI q.2 ∧ q.1 < 100 ∧ q.2 < 7 := fun j q hj => by
  rw [Nat.zero_add]
  obtain ⟨a, b⟩ := hL.2.2.2.2.2.2.2 j q.1 q.2 hj
  obtain ⟨x, y⟩ := hw.x.2.2.2 q (List.mem_of_getElem? hj)
  exact ⟨a, b, x, y⟩
theorem sx_moved {d w m : Nat} {σ : St} {M : Mem} {K : Int32 → Mem → Prop} (hF : Fx M) (hw : WF σ) (hL : XLand σ M) (hm : m < 128) (hww : w < 100) (h : K (nI (movedV (oW σ) w (oFe σ) m)) M) : Con (d + 2) m_Land_movedByFeasts 0 0 [.ref 1, .int (nI m), .int (nI w)] M (PI K) := by
  refine Con.ent (k := 3) F_Land_movedByFeasts.1 rfl (Nat.le_of_ble_eq_true rfl) (k_Land_movedByFeasts_0 hF ?_)
  exact mvx5 hF hL.2.1 hw.W hL.2.2.1 hw.x.2.2.1 hww (oFe σ) 0 m (by omega) (hL.fe hw) hm (PI.mk rfl h)
theorem sx_marketIn {d p t w : Nat} {σ : St} {g : Nat × List Nat} {M : Mem} {K : Int32 → Mem → Prop} (hF : Fx M) (hw : WF σ) (hL : XLand σ M) (hg : GivX M p g) (hgw : GivW (oT σ) g) (ht : t < 6) (hww : w < 100) (h : K (nI (marketV σ g t w)) M) : Con (d + 3) m_Giving_marketIn 0 0 [.ref p, .ref 1, .int (nI t), .int (nI w)] M (PI K) := by
  have hg5 := hgw.1
  refine Con.ent (k := 1) F_Giving_marketIn.1 rfl (Nat.le_of_ble_eq_true rfl) (k_Giving_marketIn_0 hF ⟨hg.2.1, ?_⟩)
  refine sx_daysIn hF hw hL hg hgw ht hww ⟨hF, hg.2.1, ?_⟩
  refine Con.of (lo := [some (.ref p)]) F_Giving_feastsMoveIt.1 rfl (Nat.le_of_ble_eq_true rfl) (k_Giving_feastsMoveIt_0 hF ⟨hg.2.1, ?_⟩)
  rw [hg.2.2.1, nI_eq (by omega) (by omega)]
  unfold marketV at h
  refine ⟨fun z => PB.mk rfl ⟨hF, fun _ => PI.mk rfl ?_, fun y => absurd y (by decide)⟩, fun z => PB.mk rfl ⟨hF, fun y => absurd y (by decide), fun _ => ?_⟩⟩
  · rwa [if_pos z] at h
  · rw [if_neg z] at h
    exact sx_moved hF hw hL (daysV_lt hw.W) hww ⟨hF, PI.mk rfl h⟩
