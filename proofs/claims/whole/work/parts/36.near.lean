/-! what THE RULE says: near of two towns, worth of a day -/
def nmV (a b c e f g : Int32) : Nat → Int32 := u1 (u1 (u1 (u1 (u1 (u1 (fun _ => 0) 0 a) 1 b) 2 c) 3 e) 4 f) 5 g
theorem nm_w (M : Mem) (j : Nat) (a b c e f g : Int32) {k : Nat} (hk : k < 6) : mi (wi (wi (wi (wi (wi (wi M j 0 a) j 1 b) j 2 c) j 3 e) j 4 f) j 5 g) j k = nmV a b c e f g k := by
  rw [mi_w, mi_w, mi_w, mi_w, mi_w, mi_w]
  rcases (show k = 0 ∨ k = 1 ∨ k = 2 ∨ k = 3 ∨ k = 4 ∨ k = 5 by omega) with rfl | rfl | rfl | rfl | rfl | rfl <;> rfl
def ruleOf (σ : St) : List Int32 × List Int32 := ((oTx σ)[oRu σ]?).getD ([], [])
def nearV (σ : St) (W a b : Nat) : Int32 := ev (nmV (nI (far (oT σ) (oRd σ) a b)) (nI (oSz σ a)) (nI (oSz σ b)) (nI 0) (nI 0) (nI W)) (ruleOf σ).1
def cl999 (v : Int32) : Int32 := if v ≤ nI 999 then (if -999 ≤ v then v else -999) else nI 999
def worthV (σ : St) (t e h o : Nat) : Int32 := cl999 (ev (nmV (nI h) (nI (oSz σ t)) (nI o) (nI e) (if oWi σ t = nI e then nI 1 else nI 0) (nI (oW σ))) (ruleOf σ).2)
theorem cl_x (v : Int32) : (if (-999) < (if v < (nI 999) then v else (nI 999)) then (if v < (nI 999) then v else (nI 999)) else (-999)) = cl999 v := by
  have e1 : (nI 999).toInt = 999 := rfl
  have e2 : (-999 : Int32).toInt = -999 := rfl
  unfold cl999
  by_cases h1 : v < nI 999
  · rw [if_pos h1, if_pos (show v ≤ nI 999 by rw [i_lt] at h1; rw [i_le]; omega)]
    by_cases h2 : (-999 : Int32) < v
    · rw [if_pos h2, if_pos (show (-999 : Int32) ≤ v by rw [i_lt] at h2; rw [i_le]; omega)]
    · rw [if_neg h2]
      by_cases h3 : (-999 : Int32) ≤ v
      · rw [if_pos h3, i_eq]; rw [i_lt] at h2; rw [i_le] at h3; omega
      · rw [if_neg h3]
  · rw [if_neg h1, if_pos (by decide)]
    by_cases h2 : v ≤ nI 999
    · have : v = nI 999 := by rw [i_eq]; rw [i_lt] at h1; rw [i_le] at h2; omega
      subst this
      decide
    · rw [if_neg h2]
theorem WF.T6 {σ : St} (h : WF σ) : oT σ ≤ 6 := h.1
theorem WF.W {σ : St} (h : WF σ) : 2 ≤ oW σ ∧ oW σ ≤ 7 := h.2.1
theorem WF.sz {σ : St} (h : WF σ) (t : Nat) : oSz σ t ≤ 99 := h.2.2.1 t
theorem WF.x {σ : St} (h : WF σ) : WFx (oT σ) (oMy σ) (oWi σ) (oBe σ) (oRd σ) (oFe σ) := h.2.2.2.1
theorem WF.rd {σ : St} (h : WF σ) (a b : Nat) : oRd σ a b ≤ 50 := (h.x.2.1 a b).1
theorem WF.far {σ : St} (h : WF σ) (a b : Nat) : far (oT σ) (oRd σ) a b ≤ 99 := far_99 (fun a b => h.rd a b) a b
theorem WF.ru {σ : St} (h : WF σ) : 1 ≤ (oTx σ).length ∧ (oTx σ).length ≤ 6 ∧ oRu σ < (oTx σ).length := ⟨h.2.2.2.2.2.1.1, h.2.2.2.2.2.1.2.1, h.2.2.2.2.2.1.2.2.1⟩
theorem WF.rule {σ : St} (h : WF σ) : (oTx σ)[oRu σ]? = some (ruleOf σ) := by
  unfold ruleOf
  rw [List.getElem?_eq_getElem h.ru.2.2, Option.getD_some]
theorem WF.okr {σ : St} (h : WF σ) : okc (ruleOf σ).1 0 = true ∧ okc (ruleOf σ).2 0 = true ∧ (ruleOf σ).1.length + (ruleOf σ).2.length ≤ 160 := h.2.2.2.2.2.1.2.2.2 _ (List.mem_of_getElem? h.rule)
theorem sx_theRule {d : Nat} {σ : St} {M : Mem} {K : Option Nat → Mem → Prop} (hF : Fx M) (hw : WF σ) (hL : XLand σ M) (hT : XText σ M) (h : ∀ r a b, mr M 47 (oRu σ) = some r → (r = 75 ∨ 113 ≤ r) → (sh M)[r]? = some (7, 2) → mr M r 0 = some a → mr M r 1 = some b → CodeAt M a (ruleOf σ).1 → CodeAt M b (ruleOf σ).2 → K (some r) M) : Con (d + 1) m_Law_theRule 0 0 [.ref 46] M (PR K) := by
  obtain ⟨g1, g2⟩ := hT
  obtain ⟨r, a, b, e1, e2, e3, e4, e5, e6, e7⟩ := g2 (oRu σ) (ruleOf σ).1 (ruleOf σ).2 hw.rule
  have hru := hw.ru
  refine Con.of (lo := [some (.ref 46)]) F_Law_theRule.1 rfl (Nat.le_of_ble_eq_true rfl) (k_Law_theRule_0 hF ?_)
  rw [hL.2.2.2.1, g1, nI_clamp (by omega)]
  refine ⟨fun q => absurd q (by rw [i_lt, nI_toInt (by omega), i_0]; omega), fun _ => ⟨fun q => absurd q (by rw [nI_leI (by omega) (by omega)]; omega), fun _ => ⟨vN (by omega) (by omega), PR.mk e1 (h r a b e1 e2 e3 e4 e5 e6 e7)⟩⟩⟩
theorem sx_hoursBetween {d a b : Nat} {σ : St} {M : Mem} {K : Int32 → Mem → Prop} (hF : Fx M) (hw : WF σ) (hL : XLand σ M) (ha : a < oT σ) (hb : b < oT σ) (h : K (nI (far (oT σ) (oRd σ) a b)) M) : Con (d + 1) m_Land_hoursBetween 0 0 [.ref 1, .int (nI a), .int (nI b)] M (PI K) := by
  have h6 := hw.T6
  obtain ⟨q1, q2, q3, q4⟩ := ref7 hF (a := a) (by omega)
  refine Con.of (lo := [some (.ref 1), some (.int (nI a)), some (.int (nI b))]) F_Land_hoursBetween.1 rfl (Nat.le_of_ble_eq_true rfl) (k_Land_hoursBetween_0 hF ?_)
  rw [nI_clamp (by omega), nI_clamp (by omega)]
  exact ⟨vN (by omega) (by omega), 14 + a, q2, 6, q4, vN (by omega) (by omega), PI.mk (hL.2.2.2.2.2.2.1 a b ha hb) h⟩
theorem sx_name {d : Nat} {v1 v2 v3 v4 v5 v6 : Int32} {M : Mem} {K : Mem → Prop} (hF : Fx M) (h : ∀ M2, Fx M2 → FrG [48] [] M M2 → (∀ k, k < 6 → mi M2 48 k = nmV v1 v2 v3 v4 v5 v6 k) → K M2) : Con (d + 1) m_Law_name 0 0 [.ref 46, .int v1, .int v2, .int v3, .int v4, .int v5, .int v6] M (PV K) := by
  refine Con.of (lo := [some (.ref 46), some (.int v1), some (.int v2), some (.int v3), some (.int v4), some (.int v5), some (.int v6)]) F_Law_name.1 rfl (Nat.le_of_ble_eq_true rfl) (k_Law_name_0 hF ⟨rfl, h _ hF.fwi.fwi.fwi.fwi.fwi.fwi ?_ (fun k hk => nm_w _ _ _ _ _ _ _ _ hk)⟩)
  exact ((((((FrG.rf _ _).fwi (by decide)).fwi (by decide)).fwi (by decide)).fwi (by decide)).fwi (by decide)).fwi (by decide)
theorem sx_nearSays {d W a b : Nat} {σ : St} {M : Mem} {K : Int32 → Mem → Prop} (hF : Fx M) (hw : WF σ) (hL : XLand σ M) (hT : XText σ M) (ha : a < oT σ) (hb : b < oT σ) (h : ∀ M2, Fx M2 → FrG [48, 49] [] M M2 → K (nearV σ W a b) M2) : Con (d + 3) m_Law_nearSays 0 0 [.ref 46, .int (nI a), .int (nI b), .int (nI W)] M (PI K) := by
  have h6 := hw.T6
  obtain ⟨o1, o2, o3⟩ := hw.okr
  refine Con.ent (k := 1) F_Law_nearSays.1 rfl (Nat.le_of_ble_eq_true rfl) (k_Law_nearSays_0 hF ?_)
  refine sx_theRule hF hw hL hT (fun r p q e1 e2 e3 e4 e5 e6 e7 => ⟨hF, (fun z => nomatch z), fun a2 z => ?_⟩)
  cases z
  refine sx_hoursBetween hF hw hL ha hb ⟨hF, vN (by omega) (by omega), vN (by omega) (by omega), ?_⟩
  rw [nI_clamp (by omega), nI_clamp (by omega), (hL.2.2.2.2.1 a ha).1, (hL.2.2.2.2.1 b hb).1]
  refine sx_name hF (fun M2 hF2 f2 hn => ⟨hF2, f2.shp e3, p, ?_, ?_⟩)
  · rw [f2.rrow (List.getElem?_eq_some_iff.mp e3).1 (by simp)]
    exact e4
  · refine sx_run hF2 (e6.fr (f2.X rfl rfl)) o1 (by omega) (fun M3 hF3 f3 => ⟨hF3, PI.mk (ev_nm hn o1) (h M3 hF3 ?_)⟩)
    exact (f2.wk (L2 := [48, 49]) (R2 := []) (by simp) (by simp)).tr (f3.wk (by simp) (by simp))
theorem sx_worthOfDay {d t e hh o : Nat} {σ : St} {M : Mem} {K : Int32 → Mem → Prop} (hF : Fx M) (hw : WF σ) (hL : XLand σ M) (hT : XText σ M) (ht : t < oT σ) (h : ∀ M2, Fx M2 → FrG [48, 49] [] M M2 → K (worthV σ t e hh o) M2) : Con (d + 3) m_Law_worthOfDay 0 0 [.ref 46, .int (nI t), .int (nI e), .int (nI hh), .int (nI o)] M (PI K) := by
  have h6 := hw.T6
  obtain ⟨o1, o2, o3⟩ := hw.okr
  refine Con.ent (k := 1) F_Law_worthOfDay.1 rfl (Nat.le_of_ble_eq_true rfl) (k_Law_worthOfDay_0 hF ?_)
  refine sx_theRule hF hw hL hT (fun r p q e1 e2 e3 e4 e5 e6 e7 => ⟨hF, (fun z => nomatch z), fun a2 z => ?_⟩)
  cases z
  rw [nI_clamp (by omega), (hL.2.2.2.2.1 t ht).1, (hL.2.2.2.2.1 t ht).2.2.1, hL.2.1]
  have fin : ∀ w : Int32, (if oWi σ t = nI e then nI 1 else nI 0) = w → Con (d + 2) m_Law_name 0 0 [.ref 46, .int (nI hh), .int (nI (oSz σ t)), .int (nI o), .int (nI e), .int w, .int (nI (oW σ))] M (PV fun M2 => Fx M2 ∧ (sh M2)[r]? = some (7, 2) ∧ ∃ a3 : Nat, mr M2 r 1 = some a3 ∧ Con (d + 2) m_Rule_run 0 0 [.ref a3, .ref 48, .ref 49] M2 (PI fun r4 M3 => Fx M3 ∧ PI K (some (.int (if (-999) < (if r4 < (nI 999) then r4 else (nI 999)) then (if r4 < (nI 999) then r4 else (nI 999)) else (-999)))) M3)) := by
    intro w hwi
    refine sx_name hF (fun M2 hF2 f2 hn => ⟨hF2, f2.shp e3, q, ?_, ?_⟩)
    · rw [f2.rrow (List.getElem?_eq_some_iff.mp e3).1 (by simp)]
      exact e5
    · refine sx_run hF2 (e7.fr (f2.X rfl rfl)) o2 (by omega) (fun M3 hF3 f3 => ⟨hF3, PI.mk ?_ (h M3 hF3 ?_)⟩)
      · rw [cl_x, ev_nm hn o2, ← hwi]
        rfl
      · exact (f2.wk (L2 := [48, 49]) (R2 := []) (by simp) (by simp)).tr (f3.wk (by simp) (by simp))
  exact ⟨vN (by omega) (by omega), vN (by omega) (by omega), fun z => fin _ (if_neg z), fun z => fin _ (if_pos z)⟩
theorem MText.rule {σ : St} {M : Mem} (hw : WF σ) (hL : MLand σ M) (hT : MText σ M) : RuleM M 0 (ruleOf σ).1 ∧ RuleM M 1 (ruleOf σ).2 := by
  obtain ⟨g1, g2⟩ := hT
  obtain ⟨e1, e2, e3, e4⟩ := g2 (oRu σ) (ruleOf σ).1 (ruleOf σ).2 hw.rule
  have hru := hw.ru
  obtain ⟨o1, o2, o3⟩ := hw.okr
  refine ⟨⟨oRu σ, 0, hL.2.2.2.1, by omega, e1, by rw [Nat.zero_add]; exact e2, by omega, fun j c hj => ?_⟩, ⟨oRu σ, (ruleOf σ).1.length, hL.2.2.2.1, by omega, e2, e3, by omega, fun j c hj => ?_⟩⟩
  · rw [Nat.zero_add]
    exact e4 j c (by rw [List.getElem?_append_left (List.getElem?_eq_some_iff.mp hj).1]; exact hj)
  · exact e4 _ c (by rw [List.getElem?_append_right (by omega), Nat.add_sub_cancel_left]; exact hj)
theorem RuleM.fr {M M2 : Mem} {p : Nat} {cs : List Int32} (h : RuleM M p cs) (f : FrM M M2) : RuleM M2 p cs := by
  unfold RuleM
  rw [f.1 78 (by decide) rfl, f.1 87 (by decide) rfl, f.1 88 (by decide) rfl]
  exact h
theorem sm_names {d : Nat} {v1 v2 v3 v4 v5 : Int32} {M : Mem} {K : Mem → Prop} (hF : Fm M) (h : ∀ M2, Fm M2 → FrG [107] [] M M2 → (∀ k, k < 6 → mi M2 107 k = nmV v1 v2 v3 v4 v5 (mi M 78 6) k) → K M2) : Con (d + 1) m_MM_names 0 0 [.ref 78, .int v1, .int v2, .int v3, .int v4, .int v5] M (PV K) := by
  refine Con.of (lo := [some (.ref 78), some (.int v1), some (.int v2), some (.int v3), some (.int v4), some (.int v5)]) F_MM_names.1 rfl (Nat.le_of_ble_eq_true rfl) (k_MM_names_0 hF ⟨rfl, h _ hF.fwi.fwi.fwi.fwi.fwi.fwi ?_ (fun k hk => nm_w _ _ _ _ _ _ _ _ hk)⟩)
  exact ((((((FrG.rf _ _).fwi (by decide)).fwi (by decide)).fwi (by decide)).fwi (by decide)).fwi (by decide)).fwi (by decide)
theorem sm_nearOf {d a b : Nat} {σ : St} {M : Mem} {K : Int32 → Mem → Prop} (hF : Fm M) (hw : WF σ) (hL : MLand σ M) (hT : MText σ M) (h103 : ∀ x y, x < 6 → y < 6 → mi M 103 (6 * x + y) = nI (far (oT σ) (oRd σ) x y)) (ha : a < oT σ) (hb : b < oT σ) (h : ∀ M2, Fm M2 → FrG [106, 107] [] M M2 → K (nearV σ (oW σ) a b) M2) : Con (d + 3) m_MM_nearOf 0 0 [.ref 78, .int (nI a), .int (nI b)] M (PI K) := by
  have h6 := hw.T6
  obtain ⟨o1, o2, o3⟩ := hw.okr
  have hR := (MText.rule hw hL hT).1
  refine Con.of (lo := [some (.ref 78), some (.int (nI a)), some (.int (nI b))]) F_MM_nearOf.1 rfl (Nat.le_of_ble_eq_true rfl) (k_MM_nearOf_0 hF ?_)
  rw [pk_mul, nI_add, nI_clamp (by omega), nI_clamp (by omega), nI_clamp (by omega), h103 a b (by omega) (by omega), (hL.2.2.2.2.1 a ha).1, (hL.2.2.2.2.1 b hb).1]
  refine ⟨vN (by omega) (by omega), vN (by omega) (by omega), vN (by omega) (by omega), sm_names hF (fun M2 hF2 f2 hn => ⟨hF2, ?_⟩)⟩
  refine sm_worth hF2 (hR.fr (f2.M hF rfl)) (by decide) o1 (fun M3 hF3 f3 => ⟨hF3, PI.mk ?_ (h M3 hF3 ?_)⟩)
  · rw [ev_nm hn o1, hL.2.1]
    rfl
  · exact (f2.wk (L2 := [106, 107]) (R2 := []) (by simp) (by simp)).tr (f3.wk (by simp) (by simp))
theorem sm_worthBy {d t e hh o : Nat} {σ : St} {M : Mem} {K : Int32 → Mem → Prop} (hF : Fm M) (hw : WF σ) (hL : MLand σ M) (hT : MText σ M) (ht : t < oT σ) (h : ∀ M2, Fm M2 → FrG [106, 107] [] M M2 → K (worthV σ t e hh o) M2) : Con (d + 3) m_MM_worthBy 0 0 [.ref 78, .int (nI t), .int (nI e), .int (nI hh), .int (nI o)] M (PI K) := by
  have h6 := hw.T6
  obtain ⟨o1, o2, o3⟩ := hw.okr
  have hR := (MText.rule hw hL hT).2
  refine Con.ent (k := 1) F_MM_worthBy.1 rfl (Nat.le_of_ble_eq_true rfl) (k_MM_worthBy_0 hF ?_)
  rw [nI_clamp (by omega), (hL.2.2.2.2.1 t ht).1, (hL.2.2.2.2.1 t ht).2.2.1]
  have fin : ∀ w : Int32, (if oWi σ t = nI e then nI 1 else nI 0) = w → Con (d + 2) m_MM_names 0 0 [.ref 78, .int (nI hh), .int (nI (oSz σ t)), .int (nI o), .int (nI e), .int w] M (PV fun M1 => Fm M1 ∧ Con (d + 2) m_MM_worth 0 0 [.ref 78, .int (nI 1)] M1 (PI fun r1 M2 => Fm M2 ∧ (r1 ≤ (nI 999) → ((-999) ≤ r1 → PI K (some (.int r1)) M2) ∧ (¬ (-999) ≤ r1 → PI K (some (.int (-999))) M2)) ∧ (¬ r1 ≤ (nI 999) → PI K (some (.int (nI 999))) M2))) := by
    intro w hwi
    refine sm_names hF (fun M2 hF2 f2 hn => ⟨hF2, ?_⟩)
    refine sm_worth hF2 (hR.fr (f2.M hF rfl)) (by decide) o2 (fun M3 hF3 f3 => ⟨hF3, ?_⟩)
    have hv : worthV σ t e hh o = cl999 (ev (mi M2 107) (ruleOf σ).2) := by
      rw [ev_nm hn o2, hL.2.1, ← hwi]
      rfl
    have hk := h M3 hF3 ((f2.wk (L2 := [106, 107]) (R2 := []) (by simp) (by simp)).tr (f3.wk (by simp) (by simp)))
    rw [hv] at hk
    unfold cl999 at hk
    refine ⟨fun z => ⟨fun z2 => PI.mk rfl ?_, fun z2 => PI.mk rfl ?_⟩, fun z => PI.mk rfl ?_⟩
    · rwa [if_pos z, if_pos z2] at hk
    · rwa [if_pos z, if_neg z2] at hk
    · rwa [if_neg z] at hk
  exact ⟨vN (by omega) (by omega), vN (by omega) (by omega), fun z => fin _ (if_neg z), fun z => fin _ (if_pos z)⟩
