/-! calls that ask: hours, says, worthOf, marketOf, bar, judge -/
def SX (τ : St) (M M2 : Mem) : Prop := XA τ M2 ∧ ∀ ρ, MA ρ M → MA ρ M2
def SM (τ : St) (M M2 : Mem) : Prop := MA τ M2 ∧ ∀ ρ, oT ρ ≤ 6 → XA ρ M → XA ρ M2
def xL (j : Nat) : Bool := decide (j < 78) && sxr j
def xR (j : Nat) : Bool := decide (j < 78) && rxr j
def mL (j : Nat) : Bool := decide (78 ≤ j ∧ j < 113) && smr j
theorem all_sub {p q : Nat → Bool} {L : List Nat} (h : L.all p = true) (hpq : ∀ j, p j = true → q j = true) : L.all q = true := List.all_eq_true.mpr fun j hj => hpq j (List.all_eq_true.mp h j hj)
theorem XA.keepM {ρ : St} {L R : List Nat} {M M2 : Mem} (f : FrG L R M M2) (hL : L.all (fun j => decide (j < 78)) = true) (hR : R.all (fun j => decide (j < 78)) = true) (hm : MA ρ M) : MA ρ M2 := hm.fr (f.MX hm.1 hL) (f.fm hm.1 (fun j hj => by
  have := List.all_eq_true.mp hR j hj
  simp only [decide_eq_true_eq] at this
  exact .inl this))
theorem XA.q {σ : St} {L R : List Nat} {M M2 : Mem} (hx : XA σ M) (hw : WF σ) (f : FrG L R M M2) (hF2 : Fx M2) (hL : L.all xL = true) (hR : R.all xR = true) : SX σ M M2 := ⟨hx.fr hw.T6 (f.X (all_sub hL (fun j h => (Bool.and_eq_true _ _ ▸ h).2)) (all_sub hR (fun j h => (Bool.and_eq_true _ _ ▸ h).2))) hF2, fun _ hm => XA.keepM f (all_sub hL (fun j h => (Bool.and_eq_true _ _ ▸ h).1)) (all_sub hR (fun j h => (Bool.and_eq_true _ _ ▸ h).1)) hm⟩
theorem SX.rf {σ : St} {M : Mem} (hx : XA σ M) : SX σ M M := ⟨hx, fun _ h => h⟩
theorem SM.rf {σ : St} {M : Mem} (hx : MA σ M) : SM σ M M := ⟨hx, fun _ _ h => h⟩
theorem MA.keepX {ρ : St} {L : List Nat} {M M2 : Mem} (f : FrG L [] M M2) (hL : L.all (fun j => decide (78 ≤ j ∧ j < 113)) = true) (h6 : oT ρ ≤ 6) (hx : XA ρ M) : XA ρ M2 := hx.fr h6 (f.XM hL rfl) (f.fx hx.1)
theorem MA.q {σ : St} {L : List Nat} {M M2 : Mem} (hm : MA σ M) (f : FrG L [] M M2) (hF2 : Fm M2) (hL : L.all mL = true) : SM σ M M2 := ⟨hm.fr (f.M hm.1 (all_sub hL (fun j h => (Bool.and_eq_true _ _ ▸ h).2))) hF2, fun _ h6 hx => MA.keepX f (all_sub hL (fun j h => (Bool.and_eq_true _ _ ▸ h).1)) h6 hx⟩
theorem isB_i {lo hi : Int} {n : Nat} (hn : n < 2 ^ 31) : isB lo hi (nI n) = decide (lo ≤ (n : Int) ∧ (n : Int) ≤ hi) := by
  unfold isB
  rw [nI_toInt hn]
theorem isB_k {n : Nat} {x : Int32} (h : isB 0 ((n : Int) - 1) x = true) (hn : n < 2 ^ 31) : ∃ k, k < n ∧ x = nI k := by
  rw [isB_t] at h
  exact i_of (by omega) (by omega) hn
theorem isB_w {x : Int32} (h : isB 0 99 x = true) : ∃ k, k < 100 ∧ x = nI k := by
  rw [isB_t] at h
  exact i_of (by omega) (by omega) (by omega)
def givAt (σ : St) (g : Int32) : Option (Nat × List Nat) := if isB 0 (((oGv σ).length : Int) - 1) g = true then (oGv σ)[g.toNatClampNeg]? else none
theorem givAt_some {σ : St} {i : Nat} {gv : Nat × List Nat} (hw : WF σ) (h : (oGv σ)[i]? = some gv) : givAt σ (nI i) = some gv := by
  have h1 := (List.getElem?_eq_some_iff.mp h).1
  have h2 := (hw.gv h).1
  unfold givAt
  rw [nI_clamp (by omega), isB_i (by omega), if_pos (by rw [decide_eq_true_eq]; omega)]
  exact h
theorem sx_givC {d : Nat} {σ : St} {g : Int32} {M : Mem} {K : Option Nat → Mem → Prop} (hw : WF σ) (hF : Fx M) (hG : XGiv σ M) (h0 : givAt σ g = none → K none M) (h1 : ∀ i gv p, g = nI i → (oGv σ)[i]? = some gv → givAt σ g = some gv → GivX M p gv → K (some p) M) : Con (d + 1) m_MD_givingAt 0 0 [.ref 0, .int g] M (PR K) := by
  have h12 := hw.2.2.2.2.2.2.1.1
  refine sx_givingAt hF hG.1 h12 ?_
  split
  · rename_i q
    obtain ⟨k, hk, rfl⟩ := isB_k q (by omega)
    have hg : (oGv σ)[k]? = some ((oGv σ)[k]'hk) := List.getElem?_eq_getElem hk
    obtain ⟨p, hp, hgx⟩ := XGiv.at hG hg
    rw [nI_clamp (by omega), hp]
    exact h1 k _ p rfl hg (givAt_some hw hg) hgx
  · rename_i q
    exact h0 (by unfold givAt; rw [if_neg q])
theorem sm_givC {d : Nat} {σ : St} {g : Int32} {M : Mem} {K : Bool → Mem → Prop} (hw : WF σ) (hF : Fm M) (hG : MGiv σ M) (h0 : givAt σ g = none → K false M) (h1 : ∀ i gv, g = nI i → (oGv σ)[i]? = some gv → givAt σ g = some gv → GivM M i gv → K true M) : Con (d + 2) m_MM_isGiving 0 0 [.ref 78, .int g] M (PB K) := by
  have h12 := hw.2.2.2.2.2.2.1.1
  refine sm_isGiving hF hG.1 h12 ?_
  cases q : isB 0 (((oGv σ).length : Int) - 1) g with
  | true =>
    obtain ⟨k, hk, rfl⟩ := isB_k q (by omega)
    have hg : (oGv σ)[k]? = some ((oGv σ)[k]'hk) := List.getElem?_eq_getElem hk
    exact h1 k _ rfl hg (givAt_some hw hg) (MGiv.at hG hg)
  | false => exact h0 (by unfold givAt; rw [q]; rfl)
theorem sx_townC {d : Nat} {σ : St} {t : Int32} {M : Mem} {K : Bool → Mem → Prop} (hw : WF σ) (hF : Fx M) (hL : XLand σ M) (h0 : isB 0 ((oT σ : Int) - 1) t = false → K false M) (h1 : ∀ k, k < oT σ → t = nI k → isB 0 ((oT σ : Int) - 1) t = true → K true M) : Con (d + 1) m_Land_hasTown 0 0 [.ref 1, .int t] M (PB K) := by
  refine sx_hasTown hF hL.1 hw.T6 ?_
  cases q : isB 0 ((oT σ : Int) - 1) t with
  | true =>
    obtain ⟨k, hk, e⟩ := isB_k q (by have := hw.T6; omega)
    exact h1 k hk e q
  | false => exact h0 q
theorem sm_townC {d : Nat} {σ : St} {t : Int32} {M : Mem} {K : Bool → Mem → Prop} (hw : WF σ) (hF : Fm M) (hL : MLand σ M) (h0 : isB 0 ((oT σ : Int) - 1) t = false → K false M) (h1 : ∀ k, k < oT σ → t = nI k → isB 0 ((oT σ : Int) - 1) t = true → K true M) : Con (d + 2) m_MM_isTown 0 0 [.ref 78, .int t] M (PB K) := by
  refine sm_isTown hF hL.1 hw.T6 ?_
  cases q : isB 0 ((oT σ : Int) - 1) t with
  | true =>
    obtain ⟨k, hk, e⟩ := isB_k q (by have := hw.T6; omega)
    exact h1 k hk e q
  | false => exact h0 q
theorem sx_weekC {d : Nat} {w : Int32} {M : Mem} {K : Bool → Mem → Prop} (hF : Fx M) (h0 : isB 0 99 w = false → K false M) (h1 : ∀ k, k < 100 → w = nI k → isB 0 99 w = true → K true M) : Con (d + 1) m_MD_isWeek 0 0 [.int w] M (PB K) := by
  refine sx_isWeek hF ?_
  cases q : isB 0 99 w with
  | true =>
    obtain ⟨k, hk, e⟩ := isB_w q
    exact h1 k hk e q
  | false => exact h0 q
theorem sm_weekC {d : Nat} {w : Int32} {M : Mem} {K : Bool → Mem → Prop} (hF : Fm M) (h0 : isB 0 99 w = false → K false M) (h1 : ∀ k, k < 100 → w = nI k → isB 0 99 w = true → K true M) : Con (d + 2) m_MM_isWeek 0 0 [.int w] M (PB K) := by
  refine sm_isWeek hF ?_
  cases q : isB 0 99 w with
  | true =>
    obtain ⟨k, hk, e⟩ := isB_w q
    exact h1 k hk e q
  | false => exact h0 q
def tB (σ : St) (t : Int32) : Bool := isB 0 ((oT σ : Int) - 1) t
def pHours (σ : St) (a b : Int32) : Int32 := if tB σ a = true then (if tB σ b = true then nI (far (oT σ) (oRd σ) a.toNatClampNeg b.toNatClampNeg) else -1) else -1
theorem sX_hours {d : Nat} {σ : St} {a b : Int32} {M : Mem} {K : Int32 → Mem → Prop} (hw : WF σ) (hx : XA σ M) (h : ∀ M2, SX σ M M2 → K (pHours σ a b) M2) : Con (d + 2) m_MD_hours 0 0 [.ref 0, .int a, .int b] M (PI K) := by
  obtain ⟨hF, hL, hx2⟩ := id hx
  have h6 := hw.T6
  have hk := h M (SX.rf hx)
  unfold pHours tB at hk
  refine Con.of (lo := [some (.ref 0), some (.int a), some (.int b)]) F_MD_hours.1 rfl (Nat.le_of_ble_eq_true rfl) (k_MD_hours_0 hF ?_)
  refine sx_townC hw hF hL (fun q => ⟨hF, fun _ => PI.mk (by rw [q]; rfl) hk, (fun z => nomatch z)⟩) (fun i hi e q => ⟨hF, (fun z => nomatch z), fun _ => ?_⟩)
  refine sx_townC hw hF hL (fun q2 => ⟨hF, fun _ => PI.mk (by rw [q, q2]; rfl) hk, (fun z => nomatch z)⟩) (fun j hj e2 q2 => ⟨hF, (fun z => nomatch z), fun _ => ?_⟩)
  subst e e2
  rw [if_pos q, if_pos q2, nI_clamp (by omega), nI_clamp (by omega)] at hk
  exact sx_hoursBetween hF hw hL hi hj ⟨hF, PI.mk rfl hk⟩
theorem sM_hours {d : Nat} {σ : St} {a b : Int32} {M : Mem} {K : Int32 → Mem → Prop} (hw : WF σ) (hm : MA σ M) (h : ∀ M2, SM σ M M2 → K (pHours σ a b) M2) : Con (d + 3) m_MM_hours 0 0 [.ref 78, .int a, .int b] M (PI K) := by
  obtain ⟨hF, _, hL, hx2⟩ := id hm
  have h6 := hw.T6
  have hk := h M (SM.rf hm)
  unfold pHours tB at hk h
  refine Con.of (lo := [some (.ref 78), some (.int a), some (.int b)]) F_MM_hours.1 rfl (Nat.le_of_ble_eq_true rfl) (k_MM_hours_0 hF ?_)
  refine sm_townC hw hF hL (fun q => ⟨hF, fun _ => PI.mk (by rw [q]; rfl) hk, (fun z => nomatch z)⟩) (fun i hi e q => ⟨hF, (fun z => nomatch z), fun _ => ?_⟩)
  refine sm_townC hw hF hL (fun q2 => ⟨hF, (fun z => nomatch z), fun _ => PI.mk (by rw [q, q2]; rfl) hk⟩) (fun j hj e2 q2 => ⟨hF, fun _ => ?_, (fun z => nomatch z)⟩)
  subst e e2
  refine sm_spreads hF hL.1 h6 (fun a b => hw.rd a b) hL.2.2.2.2.2.1 (fun M2 hF2 f2 g2 => ⟨hF2, ?_⟩)
  have hk2 := h M2 (hm.q f2 hF2 rfl)
  rw [if_pos q, if_pos q2, nI_clamp (by omega), nI_clamp (by omega)] at hk2
  rw [pk_mul, nI_add, nI_clamp (by omega), g2 i j (by omega) (by omega)]
  exact ⟨vN (by omega) (by omega), PI.mk rfl hk2⟩
theorem PL.mk {K : Int64 → Mem → Prop} {M : Mem} {v w : Int64} (e : v = w) (h : K w M) : PL K (some (.long v)) M := ⟨v, rfl, e ▸ h⟩
def NOv : Int64 := -4611686018427387904
def pSays (σ : St) (a b : Int32) : Int64 := if tB σ a = true then (if tB σ b = true then (if a = b then NOv else (nearV σ (oW σ) a.toNatClampNeg b.toNatClampNeg).toInt64) else NOv) else NOv
theorem sX_says {d : Nat} {σ : St} {a b : Int32} {M : Mem} {K : Int64 → Mem → Prop} (hw : WF σ) (hx : XA σ M) (h : ∀ M2, SX σ M M2 → K (pSays σ a b) M2) : Con (d + 4) m_MD_says 0 0 [.ref 0, .int a, .int b] M (PL K) := by
  obtain ⟨hF, hL, -, -, hT, -⟩ := id hx
  have h6 := hw.T6
  have hk := h M (SX.rf hx)
  unfold pSays tB at hk h
  refine Con.of (lo := [some (.ref 0), some (.int a), some (.int b)]) F_MD_says.1 rfl (Nat.le_of_ble_eq_true rfl) (k_MD_says_0 hF ?_)
  refine sx_townC hw hF hL (fun q => ⟨hF, fun _ => PL.mk (by rw [q]; rfl) hk, (fun z => nomatch z)⟩) (fun i hi e q => ⟨hF, (fun z => nomatch z), fun _ => ?_⟩)
  refine sx_townC hw hF hL (fun q2 => ⟨hF, fun _ => PL.mk (by rw [q, q2]; rfl) hk, (fun z => nomatch z)⟩) (fun j hj e2 q2 => ⟨hF, (fun z => nomatch z), fun _ => ⟨fun z => ?_, fun z => PL.mk (by rw [q, q2, if_pos z]; rfl) hk⟩⟩)
  subst e e2
  rw [hL.2.1]
  refine sx_nearSays hF hw hL hT hi hj (fun M2 hF2 f2 => ⟨hF2, PL.mk ?_ (h M2 (hx.q hw f2 hF2 rfl rfl))⟩)
  rw [if_pos q, if_pos q2, if_neg z, nI_clamp (by omega), nI_clamp (by omega)]
theorem sM_says {d : Nat} {σ : St} {a b : Int32} {M : Mem} {K : Int64 → Mem → Prop} (hw : WF σ) (hm : MA σ M) (h : ∀ M2, SM σ M M2 → K (pSays σ a b) M2) : Con (d + 4) m_MM_says 0 0 [.ref 78, .int a, .int b] M (PL K) := by
  obtain ⟨hF, _, hL, -, -, hT, -⟩ := id hm
  have h6 := hw.T6
  have hk := h M (SM.rf hm)
  unfold pSays tB at hk h
  refine Con.of (lo := [some (.ref 78), some (.int a), some (.int b)]) F_MM_says.1 rfl (Nat.le_of_ble_eq_true rfl) (k_MM_says_0 hF ?_)
  refine sm_townC hw hF hL (fun q => ⟨hF, fun _ => PL.mk (by rw [q]; rfl) hk, (fun z => nomatch z)⟩) (fun i hi e q => ⟨hF, (fun z => nomatch z), fun _ => ?_⟩)
  refine sm_townC hw hF hL (fun q2 => ⟨hF, fun _ => PL.mk (by rw [q, q2]; rfl) hk, (fun z => nomatch z)⟩) (fun j hj e2 q2 => ⟨hF, (fun z => nomatch z), fun _ => ⟨fun z => ?_, fun z => PL.mk (by rw [q, q2, if_pos z]; rfl) hk⟩⟩)
  subst e e2
  refine sm_spreads hF hL.1 h6 (fun a b => hw.rd a b) hL.2.2.2.2.2.1 (fun M2 hF2 f2 g2 => ⟨hF2, ?_⟩)
  have fM := f2.M hF rfl
  refine sm_nearOf hF2 hw (hL.fr fM) (hT.fr fM) g2 hi hj (fun M3 hF3 f3 => ⟨hF3, PL.mk ?_ (h M3 (hm.q ((f2.wk (L2 := [103, 106, 107]) (R2 := []) (by simp) (by simp)).tr (f3.wk (by simp) (by simp))) hF3 rfl))⟩)
  rw [if_pos q, if_pos q2, if_neg z, nI_clamp (by omega), nI_clamp (by omega)]
def pWorthOf (σ : St) (t e hh o : Int32) : Int64 := if tB σ t = true then (if isB 0 ((oW σ : Int) - 1) e = true then (if isB 0 99 hh = true then (if isB 0 6 o = true then (worthV σ t.toNatClampNeg e.toNatClampNeg hh.toNatClampNeg o.toNatClampNeg).toInt64 else NOv) else NOv) else NOv) else NOv
theorem sX_worthOf {d : Nat} {σ : St} {t e hh o : Int32} {M : Mem} {K : Int64 → Mem → Prop} (hw : WF σ) (hx : XA σ M) (h : ∀ M2, SX σ M M2 → K (pWorthOf σ t e hh o) M2) : Con (d + 4) m_MD_worthOf 0 0 [.ref 0, .int t, .int e, .int hh, .int o] M (PL K) := by
  obtain ⟨hF, hL, -, -, hT, -⟩ := id hx
  have h6 := hw.T6
  obtain ⟨w1, w2⟩ := hw.W
  have hk := h M (SX.rf hx)
  unfold pWorthOf tB at hk h
  refine Con.of (lo := [some (.ref 0), some (.int t), some (.int e), some (.int hh), some (.int o)]) F_MD_worthOf.1 rfl (Nat.le_of_ble_eq_true rfl) (k_MD_worthOf_0 hF ?_)
  refine sx_townC hw hF hL (fun q => ⟨hF, fun _ => PL.mk (by rw [q]; rfl) hk, (fun z => nomatch z)⟩) (fun i hi ei q => ⟨hF, (fun z => nomatch z), fun _ => ?_⟩)
  rw [hL.2.1]
  rw [if_pos q] at hk h
  simp only [i_lt, i_le, i_0, nI_toInt (show oW σ < 2 ^ 31 by omega), nI_toInt (show 99 < 2 ^ 31 by decide), nI_toInt (show 6 < 2 ^ 31 by decide)]
  refine ⟨fun z => PL.mk ?_ hk, fun z => ⟨fun z2 => ⟨fun z3 => PL.mk ?_ hk, fun z3 => ⟨fun z4 => PL.mk ?_ hk, fun z4 => ⟨fun z5 => PL.mk ?_ hk, fun z5 => ⟨fun z6 => ?_, fun z6 => PL.mk ?_ hk⟩⟩⟩⟩, fun z2 => PL.mk ?_ hk⟩⟩
  · rw [if_neg (by rw [isB_t]; omega)]; rfl
  · rw [if_pos (by rw [isB_t]; omega), if_neg (by rw [isB_t]; omega)]; rfl
  · rw [if_pos (by rw [isB_t]; omega), if_neg (by rw [isB_t]; omega)]; rfl
  · rw [if_pos (by rw [isB_t]; omega), if_pos (by rw [isB_t]; omega), if_neg (by rw [isB_t]; omega)]; rfl
  · obtain ⟨e2, he2, rfl⟩ : ∃ k, k < 100 ∧ e = nI k := i_of (by omega) (by omega) (by omega)
    obtain ⟨h2, hh2, rfl⟩ : ∃ k, k < 100 ∧ hh = nI k := i_of (by omega) (by omega) (by omega)
    obtain ⟨o2, ho2, rfl⟩ : ∃ k, k < 100 ∧ o = nI k := i_of (by omega) (by omega) (by omega)
    subst ei
    refine sx_worthOfDay hF hw hL hT hi (fun M2 hF2 f2 => ⟨hF2, PL.mk ?_ (h M2 (hx.q hw f2 hF2 rfl rfl))⟩)
    rw [if_pos (by rw [isB_t]; omega), if_pos (by rw [isB_t]; omega), if_pos (by rw [isB_t]; omega), nI_clamp (by omega), nI_clamp (by omega), nI_clamp (by omega), nI_clamp (by omega)]
  · rw [if_pos (by rw [isB_t]; omega), if_pos (by rw [isB_t]; omega), if_neg (by rw [isB_t]; omega)]; rfl
  · rw [if_neg (by rw [isB_t]; omega)]; rfl
theorem sm_inC {d b : Nat} {v : Int32} {M : Mem} {K : Bool → Mem → Prop} (hF : Fm M) (hb : b < 2 ^ 30) (h0 : isB 0 ((b : Int) - 1) v = false → K false M) (h1 : ∀ k, k < b → v = nI k → isB 0 ((b : Int) - 1) v = true → K true M) : Con (d + 1) m_MM_in 0 0 [.int v, .int (nI 0), .int (nI b - nI 1)] M (PB K) := by
  refine sm_in1 hF hb ?_
  cases q : isB 0 ((b : Int) - 1) v with
  | true =>
    obtain ⟨k, hk, e⟩ := isB_k q (by omega)
    exact h1 k hk e q
  | false => exact h0 q
theorem sm_inD {d b : Nat} {v : Int32} {M : Mem} {K : Bool → Mem → Prop} (hF : Fm M) (hb : b < 2 ^ 30) (h0 : isB 0 b v = false → K false M) (h1 : ∀ k, k ≤ b → v = nI k → isB 0 b v = true → K true M) : Con (d + 1) m_MM_in 0 0 [.int v, .int (nI 0), .int (nI b)] M (PB K) := by
  refine sm_in0 hF (by omega) ?_
  cases q : isB 0 b v with
  | true =>
    rw [isB_t] at q
    obtain ⟨k, hk, e⟩ : ∃ k, k < b + 1 ∧ v = nI k := i_of (by omega) (by omega) (by omega)
    exact h1 k (by omega) e (isB_t.mpr q)
  | false => exact h0 q
theorem sM_worthOf {d : Nat} {σ : St} {t e hh o : Int32} {M : Mem} {K : Int64 → Mem → Prop} (hw : WF σ) (hm : MA σ M) (h : ∀ M2, SM σ M M2 → K (pWorthOf σ t e hh o) M2) : Con (d + 4) m_MM_worthOf 0 0 [.ref 78, .int t, .int e, .int hh, .int o] M (PL K) := by
  obtain ⟨hF, _, hL, -, -, hT, -⟩ := id hm
  have h6 := hw.T6
  obtain ⟨w1, w2⟩ := hw.W
  have hk := h M (SM.rf hm)
  unfold pWorthOf tB at hk h
  refine Con.of (lo := [some (.ref 78), some (.int t), some (.int e), some (.int hh), some (.int o)]) F_MM_worthOf.1 rfl (Nat.le_of_ble_eq_true rfl) (k_MM_worthOf_0 hF ?_)
  refine sm_townC hw hF hL (fun q => ⟨hF, fun _ => PL.mk (by rw [q]; rfl) hk, (fun z => nomatch z)⟩) (fun i hi ei q => ⟨hF, (fun z => nomatch z), fun _ => ?_⟩)
  rw [hL.2.1]
  rw [if_pos q] at hk h
  refine sm_inC hF (by omega) (fun q2 => ⟨hF, fun _ => PL.mk (by rw [q2]; rfl) hk, (fun z => nomatch z)⟩) (fun e2 he2 ee q2 => ⟨hF, (fun z => nomatch z), fun _ => ?_⟩)
  rw [if_pos q2] at hk h
  refine sm_inD hF (by omega) (fun q3 => ⟨hF, fun _ => PL.mk (by rw [show ((99 : Nat) : Int) = 99 from rfl] at q3; rw [q3]; rfl) hk, (fun z => nomatch z)⟩) (fun h2 hh2 eh q3 => ⟨hF, (fun z => nomatch z), fun _ => ?_⟩)
  rw [show ((99 : Nat) : Int) = 99 from rfl] at q3
  rw [if_pos q3] at hk h
  refine sm_inD hF (by omega) (fun q4 => ⟨hF, fun _ => PL.mk (by rw [show ((6 : Nat) : Int) = 6 from rfl] at q4; rw [q4]; rfl) hk, (fun z => nomatch z)⟩) (fun o2 ho2 eo q4 => ⟨hF, (fun z => nomatch z), fun _ => ?_⟩)
  rw [show ((6 : Nat) : Int) = 6 from rfl] at q4
  rw [if_pos q4] at h
  subst ei ee eh eo
  refine sm_worthBy hF hw hL hT hi (fun M2 hF2 f2 => ⟨hF2, PL.mk ?_ (h M2 (hm.q f2 hF2 rfl))⟩)
  rw [nI_clamp (by omega), nI_clamp (by omega), nI_clamp (by omega), nI_clamp (by omega)]
