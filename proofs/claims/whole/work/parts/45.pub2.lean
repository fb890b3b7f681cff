/-! calls that ask of a giving: marketOf, bar, judge, lawful -/
def gtw {α : Type} (σ : St) (g t w : Int32) (c : α) (v : Nat × List Nat → Nat → Nat → α) : α := match givAt σ g with
  | none => c
  | some gv => if tB σ t = true then (if isB 0 99 w = true then v gv t.toNatClampNeg w.toNatClampNeg else c) else c
def gw {α : Type} (σ : St) (g w : Int32) (c : α) (v : Nat × List Nat → Nat → α) : α := match givAt σ g with
  | none => c
  | some gv => if isB 0 99 w = true then v gv w.toNatClampNeg else c
section GTW
variable {α : Type} {σ : St} {g t w : Int32} {c : α} {v : Nat × List Nat → Nat → Nat → α} {u : Nat × List Nat → Nat → α} {gv : Nat × List Nat} {i j : Nat}
theorem gtw_0 (h : givAt σ g = none) : gtw σ g t w c v = c := by unfold gtw; rw [h]
theorem gtw_1 (h : givAt σ g = some gv) (h1 : isB 0 ((oT σ : Int) - 1) t = false) : gtw σ g t w c v = c := by unfold gtw tB; rw [h, h1]; rfl
theorem gtw_2 (h : givAt σ g = some gv) (h1 : isB 0 ((oT σ : Int) - 1) t = true) (h2 : isB 0 99 w = false) : gtw σ g t w c v = c := by unfold gtw tB; rw [h, h1, h2]; rfl
theorem gtw_3 (h : givAt σ g = some gv) (h1 : isB 0 ((oT σ : Int) - 1) (nI i) = true) (h2 : isB 0 99 (nI j) = true) (hi : i < 6) (hj : j < 100) : gtw σ g (nI i) (nI j) c v = v gv i j := by
  unfold gtw tB
  rw [h, h1, h2, nI_clamp (by omega), nI_clamp (by omega)]
  rfl
theorem gw_0 (h : givAt σ g = none) : gw σ g w c u = c := by unfold gw; rw [h]
theorem gw_2 (h : givAt σ g = some gv) (h2 : isB 0 99 w = false) : gw σ g w c u = c := by unfold gw; rw [h, h2]; rfl
theorem gw_3 (h : givAt σ g = some gv) (h2 : isB 0 99 (nI j) = true) (hj : j < 100) : gw σ g (nI j) c u = u gv j := by
  unfold gw
  rw [h, h2, nI_clamp (by omega)]
  rfl
end GTW
def pMarketOf (σ : St) (g t w : Int32) : Int32 := gtw σ g t w (-5) (fun gv t w => nI (marketV σ gv t w))
theorem sX_marketOf {d : Nat} {σ : St} {g t w : Int32} {M : Mem} {K : Int32 → Mem → Prop} (hw : WF σ) (hx : XA σ M) (h : ∀ M2, SX σ M M2 → K (pMarketOf σ g t w) M2) : Con (d + 4) m_MD_marketOf 0 0 [.ref 0, .int g, .int t, .int w] M (PI K) := by
  obtain ⟨hF, hL, -, -, -, hG, -⟩ := id hx
  have h6 := hw.T6
  have hk := h M (SX.rf hx)
  unfold pMarketOf at hk
  refine Con.ent (k := 1) F_MD_marketOf.1 rfl (Nat.le_of_ble_eq_true rfl) (k_MD_marketOf_0 hF ?_)
  refine sx_givC hw hF hG (fun q => ⟨hF, fun _ => PI.mk (gtw_0 q).symm hk, (fun _ z => nomatch z)⟩) (fun i gv p e hg q hgx => ⟨hF, (fun z => nomatch z), fun a2 ea => ?_⟩)
  cases ea
  refine sx_townC hw hF hL (fun q2 => ⟨hF, fun _ => PI.mk (gtw_1 q q2).symm hk, (fun z => nomatch z)⟩) (fun j hj ej q2 => ⟨hF, (fun z => nomatch z), fun _ => ?_⟩)
  refine sx_weekC hF (fun q3 => ⟨hF, (fun z => nomatch z), fun _ => PI.mk (gtw_2 q q2 q3).symm hk⟩) (fun k hkk ek q3 => ⟨hF, fun _ => ⟨hgx.2.1, ?_⟩, (fun z => nomatch z)⟩)
  subst ej ek
  exact sx_marketIn hF hw hL hgx (hw.gv hg).2 (by omega) hkk ⟨hF, PI.mk (by rw [gtw_3 q q2 q3 (by omega) hkk]) hk⟩
theorem sM_marketOf {d : Nat} {σ : St} {g t w : Int32} {M : Mem} {K : Int32 → Mem → Prop} (hw : WF σ) (hm : MA σ M) (h : ∀ M2, SM σ M M2 → K (pMarketOf σ g t w) M2) : Con (d + 4) m_MM_marketOf 0 0 [.ref 78, .int g, .int t, .int w] M (PI K) := by
  obtain ⟨hF, -, hL, -, -, -, hG, -⟩ := id hm
  have h6 := hw.T6
  have hk := h M (SM.rf hm)
  unfold pMarketOf at hk
  refine Con.of (lo := [some (.ref 78), some (.int g), some (.int t), some (.int w)]) F_MM_marketOf.1 rfl (Nat.le_of_ble_eq_true rfl) (k_MM_marketOf_0 hF ?_)
  refine sm_givC hw hF hG (fun q => ⟨hF, fun _ => PI.mk (gtw_0 q).symm hk, (fun z => nomatch z)⟩) (fun i gv e hg q hgm => ⟨hF, (fun z => nomatch z), fun _ => ?_⟩)
  refine sm_townC hw hF hL (fun q2 => ⟨hF, fun _ => PI.mk (gtw_1 q q2).symm hk, (fun z => nomatch z)⟩) (fun j hj ej q2 => ⟨hF, (fun z => nomatch z), fun _ => ?_⟩)
  refine sm_weekC hF (fun q3 => ⟨hF, fun _ => PI.mk (gtw_2 q q2 q3).symm hk, (fun z => nomatch z)⟩) (fun k hkk ek q3 => ⟨hF, (fun z => nomatch z), fun _ => ?_⟩)
  subst e ej ek
  exact sm_market hF hw hL hgm (hw.gv hg).1 (hw.gv hg).2 (by omega) hkk ⟨hF, PI.mk (by rw [gtw_3 q q2 q3 (by omega) hkk]) hk⟩
/-- x with all markets of one giving in one week laid -/
theorem sx_openG {d p w : Nat} {σ : St} {g : Nat × List Nat} {M : Mem} {K : Mem → Prop} (hw : WF σ) (hF : Fx M) (hL : XLand σ M) (hT : XText σ M) (hg : GivX M p g) (hgw : GivW (oT σ) g) (hww : w < 100) (h : ∀ M2, Fx M2 → FrG [52] [51] M M2 → FXG σ (fun t => marketV σ g t w) p g M2 → K M2) : Con (d + 4) m_Fair_open 0 0 [.ref 51, .ref p, .int (nI w)] M (PV K) := by
  refine sx_open hF hw hL hg hgw hww (fun M2 hF2 f2 h51 hm => h M2 hF2 f2 ⟨⟨hF2, ?_, ?_, hm⟩, h51, hg.fr (f2.X rfl rfl)⟩)
  · exact hL.fr (f2.X rfl rfl) hF hw.T6
  · exact hT.fr (f2.X rfl rfl) hF
def pBar (σ : St) (g w : Int32) : Int32 := gw σ g w (-5) (fun gv w => fbV σ (fun t => marketV σ gv t w))
theorem fx_wk {M M2 M3 : Mem} {L R L2 R2 L3 R3 : List Nat} (f : FrG L R M M2) (g : FrG L2 R2 M2 M3) (h1 : ∀ j ∈ L, j ∈ L3) (h2 : ∀ j ∈ R, j ∈ R3) (h3 : ∀ j ∈ L2, j ∈ L3) (h4 : ∀ j ∈ R2, j ∈ R3) : FrG L3 R3 M M3 := (f.wk h1 h2).tr (g.wk h3 h4)
theorem sX_bar {d : Nat} {σ : St} {g w : Int32} {M : Mem} {K : Int32 → Mem → Prop} (hw : WF σ) (hx : XA σ M) (h : ∀ M2, SX σ M M2 → K (pBar σ g w) M2) : Con (d + 6) m_MD_bar 0 0 [.ref 0, .int g, .int w] M (PI K) := by
  obtain ⟨hF, hL, -, -, hT, hG, -⟩ := id hx
  have h6 := hw.T6
  have hk := h M (SX.rf hx)
  unfold pBar at hk h
  refine Con.ent (k := 1) F_MD_bar.1 rfl (Nat.le_of_ble_eq_true rfl) (k_MD_bar_0 hF ?_)
  refine sx_givC hw hF hG (fun q => ⟨hF, fun _ => PI.mk (gw_0 q).symm hk, (fun _ z => nomatch z)⟩) (fun i gv p e hg q hgx => ⟨hF, (fun z => nomatch z), fun a2 ea => ?_⟩)
  cases ea
  refine sx_weekC hF (fun q3 => ⟨hF, (fun z => nomatch z), fun _ => PI.mk (gw_2 q q3).symm hk⟩) (fun k hkk ek q3 => ⟨hF, fun _ => ?_, (fun z => nomatch z)⟩)
  subst ek
  refine sx_openG hw hF hL hT hgx (hw.gv hg).2 hkk (fun M2 hF2 f2 hx2 => ⟨hF2, ?_⟩)
  refine sx_firstBar hw hx2.1 (fun t => marketV_lt hw) (fun M3 hx3 f3 => ⟨hx3.1, PI.mk ?_ (h M3 (hx.q hw (fx_wk (L3 := [48, 49, 52]) (R3 := [51]) f2 f3 (by simp) (by simp) (by simp) (by simp)) hx3.1 rfl rfl))⟩)
  rw [gw_3 q q3 hkk]
/-- m with all markets of one giving in one week laid, near looked up -/
theorem sm_layG {d i w : Nat} {σ : St} {g : Nat × List Nat} {M : Mem} {K : Mem → Prop} (hw : WF σ) (hF : Fm M) (hL : MLand σ M) (hT : MText σ M) (h108 : G108 σ M (oT σ) 0) (hg : GivM M i g) (hi : i < 12) (hgw : GivW (oT σ) g) (hww : w < 100) (h : ∀ M2, FrG [109] [] M M2 → FM σ (fun t => marketV σ g t w) M2 → GivM M2 i g → K M2) : Con (d + 4) m_MM_laysNow 0 0 [.ref 78, .int (nI i), .int (nI w)] M (PV K) := by
  refine sm_laysNow hF hw hL hg hi hgw hww (fun M2 hF2 f2 hm => ?_)
  have fM := f2.M hF rfl
  refine h M2 f2 ⟨hF2, hL.fr fM, hT.fr fM, hm, ?_⟩ (hg.fr fM)
  unfold G108
  rw [f2.row (by have := hF.len; omega) (by decide)]
  exact h108
theorem sM_bar {d : Nat} {σ : St} {g w : Int32} {M : Mem} {K : Int32 → Mem → Prop} (hw : WF σ) (hm : MA σ M) (h : ∀ M2, SM σ M M2 → K (pBar σ g w) M2) : Con (d + 5) m_MM_bar 0 0 [.ref 78, .int g, .int w] M (PI K) := by
  obtain ⟨hF, -, hL, -, -, hT, hG, -⟩ := id hm
  have h6 := hw.T6
  have hk := h M (SM.rf hm)
  unfold pBar at hk h
  refine Con.of (lo := [some (.ref 78), some (.int g), some (.int w)]) F_MM_bar.1 rfl (Nat.le_of_ble_eq_true rfl) (k_MM_bar_0 hF ?_)
  refine sm_givC hw hF hG (fun q => ⟨hF, fun _ => PI.mk (gw_0 q).symm hk, (fun z => nomatch z)⟩) (fun i gv e hg q hgm => ⟨hF, (fun z => nomatch z), fun _ => ?_⟩)
  refine sm_weekC hF (fun q3 => ⟨hF, (fun z => nomatch z), fun _ => PI.mk (gw_2 q q3).symm hk⟩) (fun k hkk ek q3 => ⟨hF, fun _ => ?_, (fun z => nomatch z)⟩)
  subst e ek
  refine sm_looks hF hw hL hT (fun M2 hF2 f2 g103 g108 => ⟨hF2, ?_⟩)
  have fM := f2.M hF rfl
  refine sm_layG hw hF2 (hL.fr fM) (hT.fr fM) g108 (hgm.fr fM) (hw.gv hg).1 (hw.gv hg).2 hkk (fun M3 f3 hm3 _ => ⟨hm3.1, ?_⟩)
  refine sm_firstBar hw hm3 (fun t => marketV_lt hw) ⟨hm3.1, PI.mk ?_ (h M3 (hm.q (fx_wk (L3 := [103, 106, 107, 108, 109]) (R3 := []) f2 f3 (by simp) (by simp) (by simp) (by simp)) hm3.1 rfl))⟩
  rw [gw_3 q q3 hkk]
def pJudge (σ : St) (g w t : Int32) : Int64 := gw σ g w NOv (fun gv w => if t = -1 then (allV σ gv.1 (fun t => marketV σ gv t w) (-1)).toInt64 else if tB σ t = true then (townV σ gv.1 (fun t => marketV σ gv t w) t.toNatClampNeg).toInt64 else NOv)
theorem sX_judge {d : Nat} {σ : St} {g w t : Int32} {M : Mem} {K : Int64 → Mem → Prop} (hw : WF σ) (hx : XA σ M) (h : ∀ M2, SX σ M M2 → K (pJudge σ g w t) M2) : Con (d + 6) m_MD_judge 0 0 [.ref 0, .int g, .int w, .int t] M (PL K) := by
  obtain ⟨hF, hL, -, -, hT, hG, -⟩ := id hx
  have h6 := hw.T6
  have hk := h M (SX.rf hx)
  unfold pJudge at hk h
  refine Con.ent (k := 1) F_MD_judge.1 rfl (Nat.le_of_ble_eq_true rfl) (k_MD_judge_0 hF ?_)
  refine sx_givC hw hF hG (fun q => ⟨hF, fun _ => PL.mk (gw_0 q).symm hk, (fun _ z => nomatch z)⟩) (fun i gv p e hg q hgx => ⟨hF, (fun z => nomatch z), fun a2 ea => ?_⟩)
  cases ea
  refine sx_weekC hF (fun q3 => ⟨hF, fun _ => PL.mk (gw_2 q q3).symm hk, (fun z => nomatch z)⟩) (fun k hkk ek q3 => ⟨hF, (fun z => nomatch z), fun _ => ?_⟩)
  subst ek
  rw [gw_3 q q3 hkk] at hk h
  have hg5 := (hw.gv hg).2.1
  have s39 : (t = -1 ∨ ∃ j, j < oT σ ∧ t = nI j ∧ isB 0 ((oT σ : Int) - 1) t = true) → Ex (d + 6) m_MD_judge 0 0 39 [some (.ref 0), some (.int g), some (.int (nI k)), some (.int t), some (.ref p)] [] M (PL K) := by
    intro ht
    refine k_MD_judge_39 hF ?_
    refine sx_openG hw hF hL hT hgx (hw.gv hg).2 hkk (fun M2 hF2 f2 hx2 => ⟨hF2, fun z => ?_, fun z => ?_⟩)
    · rcases ht with ht | ⟨j, hj, ej, q2⟩
      · exact absurd ht z
      · subst ej
        refine sx_worthOfTown hw hx2 (fun t => marketV_lt hw) hg5 hj (fun M3 hx3 f3 => ⟨hx3.1.1, PL.mk ?_ (h M3 (hx.q hw (fx_wk (L3 := [48, 49, 52]) (R3 := [51]) f2 f3 (by simp) (by simp) (by simp) (by simp)) hx3.1.1 rfl rfl))⟩)
        rw [if_neg z, if_pos (by exact q2), nI_clamp (by omega)]
    · refine sx_worthAll hw hx2 (fun t => marketV_lt hw) hg5 (fun M3 hx3 f3 => ⟨hx3.1.1, PL.mk ?_ (h M3 (hx.q hw (fx_wk (L3 := [48, 49, 52]) (R3 := [51]) f2 f3 (by simp) (by simp) (by simp) (by simp)) hx3.1.1 rfl rfl))⟩)
      rw [if_pos z]
  refine ⟨fun z => s39 (.inl z), fun z => ?_⟩
  refine sx_townC hw hF hL (fun q2 => ⟨hF, (fun z => nomatch z), fun _ => PL.mk ?_ hk⟩) (fun j hj ej q2 => ⟨hF, fun _ => s39 (.inr ⟨j, hj, ej, q2⟩), (fun z => nomatch z)⟩)
  unfold tB
  rw [if_neg z, q2]
  rfl
theorem sM_judge {d : Nat} {σ : St} {g w t : Int32} {M : Mem} {K : Int64 → Mem → Prop} (hw : WF σ) (hm : MA σ M) (h : ∀ M2, SM σ M M2 → K (pJudge σ g w t) M2) : Con (d + 7) m_MM_judge 0 0 [.ref 78, .int g, .int w, .int t] M (PL K) := by
  obtain ⟨hF, -, hL, -, -, hT, hG, -⟩ := id hm
  have h6 := hw.T6
  have hk := h M (SM.rf hm)
  unfold pJudge at hk h
  refine Con.of (lo := [some (.ref 78), some (.int g), some (.int w), some (.int t)]) F_MM_judge.1 rfl (Nat.le_of_ble_eq_true rfl) (k_MM_judge_0 hF ?_)
  refine sm_givC hw hF hG (fun q => ⟨hF, fun _ => PL.mk (gw_0 q).symm hk, (fun z => nomatch z)⟩) (fun i gv e hg q hgm => ⟨hF, (fun z => nomatch z), fun _ => ?_⟩)
  refine sm_weekC hF (fun q3 => ⟨hF, fun _ => PL.mk (gw_2 q q3).symm hk, (fun z => nomatch z)⟩) (fun k hkk ek q3 => ⟨hF, (fun z => nomatch z), fun _ => ?_⟩)
  subst e ek
  rw [gw_3 q q3 hkk] at hk h
  have hi := (hw.gv hg).1
  have hg5 := (hw.gv hg).2.1
  have s32 : (t = -1 ∨ ∃ j, j < oT σ ∧ t = nI j ∧ isB 0 ((oT σ : Int) - 1) t = true) → Ex (d + 7) m_MM_judge 0 0 32 [some (.ref 78), some (.int (nI i)), some (.int (nI k)), some (.int t)] [] M (PL K) := by
    intro ht
    refine k_MM_judge_32 hF ?_
    refine sm_spreads hF hL.1 h6 (fun a b => hw.rd a b) hL.2.2.2.2.2.1 (fun M2 hF2 f2 g2 => ⟨hF2, ?_⟩)
    have fM := f2.M hF rfl
    refine sm_laysNow hF2 hw (hL.fr fM) (hgm.fr fM) hi (hw.gv hg).2 hkk (fun M3 hF3 f3 hm3 => ?_)
    have fM3 := f3.M hF2 rfl
    have hn : FN σ (fun t => marketV σ gv t k) M3 := ⟨hF3, (hL.fr fM).fr fM3, (hT.fr fM).fr fM3, hm3, fun x y hx hy => by
      rw [f3.row (by have := hF2.len; omega) (by decide)]
      exact g2 x y hx hy⟩
    have h89 := ((hgm.fr fM).fr fM3).1
    have fr := fx_wk (L3 := [103, 109]) (R3 := []) f2 f3 (by simp) (by simp) (by simp) (by simp)
    rw [nI_clamp (by omega), h89]
    refine ⟨hF3, fun z => ⟨vN (by omega) (by omega), ?_⟩, fun z => ⟨vN (by omega) (by omega), ?_⟩⟩
    · rcases ht with ht | ⟨j, hj, ej, q2⟩
      · exact absurd ht z
      · subst ej
        refine sm_worthIn hw hn (fun t => marketV_lt hw) hg5 hj (fun M4 hx4 f4 => ⟨hx4.1, PL.mk ?_ (h M4 (hm.q (fx_wk (L3 := [103, 106, 107, 109]) (R3 := []) fr f4 (by simp) (by simp) (by simp) (by simp)) hx4.1 rfl))⟩)
        rw [if_neg z, if_pos (by exact q2), nI_clamp (by omega)]
    · refine sm_worthAll hw hn (fun t => marketV_lt hw) hg5 (fun M4 hx4 f4 => ⟨hx4.1, PL.mk ?_ (h M4 (hm.q (fx_wk (L3 := [103, 106, 107, 109]) (R3 := []) fr f4 (by simp) (by simp) (by simp) (by simp)) hx4.1 rfl))⟩)
      rw [if_pos z]
  refine ⟨fun z => s32 (.inl z), fun z => ?_⟩
  refine sm_townC hw hF hL (fun q2 => ⟨hF, (fun z => nomatch z), fun _ => PL.mk ?_ hk⟩) (fun j hj ej q2 => ⟨hF, fun _ => s32 (.inr ⟨j, hj, ej, q2⟩), (fun z => nomatch z)⟩)
  unfold tB
  rw [if_neg z, q2]
  rfl
