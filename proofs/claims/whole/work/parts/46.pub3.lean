/-! calls that ask of a giving: lawful, hurt, room -/
def lawP (σ : St) (gv : Nat × List Nat) (i : Nat) : Bool := decide (fbV σ (fun t => marketV σ gv t i) = -1)
def pLawful (σ : St) (g w : Int32) : Int32 := gw σ g w (-5) (fun gv w => nI (cntLT (lawP σ gv) (w + 1)))
theorem XA.fr2 {σ : St} {L R : List Nat} {M M2 : Mem} (hx : XA σ M) (hw : WF σ) (f : FrG L R M M2) (hF2 : Fx M2) (hL : L.all sxr = true) (hR : R.all rxr = true) : XA σ M2 := hx.fr hw.T6 (f.X hL hR) hF2
section LAX
variable {d bc bs p w : Nat} {g : Int32} {σ : St} {gv : Nat × List Nat} {M0 : Mem} {K : Int32 → Mem → Prop}
theorem lax26 (hw : WF σ) (hx : XA σ M0) (hg : GivX M0 p gv) (hgw : GivW (oT σ) gv) (hww : w < 100) (h : ∀ M2, Fx M2 → FrG [48, 49, 52] [51] M0 M2 → K (nI (cntLT (lawP σ gv) (w + 1))) M2) :
    ∀ (n i : Nat) (M : Mem), i + n = w + 1 → Fx M → FrG [48, 49, 52] [51] M0 M → Ex (d + 6) m_MD_lawful bc bs 26 [some (.ref 0), some (.int g), some (.int (nI w)), some (.ref p), some (.int (nI (cntLT (lawP σ gv) i))), some (.int (nI i))] [] M (PI K) := by
  intro n
  induction n with
  | zero =>
    intro i M hi hF hfr
    obtain rfl : i = w + 1 := by omega
    refine k_MD_lawful_26 hF ⟨fun _ => PI.mk rfl (h M hF hfr), fun q => absurd ?_ q⟩
    rw [nI_ltI (by omega) (by omega)]; omega
  | succ n ih =>
    intro i M hi hF hfr
    have hX := hfr.X rfl rfl
    obtain ⟨-, hL, -, -, hT, -⟩ := hx.fr hw.T6 hX hF
    have hc := cnt_le (lawP σ gv) i
    refine k_MD_lawful_26 hF ⟨fun q => absurd q (by rw [nI_ltI (by omega) (by omega)]; omega), fun _ => ?_⟩
    refine sx_openG hw hF hL hT (hg.fr hX) hgw (by omega) (fun M2 hF2 f2 hx2 => ⟨hF2, ?_⟩)
    refine sx_firstBar hw hx2.1 (fun t => marketV_lt hw) (fun M3 hx3 f3 => ⟨hx3.1, ?_⟩)
    have ih2 := ih (i + 1) M3 (by omega) hx3.1 (hfr.tr (fx_wk f2 f3 (by simp) (by simp) (by simp) (by simp)))
    rw [cnt_s] at ih2
    rw [nI_add, nI_add]
    refine ⟨fun z => ?_, fun z => ?_⟩
    · rwa [if_neg (by unfold lawP; rw [decide_eq_false z]; decide)] at ih2
    · rwa [if_pos (by unfold lawP; rw [decide_eq_true z])] at ih2
end LAX
theorem sX_lawful {d : Nat} {σ : St} {g w : Int32} {M : Mem} {K : Int32 → Mem → Prop} (hw : WF σ) (hx : XA σ M) (h : ∀ M2, SX σ M M2 → K (pLawful σ g w) M2) : Con (d + 6) m_MD_lawful 0 0 [.ref 0, .int g, .int w] M (PI K) := by
  obtain ⟨hF, hL, -, -, hT, hG, -⟩ := id hx
  have hk := h M (SX.rf hx)
  unfold pLawful at hk h
  refine Con.ent (k := 3) F_MD_lawful.1 rfl (Nat.le_of_ble_eq_true rfl) (k_MD_lawful_0 hF ?_)
  refine sx_givC hw hF hG (fun q => ⟨hF, fun _ => PI.mk (gw_0 q).symm hk, (fun _ z => nomatch z)⟩) (fun i gv p e hg q hgx => ⟨hF, (fun z => nomatch z), fun a2 ea => ?_⟩)
  cases ea
  refine sx_weekC hF (fun q3 => ⟨hF, (fun z => nomatch z), fun _ => PI.mk (gw_2 q q3).symm hk⟩) (fun k hkk ek q3 => ⟨hF, fun _ => ?_, (fun z => nomatch z)⟩)
  subst ek
  rw [gw_3 q q3 hkk] at h
  exact lax26 hw hx hgx (hw.gv hg).2 hkk (fun M2 hF2 f2 => h M2 (hx.q hw f2 hF2 rfl rfl)) (k + 1) 0 M (by omega) hF (FrG.rf _ _)
section LAM
variable {d bc bs i w : Nat} {σ : St} {gv : Nat × List Nat} {M0 : Mem} {K : Int32 → Mem → Prop}
theorem lam27 (hw : WF σ) (hm : MA σ M0) (h108 : G108 σ M0 (oT σ) 0) (hg : GivM M0 i gv) (hi : i < 12) (hgw : GivW (oT σ) gv) (hww : w < 100) (h : ∀ M2, Fm M2 → FrG [109] [] M0 M2 → K (nI (cntLT (lawP σ gv) (w + 1))) M2) :
    ∀ (n v : Nat) (M : Mem), v + n = w + 1 → Fm M → FrG [109] [] M0 M → Ex (d + 5) m_MM_lawful bc bs 27 [some (.ref 78), some (.int (nI i)), some (.int (nI w)), some (.int (nI (cntLT (lawP σ gv) v))), some (.int (nI v))] [] M (PI K) := by
  intro n
  induction n with
  | zero =>
    intro v M hv hF hfr
    obtain rfl : v = w + 1 := by omega
    refine k_MM_lawful_27 hF ⟨fun _ => PI.mk rfl (h M hF hfr), fun q => absurd ?_ q⟩
    rw [nI_ltI (by omega) (by omega)]; omega
  | succ n ih =>
    intro v M hv hF hfr
    have fM := hfr.M hm.1 rfl
    obtain ⟨-, -, hL, -, -, hT, -⟩ := hm.fr fM hF
    have hc := cnt_le (lawP σ gv) v
    have g108 : G108 σ M (oT σ) 0 := by
      unfold G108
      rw [hfr.row (by have := hm.1.len; omega) (by decide)]
      exact h108
    refine k_MM_lawful_27 hF ⟨fun q => absurd q (by rw [nI_ltI (by omega) (by omega)]; omega), fun _ => ?_⟩
    refine sm_layG hw hF hL hT g108 (hg.fr fM) hi hgw (by omega) (fun M2 f2 hm2 _ => ⟨hm2.1, ?_⟩)
    refine sm_firstBar hw hm2 (fun t => marketV_lt hw) ⟨hm2.1, ?_⟩
    have ih2 := ih (v + 1) M2 (by omega) hm2.1 (hfr.tr f2)
    rw [cnt_s] at ih2
    rw [nI_add, nI_add, nI_add]
    refine ⟨fun z => ?_, fun z => ?_⟩
    · rwa [if_neg (by unfold lawP; rw [decide_eq_false z]; decide)] at ih2
    · rwa [if_pos (by unfold lawP; rw [decide_eq_true z])] at ih2
end LAM
theorem sM_lawful {d : Nat} {σ : St} {g w : Int32} {M : Mem} {K : Int32 → Mem → Prop} (hw : WF σ) (hm : MA σ M) (h : ∀ M2, SM σ M M2 → K (pLawful σ g w) M2) : Con (d + 5) m_MM_lawful 0 0 [.ref 78, .int g, .int w] M (PI K) := by
  obtain ⟨hF, -, hL, -, -, hT, hG, -⟩ := id hm
  have hk := h M (SM.rf hm)
  unfold pLawful at hk h
  refine Con.ent (k := 2) F_MM_lawful.1 rfl (Nat.le_of_ble_eq_true rfl) (k_MM_lawful_0 hF ?_)
  refine sm_givC hw hF hG (fun q => ⟨hF, fun _ => PI.mk (gw_0 q).symm hk, (fun z => nomatch z)⟩) (fun i gv e hg q hgm => ⟨hF, (fun z => nomatch z), fun _ => ?_⟩)
  refine sm_weekC hF (fun q3 => ⟨hF, (fun z => nomatch z), fun _ => PI.mk (gw_2 q q3).symm hk⟩) (fun k hkk ek q3 => ⟨hF, fun _ => ?_, (fun z => nomatch z)⟩)
  subst e ek
  rw [gw_3 q q3 hkk] at h
  refine sm_looks hF hw hL hT (fun M2 hF2 f2 g103 g108 => ⟨hF2, ?_⟩)
  have fM := f2.M hF rfl
  exact lam27 hw (hm.fr fM hF2) g108 (hgm.fr fM) (hw.gv hg).1 (hw.gv hg).2 hkk (fun M3 hF3 f3 => h M3 (hm.q (fx_wk (L3 := [103, 106, 107, 108, 109]) (R3 := []) f2 f3 (by simp) (by simp) (by simp) (by simp)) hF3 rfl)) (k + 1) 0 M2 (by omega) hF2 (FrG.rf _ _)
theorem u1_lt {f : Nat → Nat} {t v : Nat} (hf : ∀ t, f t < 128) (hv : v < 128) : ∀ s, u1 f t v s < 128 := fun s => by
  unfold u1
  split
  · exact hv
  · exact hf s
theorem FX.set {σ : St} {f : Nat → Nat} {M : Mem} (h : FX σ f M) (hw : WF σ) (t v : Nat) : FX σ (u1 f t v) (wi M 52 t (nI v)) := by
  obtain ⟨h1, h2, h3, h4⟩ := h
  have hX := ((FrG.rf (M := M) [52] []).fwi (j := 52) (k := t) (v := nI v) (by decide)).X rfl rfl
  exact ⟨h1.fwi, h2.fr hX h1 hw.T6, h3.fr hX h1, h4.set⟩
theorem FXG.set {σ : St} {f : Nat → Nat} {p : Nat} {g : Nat × List Nat} {M : Mem} (h : FXG σ f p g M) (hw : WF σ) (t v : Nat) : FXG σ (u1 f t v) p g (wi M 52 t (nI v)) :=
  ⟨h.1.set hw t v, h.2.1, h.2.2.fr (((FrG.rf (M := M) [52] []).fwi (j := 52) (k := t) (v := nI v) (by decide)).X rfl rfl)⟩
theorem FM.set {σ : St} {f : Nat → Nat} {M : Mem} (h : FM σ f M) (t v : Nat) : FM σ (u1 f t v) (wi M 109 t (nI v)) := by
  obtain ⟨h1, h2, h3, h4, h5⟩ := h
  have hX := ((FrG.rf (M := M) [109] []).fwi (j := 109) (k := t) (v := nI v) (by decide)).M h1 rfl
  refine ⟨h1.fwi, h2.fr hX, h3.fr hX, h4.set, ?_⟩
  unfold G108
  rw [mi_n (by decide)]
  exact h5
theorem FN.set {σ : St} {f : Nat → Nat} {M : Mem} (h : FN σ f M) (t v : Nat) : FN σ (u1 f t v) (wi M 109 t (nI v)) := by
  obtain ⟨h1, h2, h3, h4, h5⟩ := h
  have hX := ((FrG.rf (M := M) [109] []).fwi (j := 109) (k := t) (v := nI v) (by decide)).M h1 rfl
  refine ⟨h1.fwi, h2.fr hX, h3.fr hX, h4.set, ?_⟩
  unfold F103
  rw [mi_n (by decide)]
  exact h5
def pHurt (σ : St) (g t w : Int32) : Int64 := gtw σ g t w NOv (fun gv t w => (allV σ gv.1 (u1 (fun s => marketV σ gv s w) t 0) (nI t) - allV σ gv.1 (fun s => marketV σ gv s w) (nI t)).toInt64)
theorem sX_hurt {d : Nat} {σ : St} {g t w : Int32} {M : Mem} {K : Int64 → Mem → Prop} (hw : WF σ) (hx : XA σ M) (h : ∀ M2, SX σ M M2 → K (pHurt σ g t w) M2) : Con (d + 6) m_MD_hurt 0 0 [.ref 0, .int g, .int t, .int w] M (PL K) := by
  obtain ⟨hF, hL, -, -, hT, hG, -⟩ := id hx
  have h6 := hw.T6
  have hk := h M (SX.rf hx)
  unfold pHurt at hk h
  refine Con.ent (k := 2) F_MD_hurt.1 rfl (Nat.le_of_ble_eq_true rfl) (k_MD_hurt_0 hF ?_)
  refine sx_givC hw hF hG (fun q => ⟨hF, fun _ => PL.mk (gtw_0 q).symm hk, (fun _ z => nomatch z)⟩) (fun i gv p e hg q hgx => ⟨hF, (fun z => nomatch z), fun a2 ea => ?_⟩)
  cases ea
  refine sx_townC hw hF hL (fun q2 => ⟨hF, fun _ => PL.mk (gtw_1 q q2).symm hk, (fun z => nomatch z)⟩) (fun j hj ej q2 => ⟨hF, (fun z => nomatch z), fun _ => ?_⟩)
  refine sx_weekC hF (fun q3 => ⟨hF, (fun z => nomatch z), fun _ => PL.mk (gtw_2 q q2 q3).symm hk⟩) (fun k hkk ek q3 => ⟨hF, fun _ => ?_, (fun z => nomatch z)⟩)
  subst ej ek
  rw [gtw_3 q q2 q3 (by omega) hkk] at h
  have hg5 := (hw.gv hg).2.1
  refine sx_openG hw hF hL hT hgx (hw.gv hg).2 hkk (fun M2 hF2 f2 hx2 => ⟨hF2, ?_⟩)
  refine sx_worthAll hw hx2 (fun t => marketV_lt hw) hg5 (fun M3 hx3 f3 => ⟨hx3.1.1, ?_⟩)
  refine Con.of (lo := [some (.ref 51), some (.int (nI j))]) F_Fair_close.1 rfl (Nat.le_of_ble_eq_true rfl) (k_Fair_close_0 hx3.1.1 ?_)
  rw [nI_clamp (by omega)]
  have hx4 := hx3.set hw j 0
  have f4 : FrG [52] [] M3 (wi M3 52 j (nI 0)) := (FrG.rf _ _).fwi (by decide)
  refine ⟨vN (by omega) (by omega), rfl, hx4.1.1, ?_⟩
  refine sx_worthAll hw hx4 (u1_lt (fun t => marketV_lt hw) (by decide)) hg5 (fun M5 hx5 f5 => ⟨hx5.1.1, PL.mk rfl (h M5 (hx.q hw (fx_wk (L3 := [48, 49, 52]) (R3 := [51]) (fx_wk (L3 := [48, 49, 52]) (R3 := [51]) f2 f3 (by simp) (by simp) (by simp) (by simp)) (fx_wk (L3 := [48, 49, 52]) (R3 := [51]) f4 f5 (by simp) (by simp) (by simp) (by simp)) (by simp) (by simp) (by simp) (by simp)) hx5.1.1 rfl rfl))⟩)
theorem sM_hurt {d : Nat} {σ : St} {g t w : Int32} {M : Mem} {K : Int64 → Mem → Prop} (hw : WF σ) (hm : MA σ M) (h : ∀ M2, SM σ M M2 → K (pHurt σ g t w) M2) : Con (d + 7) m_MM_hurt 0 0 [.ref 78, .int g, .int t, .int w] M (PL K) := by
  obtain ⟨hF, -, hL, -, -, hT, hG, -⟩ := id hm
  have h6 := hw.T6
  have hk := h M (SM.rf hm)
  unfold pHurt at hk h
  refine Con.ent (k := 1) F_MM_hurt.1 rfl (Nat.le_of_ble_eq_true rfl) (k_MM_hurt_0 hF ?_)
  refine sm_givC hw hF hG (fun q => ⟨hF, fun _ => PL.mk (gtw_0 q).symm hk, (fun z => nomatch z)⟩) (fun i gv e hg q hgm => ⟨hF, (fun z => nomatch z), fun _ => ?_⟩)
  refine sm_townC hw hF hL (fun q2 => ⟨hF, fun _ => PL.mk (gtw_1 q q2).symm hk, (fun z => nomatch z)⟩) (fun j hj ej q2 => ⟨hF, (fun z => nomatch z), fun _ => ?_⟩)
  refine sm_weekC hF (fun q3 => ⟨hF, (fun z => nomatch z), fun _ => PL.mk (gtw_2 q q2 q3).symm hk⟩) (fun k hkk ek q3 => ⟨hF, fun _ => ?_, (fun z => nomatch z)⟩)
  subst e ej ek
  rw [gtw_3 q q2 q3 (by omega) hkk] at h
  have hi := (hw.gv hg).1
  have hg5 := (hw.gv hg).2.1
  refine sm_spreads hF hL.1 h6 (fun a b => hw.rd a b) hL.2.2.2.2.2.1 (fun M2 hF2 f2 g2 => ⟨hF2, ?_⟩)
  have fM := f2.M hF rfl
  refine sm_laysNow hF2 hw (hL.fr fM) (hgm.fr fM) hi (hw.gv hg).2 hkk (fun M3 hF3 f3 hm3 => ?_)
  have fM3 := f3.M hF2 rfl
  have hn : FN σ (fun t => marketV σ gv t k) M3 := ⟨hF3, (hL.fr fM).fr fM3, (hT.fr fM).fr fM3, hm3, fun x y hx hy => by
    rw [f3.row (by have := hF2.len; omega) (by decide)]
    exact g2 x y hx hy⟩
  have hg3 := (hgm.fr fM).fr fM3
  have fr := fx_wk (L3 := [103, 106, 107, 109]) (R3 := []) f2 f3 (by simp) (by simp) (by simp) (by simp)
  rw [nI_clamp (by omega), hg3.1]
  refine ⟨hF3, vN (by omega) (by omega), sm_worthAll hw hn (fun t => marketV_lt hw) hg5 (fun M4 hx4 f4 => ⟨hx4.1, ?_⟩)⟩
  rw [nI_clamp (by omega), (hg3.fr (f4.M hF3 rfl)).1]
  have hx5 := hx4.set j 0
  have f5 : FrG [109] [] M4 (wi M4 109 j (nI 0)) := (FrG.rf _ _).fwi (by decide)
  refine ⟨vN (by omega) (by omega), vN (by omega) (by omega), sm_worthAll hw hx5 (u1_lt (fun t => marketV_lt hw) (by decide)) hg5 (fun M6 hx6 f6 => ⟨hx6.1, PL.mk rfl (h M6 (hm.q (fx_wk (L3 := [103, 106, 107, 109]) (R3 := []) (fx_wk (L3 := [103, 106, 107, 109]) (R3 := []) fr f4 (by simp) (by simp) (by simp) (by simp)) (fx_wk (L3 := [103, 106, 107, 109]) (R3 := []) f5 f6 (by simp) (by simp) (by simp) (by simp)) (by simp) (by simp) (by simp) (by simp)) hx6.1 rfl))⟩)⟩
