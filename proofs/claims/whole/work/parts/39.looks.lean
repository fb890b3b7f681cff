/-! m's looks: which towns are near -/
def nb (σ : St) (W x y : Nat) : Nat := if nearV σ W x y = 0 then 0 else 1
def G108 (σ : St) (M : Mem) (a b : Nat) : Prop := ∀ x y, x < y → y < oT σ → (x < a ∨ x = a ∧ y < b) → mi M 108 (6 * x + y) = nI (nb σ (oW σ) x y) ∧ mi M 108 (6 * y + x) = nI (nb σ (oW σ) x y)
theorem G108.set {σ : St} {M : Mem} {a b : Nat} {v : Nat} (h : G108 σ M a b) (h6 : oT σ ≤ 6) (hab : a < b) (hb : b < oT σ) (hv : nb σ (oW σ) a b = v) : G108 σ (wi (wi M 108 (6 * a + b) (nI v)) 108 (6 * b + a) (nI v)) a (b + 1) := fun x y hxy hy hh => by
  rw [mi_w, mi_w]
  by_cases q : x = a ∧ y = b
  · obtain ⟨rfl, rfl⟩ := q
    rw [hv]
    constructor
    · rw [u1_n (by omega), u1_s]
    · rw [u1_s]
  · rw [u1_n (by omega), u1_n (by omega), u1_n (by omega), u1_n (by omega)]
    exact h x y hxy hy (by omega)
section LOO
variable {d bc bs : Nat} {σ : St} {M0 : Mem} {Φ : Option Value → Mem → Prop}
theorem loo18 {a : Nat} (hF0 : Fm M0) (hw : WF σ) (hL : MLand σ M0) (hT : MText σ M0) (h103 : ∀ x y, x < 6 → y < 6 → mi M0 103 (6 * x + y) = nI (far (oT σ) (oRd σ) x y)) (ha : a < oT σ)
    (H : ∀ M2, Fm M2 → FrG [106, 107, 108] [] M0 M2 → G108 σ M2 (a + 1) 0 → Ex (d + 4) m_MM_looks bc bs 6 [some (.ref 78), some (.int (nI (a + 1))), none] [] M2 Φ) :
    ∀ (n b : Nat) (M : Mem), b + n = oT σ → a < b → Fm M → FrG [106, 107, 108] [] M0 M → G108 σ M a b → Ex (d + 4) m_MM_looks bc bs 18 [some (.ref 78), some (.int (nI a)), some (.int (nI b))] [] M Φ := by
  intro n
  have h6 := hw.T6
  induction n with
  | zero =>
    intro b M hb hab hF hfr hg
    obtain rfl : b = oT σ := by omega
    have hL2 := hL.fr (hfr.M hF0 rfl)
    refine k_MM_looks_18 hF ⟨fun _ => ?_, fun q => absurd ?_ q⟩
    · rw [nI_add]
      exact H M hF hfr (fun x y hxy hy hh => hg x y hxy hy (by omega))
    · rw [hL2.1]; exact nI_le (Nat.le_refl _) (by omega)
  | succ n ih =>
    intro b M hb hab hF hfr hg
    have hX := hfr.M hF0 rfl
    have hL2 := hL.fr hX
    have hT2 := hT.fr hX
    have hl := hF0.len
    refine k_MM_looks_18 hF ⟨fun q => absurd q ?_, fun _ => ?_⟩
    · rw [hL2.1, nI_leI (by omega) (by omega)]; omega
    · refine sm_nearOf hF hw hL2 hT2 (fun x y hx hy => by rw [hfr.row (by omega) (by decide)]; exact h103 x y hx hy) ha (by omega) (fun M2 hF2 f2 => ⟨hF2, ?_⟩)
      have hg2 : G108 σ M2 a b := by
        unfold G108
        rw [f2.row (j := 108) (by have := hF.len; omega) (by decide)]
        exact hg
      have f3 : FrG [106, 107, 108] [] M0 M2 := hfr.tr (f2.wk (by simp) (by simp))
      have go : ∀ v : Nat, nb σ (oW σ) a b = v → narrow .boolean (.int (nI v)) = .int (nI v) → vp_in (((nI 6) * (nI a)) + (nI b)) 36 ∧ vp_in (((nI 6) * (nI a)) + (nI b)) 36 ∧ vp_in (((nI 6) * (nI b)) + (nI a)) 36 ∧ narrow .boolean (.int (mi (wi M2 108 ((((nI 6) * (nI a)) + (nI b)).toNatClampNeg) (nI v)) 108 ((((nI 6) * (nI a)) + (nI b)).toNatClampNeg))) = .int (mi (wi M2 108 ((((nI 6) * (nI a)) + (nI b)).toNatClampNeg) (nI v)) 108 ((((nI 6) * (nI a)) + (nI b)).toNatClampNeg)) ∧ Ex (d + 4) m_MM_looks bc bs 18 [some (.ref 78), some (.int (nI a)), some (.int (nI b + nI 1))] [] (wi (wi M2 108 ((((nI 6) * (nI a)) + (nI b)).toNatClampNeg) (nI v)) 108 ((((nI 6) * (nI b)) + (nI a)).toNatClampNeg) (mi (wi M2 108 ((((nI 6) * (nI a)) + (nI b)).toNatClampNeg) (nI v)) 108 ((((nI 6) * (nI a)) + (nI b)).toNatClampNeg))) Φ := by
        intro v hv hnar
        have e1 : (nI 6) * (nI a) + nI b = nI (6 * a + b) := by rw [pk_mul, nI_add]
        have e2 : (nI 6) * (nI b) + nI a = nI (6 * b + a) := by rw [pk_mul, nI_add]
        rw [e1, e2, nI_clamp (by omega), nI_clamp (by omega), nI_add, mi_w, u1_s]
        refine ⟨vN (by omega) (by omega), vN (by omega) (by omega), vN (by omega) (by omega), hnar, ?_⟩
        exact ih (b + 1) _ (by omega) (by omega) hF2.fwi.fwi ((f3.fwi (by decide)).fwi (by decide)) (hg2.set h6 hab (by omega) hv)
      exact ⟨fun z => go 0 (by unfold nb; rw [if_pos z]) rfl, fun z => go 1 (by unfold nb; rw [if_neg z]) rfl⟩
theorem loo6 (hF0 : Fm M0) (hw : WF σ) (hL : MLand σ M0) (hT : MText σ M0) (h103 : ∀ x y, x < 6 → y < 6 → mi M0 103 (6 * x + y) = nI (far (oT σ) (oRd σ) x y))
    (H : ∀ M2, Fm M2 → FrG [106, 107, 108] [] M0 M2 → G108 σ M2 (oT σ) 0 → Φ none M2) :
    ∀ (n a : Nat) (M : Mem), a + n = oT σ → Fm M → FrG [106, 107, 108] [] M0 M → G108 σ M a 0 → Ex (d + 4) m_MM_looks bc bs 6 [some (.ref 78), some (.int (nI a)), none] [] M Φ := by
  intro n
  have h6 := hw.T6
  induction n with
  | zero =>
    intro a M ha hF hfr hg
    obtain rfl : a = oT σ := by omega
    have hL2 := hL.fr (hfr.M hF0 rfl)
    refine k_MM_looks_6 hF ⟨fun _ => H M hF hfr hg, fun q => absurd ?_ q⟩
    rw [hL2.1]; exact nI_le (Nat.le_refl _) (by omega)
  | succ n ih =>
    intro a M ha hF hfr hg
    have hL2 := hL.fr (hfr.M hF0 rfl)
    refine k_MM_looks_6 hF ⟨fun q => absurd q ?_, fun _ => ?_⟩
    · rw [hL2.1, nI_leI (by omega) (by omega)]; omega
    · rw [nI_add]
      exact loo18 hF0 hw hL hT h103 (by omega) (fun M2 hF2 f2 g2 => ih (a + 1) M2 (by omega) hF2 f2 g2) n (a + 1) M (by omega) (by omega) hF hfr (fun x y hxy hy hh => hg x y hxy hy (by omega))
end LOO
theorem sm_looks {d : Nat} {σ : St} {M : Mem} {K : Mem → Prop} (hF : Fm M) (hw : WF σ) (hL : MLand σ M) (hT : MText σ M) (h : ∀ M2, Fm M2 → FrG [103, 106, 107, 108] [] M M2 → (∀ x y, x < 6 → y < 6 → mi M2 103 (6 * x + y) = nI (far (oT σ) (oRd σ) x y)) → G108 σ M2 (oT σ) 0 → K M2) : Con (d + 4) m_MM_looks 0 0 [.ref 78] M (PV K) := by
  refine Con.ent (k := 2) F_MM_looks.1 rfl (Nat.le_of_ble_eq_true rfl) (k_MM_looks_0 hF ?_)
  refine sm_spreads hF hL.1 hw.T6 (fun a b => hw.rd a b) hL.2.2.2.2.2.1 (fun M2 hF2 f2 g2 => ⟨hF2, ?_⟩)
  have hX := f2.M hF rfl
  refine loo6 hF2 hw (hL.fr hX) (hT.fr hX) g2 (fun M3 hF3 f3 g3 => ⟨rfl, h M3 hF3 ((f2.wk (by simp) (by simp)).tr (f3.wk (by simp) (by simp))) (fun x y hx hy => ?_) g3⟩) (oT σ) 0 M2 (by omega) hF2 (FrG.rf _ _) (fun x y hxy hy hh => by omega)
  rw [f3.row (by have := hF2.len; omega) (by decide)]
  exact g2 x y hx hy
