/-! the steps of a TEXT run on a stack, m -/
section WOR
variable {d bc bs R p E : Nat} {M0 : Mem} {Φ : Option Value → Mem → Prop}
theorem wor16 (hF0 : Fm M0) (hR : mi M0 78 15 = nI R) (hR6 : R < 6) (hp : p < 2) (hE : mi M0 88 (4 * R + p + 1) = nI E) (hE2 : E ≤ 200) :
    ∀ (r : List Int32) (k n : Nat) (g : Nat → Int32) (M : Mem), k + r.length = E → (∀ (j : Nat) (c : Int32), r[j]? = some c → mi M0 87 (200 * R + (k + j)) = c) → okc r n = true → n ≤ 40 → Fm M → FrG [106] [] M0 M → AgN n (mi M 106) g →
      (∀ M2, Fm M2 → FrG [106] [] M0 M2 → Φ (some (.int ((eN (mi M0 107) r (n, g)).2 0))) M2) →
      Ex (d + 2) m_MM_worth bc bs 16 [some (.ref 78), some (.int (nI p)), some (.int (nI n)), some (.int (nI k)), none] [] M Φ := by
  intro r
  induction r with
  | nil =>
    intro k n g M hk hr ho hn hF hfr hg H
    have h1 := okc_len n ho
    subst h1
    have hk2 : k = E := by simpa using hk
    subst hk2
    have hl := hF0.len
    have e15 : mi M 78 15 = nI R := by rw [hfr.row (by omega) (by decide), hR]
    refine k_MM_worth_16 hF ?_
    rw [e15, pk_mul, nI_add, nI_add, nI_clamp (by omega), hfr.row (j := 88) (by omega) (by decide), hE]
    refine ⟨vN (by omega) (by omega), fun _ => ?_, fun q => absurd (nI_le (Nat.le_refl k) (by omega)) q⟩
    rw [hg 0 (by omega)]
    exact H M hF hfr
  | cons c cs ih =>
    intro k n g M hk hr ho hn hF hfr hg H
    have hk2 : k < E := by simp only [List.length_cons] at hk; omega
    have hl := hF0.len
    have e15 : mi M 78 15 = nI R := by rw [hfr.row (by omega) (by decide), hR]
    have hx : mi M 87 (200 * R + k) = c := by
      rw [hfr.row (by omega) (by decide)]
      exact hr 0 c rfl
    have h107 : mi M 107 = mi M0 107 := hfr.row (by omega) (by decide)
    have next : ∀ (n2 : Nat) (g2 : Nat → Int32) (M2 : Mem), okc cs n2 = true → n2 ≤ 40 → Fm M2 → FrG [106] [] M0 M2 → AgN n2 (mi M2 106) g2 → e1 (mi M0 107) c (n, g) = (n2, g2) →
        Ex (d + 2) m_MM_worth bc bs 16 [some (.ref 78), some (.int (nI p)), some (.int (nI n2)), some (.int (nI k + nI 1)), none] [] M2 Φ := by
      intro n2 g2 M2 ho2 hn2 hF2 hfr2 hg2 he
      rw [nI_add]
      refine ih (k + 1) n2 g2 M2 (by simp only [List.length_cons] at hk; omega) (fun j c' hj => ?_) ho2 hn2 hF2 hfr2 hg2 (fun M3 hF3 hfr3 => ?_)
      · rw [show k + 1 + j = k + (j + 1) by omega]
        exact hr (j + 1) c' (by simpa using hj)
      · have := H M3 hF3 hfr3
        rw [show eN (mi M0 107) (c :: cs) (n, g) = eN (mi M0 107) cs (e1 (mi M0 107) c (n, g)) from rfl, he] at this
        exact this
    refine k_MM_worth_16 hF ?_
    rw [e15, pk_mul, pk_mul, nI_add, nI_add, nI_add, nI_clamp (by omega), nI_clamp (by omega), hfr.row (j := 88) (by omega) (by decide), hE, hx]
    refine ⟨vN (by omega) (by omega), fun q => absurd q (by rw [nI_leI (by omega) (by omega)]; omega), fun _ => ⟨vN (by omega) (by omega), ?_⟩⟩
    rcases okc_c ho with ⟨v, hv, rfl, h1, h2⟩ | ⟨q, hq, rfl, h1, h2⟩ | ⟨rfl, h1, h2⟩ | ⟨rfl, h1, h2⟩ | ⟨hc, h1, h2⟩
    · refine ⟨fun _ => k_MM_worth_66 hF ⟨fun _ => ⟨vN (by omega) (by omega), ?_⟩, fun z => absurd (nI_le (by omega) (by omega)) z⟩, fun z => absurd (nI_le (by omega) (by omega)) z⟩
      rw [nI_clamp (by omega), pk_sub (by omega), show 100000 + v - 100000 = v by omega, nI_add]
      exact next (n + 1) (u1 g n (nI v)) _ h2 (by omega) hF.fwi (hfr.fwi (by decide)) (by rw [mi_w]; exact hg.push) (e1_num hv)
    · refine ⟨fun z => absurd z (by rw [nI_leI (by omega) (by omega)]; omega), fun _ => ⟨fun z => absurd z (by rw [nI_leI (by omega) (by omega)]; omega), fun _ => k_MM_worth_66 hF ⟨fun z => absurd z (by rw [nI_leI (by omega) (by omega)]; omega), fun _ => ⟨vN hq (by omega), vN (by omega) (by omega), ?_⟩⟩⟩⟩
      rw [nI_clamp (by omega), nI_clamp (by omega), nI_add]
      refine next (n + 1) (u1 g n (mi M0 107 q)) _ h2 (by omega) hF.fwi (hfr.fwi (by decide)) ?_ (e1_nam hq)
      rw [mi_w, h107]
      exact hg.push
    · refine ⟨fun z => absurd z (by decide), fun _ => ⟨fun _ => ⟨fun z => absurd rfl z, fun _ => ?_⟩, fun z => absurd (by decide) z⟩⟩
      rw [nI_sub1 h1, nI_clamp (by omega)]
      refine ⟨vN (by omega) (by omega), fun z => ⟨vN (by omega) (by omega), ?_⟩, fun z => ⟨vN (by omega) (by omega), ?_⟩⟩
      · rw [hg (n - 1) (by omega)] at z
        refine next n (u1 g (n - 1) (nI 0)) _ h2 hn hF.fwi (hfr.fwi (by decide)) (by rw [mi_w]; exact hg.set) ?_
        rw [e1_not, if_neg z]
      · rw [hg (n - 1) (by omega)] at z
        refine next n (u1 g (n - 1) (nI 1)) _ h2 hn hF.fwi (hfr.fwi (by decide)) (by rw [mi_w]; exact hg.set) ?_
        rw [e1_not, if_pos z]
    · refine ⟨fun z => absurd z (by decide), fun _ => ⟨fun _ => ⟨fun _ => ⟨fun z => absurd rfl z, fun _ => ?_⟩, fun z => absurd z (by decide)⟩, fun z => absurd (by decide) z⟩⟩
      rw [nI_sub1 h1, nI_clamp (by omega)]
      refine ⟨vN (by omega) (by omega), vN (by omega) (by omega), ?_⟩
      refine next n (u1 g (n - 1) (-(g (n - 1)))) _ h2 hn hF.fwi (hfr.fwi (by decide)) (by rw [mi_w, hg (n - 1) (by omega)]; exact hg.set) ?_
      rw [e1_neg]
    · have hxk : ¬ nI 100000 ≤ c ∧ nI 11 ≤ c ∧ c ≠ nI 13 ∧ c ≠ nI 19 := by
        rcases hc with rfl | rfl | rfl | rfl | rfl | rfl | rfl <;> decide
      obtain ⟨y1, y2, y3, y4⟩ := hxk
      refine ⟨fun z => absurd z y1, fun _ => ⟨fun _ => ⟨fun _ => ⟨fun _ => ?_, fun z => absurd z y4⟩, fun z => absurd z y3⟩, fun z => absurd y2 z⟩⟩
      rw [nI_m1 (by omega), nI_sub1 (by omega), nI_clamp (by omega), nI_clamp (by omega), hg (n - 1) (by omega), hg (n - 1 - 1) (by omega)]
      refine ⟨vN (by omega) (by omega), vN (by omega) (by omega), ?_⟩
      refine sm_two hF hc ⟨hF, vN (by omega) (by omega), ?_⟩
      refine next (n - 1) (u1 g (n - 2) (twoV c (g (n - 2)) (g (n - 1)))) _ h2 (by omega) hF.fwi (hfr.fwi (by decide)) ?_ (e1_two hc)
      rw [mi_w, show n - 1 - 1 = n - 2 by omega]
      exact (hg.low (by omega)).set
end WOR
/-- m's rows hold steps cs as part p of THE RULE -/
def RuleM (M : Mem) (p : Nat) (cs : List Int32) : Prop := ∃ R s, mi M 78 15 = nI R ∧ R < 6 ∧ mi M 88 (4 * R + p) = nI s ∧ mi M 88 (4 * R + p + 1) = nI (s + cs.length) ∧ s + cs.length ≤ 200 ∧ ∀ (j : Nat) (c : Int32), cs[j]? = some c → mi M 87 (200 * R + (s + j)) = c
theorem sm_worth {d p : Nat} {cs : List Int32} {M : Mem} {K : Int32 → Mem → Prop} (hF : Fm M) (hc : RuleM M p cs) (hp : p < 2) (ho : okc cs 0 = true) (h : ∀ M2, Fm M2 → FrG [106] [] M M2 → K (ev (mi M 107) cs) M2) : Con (d + 2) m_MM_worth 0 0 [.ref 78, .int (nI p)] M (PI K) := by
  obtain ⟨R, s, h1, h2, h3, h4, h5, h6⟩ := hc
  refine Con.ent (k := 3) F_MM_worth.1 rfl (Nat.le_of_ble_eq_true rfl) (k_MM_worth_0 hF ?_)
  rw [h1, pk_mul, nI_add, nI_clamp (by omega), h3]
  exact ⟨vN (by omega) (by omega), wor16 hF h1 h2 hp h4 h5 cs s 0 (fun _ => 0) M rfl h6 ho (by omega) hF (FrG.rf _ _) (fun i hi => absurd hi (Nat.not_lt_zero _)) (fun M2 hF2 hfr2 => PI.mk rfl (h M2 hF2 hfr2))⟩
