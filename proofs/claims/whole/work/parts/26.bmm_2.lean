/-! printed blocks: MarketDaysModel -/
theorem k_MM_text_59 {d bc bs : Nat} {l1 : Int32} {l2 : Int32} {M : Mem} {Φ : Option Value → Mem → Prop} (hF : Fm M) (h : vp_in (((nI 4) * (mi M 78 14)) + l2) 24 ∧ ((nI 0) = 0 → Ex (d + 1) m_MM_text bc bs 26 [some (.ref 78), some (.int (nI 0)), some (.int (l2 + nI 1))] [] (wi M 88 ((((nI 4) * (mi M 78 14)) + l2).toNatClampNeg) (mi M 78 48)) Φ) ∧ (¬ (nI 0) = 0 → Con d m_MM_eRead 0 0 [.ref 78] (wi M 88 ((((nI 4) * (mi M 78 14)) + l2).toNatClampNeg) (mi M 78 48)) (PB fun r1 M1 => Fm M1 ∧ (r1 = false → Ex (d + 1) m_MM_text bc bs 26 [some (.ref 78), some (.int (nI 0)), some (.int (l2 + nI 1))] [] M1 Φ) ∧ (r1 = true → Ex (d + 1) m_MM_text bc bs 26 [some (.ref 78), some (.int (nI 1)), some (.int (l2 + nI 1))] [] M1 Φ)))) : Ex (d + 1) m_MM_text bc bs 59 [some (.ref 78), some (.int l1), some (.int l2)] [] M Φ := by
  refine ex_iconst (pc := 59) (k := 0) (v := nI 0) (by decide +kernel) (by decide) ?_
  refine ex_istore_n (pc := 60) (k := 1) (lo2 := [some (.ref 78), some (.int (nI 0)), some (.int l2)]) (by decide +kernel) (by decide) rfl ?_
  refine ex_aload_n (pc := 61) (k := 0) (by decide +kernel) rfl ?_
  refine ex_getR (pc := 62) (a := 88) (by decide +kernel) lf_MM_41 (hF.s (j := 78) rfl) (hF.r (j := 78) (k := 13) rfl rfl) ?_
  refine ex_iconst (pc := 65) (k := 4) (v := nI 4) (by decide +kernel) (by decide) ?_
  refine ex_aload_n (pc := 66) (k := 0) (by decide +kernel) rfl ?_
  refine ey_getI (pc := 67) (v := mi M 78 14) (by decide +kernel) lf_MM_44 (hF.s (j := 78) rfl) rfl ?_
  refine ex_imul (pc := 70) (by decide +kernel) ?_
  refine ex_iload_n (pc := 71) (k := 2) (by decide +kernel) rfl ?_
  refine ex_iadd (pc := 72) (by decide +kernel) ?_
  refine ex_aload_n (pc := 73) (k := 0) (by decide +kernel) rfl ?_
  refine ey_getI (pc := 74) (v := mi M 78 48) (by decide +kernel) lf_MM_192 (hF.s (j := 78) rfl) rfl ?_
  obtain ⟨g1, h⟩ := h
  refine ey_iast (pc := 77) (by decide +kernel) (hF.s (j := 88) rfl) g1 rfl ?_
  refine ex_iload_n (pc := 78) (k := 1) (by decide +kernel) rfl ?_
  refine ex_if_eq (pc := 79) (off := 14) (tgt := 93) (by decide +kernel) (by decide) (fun hc => ?_) (fun hc => ?_)
  · replace h := h.1 hc
    refine ex_iconst (pc := 93) (k := 0) (v := nI 0) (by decide +kernel) (by decide) ?_
    refine ex_istore_n (pc := 94) (k := 1) (lo2 := [some (.ref 78), some (.int (nI 0)), some (.int l2)]) (by decide +kernel) (by decide) rfl ?_
    refine ex_iinc (pc := 95) (i := 2) (k := 1) (v := l2 + nI 1) (lo2 := [some (.ref 78), some (.int (nI 0)), some (.int (l2 + nI 1))]) (by decide +kernel) (by decide) rfl rfl rfl ?_
    refine ex_goto (pc := 98) (off := -72) (tgt := 26) (by decide +kernel) (by decide) ?_
    exact h
  · replace h := h.2 hc
    refine ex_aload_n (pc := 82) (k := 0) (by decide +kernel) rfl ?_
    refine ex_callV (pc := 83) (as := []) (by decide +kernel) F_MM_eRead (in_t6 (i := 66) rfl rfl) (hF.s (j := 78) rfl) rfl (by decide) rfl rfl (Nat.le_of_ble_eq_true rfl) (Nat.lt_succ_self _) ⟨Nat.zero_le _, Nat.zero_le _⟩ (KC_B (Con.mono h ?_))
    intro o M1 ⟨r1, e9, hF1, h⟩
    refine ⟨r1, e9, ?_⟩
    refine ey_ifeqB (pc := 86) (off := 7) (tgt := 93) (by decide +kernel) (by decide) (fun hc => ?_) (fun hc => ?_)
    · replace h := h.1 hc
      refine ex_iconst (pc := 93) (k := 0) (v := nI 0) (by decide +kernel) (by decide) ?_
      refine ex_istore_n (pc := 94) (k := 1) (lo2 := [some (.ref 78), some (.int (nI 0)), some (.int l2)]) (by decide +kernel) (by decide) rfl ?_
      refine ex_iinc (pc := 95) (i := 2) (k := 1) (v := l2 + nI 1) (lo2 := [some (.ref 78), some (.int (nI 0)), some (.int (l2 + nI 1))]) (by decide +kernel) (by decide) rfl rfl rfl ?_
      refine ex_goto (pc := 98) (off := -72) (tgt := 26) (by decide +kernel) (by decide) ?_
      exact h
    · replace h := h.2 hc
      refine ex_iconst (pc := 89) (k := 1) (v := nI 1) (by decide +kernel) (by decide) ?_
      refine ex_goto (pc := 90) (off := 4) (tgt := 94) (by decide +kernel) (by decide) ?_
      refine ex_istore_n (pc := 94) (k := 1) (lo2 := [some (.ref 78), some (.int (nI 1)), some (.int l2)]) (by decide +kernel) (by decide) rfl ?_
      refine ex_iinc (pc := 95) (i := 2) (k := 1) (v := l2 + nI 1) (lo2 := [some (.ref 78), some (.int (nI 1)), some (.int (l2 + nI 1))]) (by decide +kernel) (by decide) rfl rfl rfl ?_
      refine ex_goto (pc := 98) (off := -72) (tgt := 26) (by decide +kernel) (by decide) ?_
      exact h
theorem k_MM_text_101 {d bc bs : Nat} {l1 : Int32} {l2 : Int32} {M : Mem} {Φ : Option Value → Mem → Prop} (hF : Fm M) (h : (l1 = 0 → Ex (d + 1) m_MM_text bc bs 122 [some (.ref 78), some (.int l1), some (.int l2)] [] M Φ) ∧ (¬ l1 = 0 → Con d m_MM_next 0 0 [.ref 78] M (PV fun M1 => Fm M1 ∧ (¬ (mi M1 78 42) = 0 → Ex (d + 1) m_MM_text bc bs 122 [some (.ref 78), some (.int (nI 0)), some (.int l2)] [] M1 Φ) ∧ ((mi M1 78 42) = 0 → Ex (d + 1) m_MM_text bc bs 122 [some (.ref 78), some (.int (nI 1)), some (.int l2)] [] M1 Φ)))) : Ex (d + 1) m_MM_text bc bs 101 [some (.ref 78), some (.int l1), some (.int l2)] [] M Φ := by
  refine ex_iload_n (pc := 101) (k := 1) (by decide +kernel) rfl ?_
  refine ex_if_eq (pc := 102) (off := 20) (tgt := 122) (by decide +kernel) (by decide) (fun hc => ?_) (fun hc => ?_)
  · replace h := h.1 hc
    exact h
  · replace h := h.2 hc
    refine ex_aload_n (pc := 105) (k := 0) (by decide +kernel) rfl ?_
    refine ex_callV (pc := 106) (as := []) (by decide +kernel) F_MM_next (in_t6 (i := 58) rfl rfl) (hF.s (j := 78) rfl) rfl (by decide) rfl rfl (Nat.le_of_ble_eq_true rfl) (Nat.lt_succ_self _) ⟨Nat.zero_le _, Nat.zero_le _⟩ (KC_V (Con.mono h ?_))
    intro o M1 ⟨e9, hF1, h⟩
    refine ⟨e9, ?_⟩
    refine ex_aload_n (pc := 109) (k := 0) (by decide +kernel) rfl ?_
    refine ey_getI (pc := 110) (v := mi M1 78 42) (by decide +kernel) lf_MM_182 (hF1.s (j := 78) rfl) rfl ?_
    refine ex_if_ne (pc := 113) (off := 7) (tgt := 120) (by decide +kernel) (by decide) (fun hc => ?_) (fun hc => ?_)
    · replace h := h.1 hc
      refine ex_iconst (pc := 120) (k := 0) (v := nI 0) (by decide +kernel) (by decide) ?_
      refine ex_istore_n (pc := 121) (k := 1) (lo2 := [some (.ref 78), some (.int (nI 0)), some (.int l2)]) (by decide +kernel) (by decide) rfl ?_
      exact h
    · replace h := h.2 hc
      refine ex_iconst (pc := 116) (k := 1) (v := nI 1) (by decide +kernel) (by decide) ?_
      refine ex_goto (pc := 117) (off := 4) (tgt := 121) (by decide +kernel) (by decide) ?_
      refine ex_istore_n (pc := 121) (k := 1) (lo2 := [some (.ref 78), some (.int (nI 1)), some (.int l2)]) (by decide +kernel) (by decide) rfl ?_
      exact h
theorem k_MM_text_122 {d bc bs : Nat} {l1 : Int32} {l2 : Int32} {M : Mem} {Φ : Option Value → Mem → Prop} (hF : Fm M) (h : vp_in (((nI 4) * (mi M 78 14)) + (nI 2)) 24 ∧ (¬ l1 = 0 → Φ (some (.int (((mi M 78 14) + (nI 1)) - (nI 1)))) (wi (wi (wi M 88 ((((nI 4) * (mi M 78 14)) + (nI 2)).toNatClampNeg) (mi M 78 48)) 78 11 (nI 0)) 78 14 ((mi M 78 14) + (nI 1)))) ∧ (l1 = 0 → Φ (some (.int ((-100) - (mi M 78 41)))) (wi (wi M 88 ((((nI 4) * (mi M 78 14)) + (nI 2)).toNatClampNeg) (mi M 78 48)) 78 11 (nI 0)))) : Ex (d + 1) m_MM_text bc bs 122 [some (.ref 78), some (.int l1), some (.int l2)] [] M Φ := by
  refine ex_aload_n (pc := 122) (k := 0) (by decide +kernel) rfl ?_
  refine ex_getR (pc := 123) (a := 88) (by decide +kernel) lf_MM_41 (hF.s (j := 78) rfl) (hF.r (j := 78) (k := 13) rfl rfl) ?_
  refine ex_iconst (pc := 126) (k := 4) (v := nI 4) (by decide +kernel) (by decide) ?_
  refine ex_aload_n (pc := 127) (k := 0) (by decide +kernel) rfl ?_
  refine ey_getI (pc := 128) (v := mi M 78 14) (by decide +kernel) lf_MM_44 (hF.s (j := 78) rfl) rfl ?_
  refine ex_imul (pc := 131) (by decide +kernel) ?_
  refine ex_iconst (pc := 132) (k := 2) (v := nI 2) (by decide +kernel) (by decide) ?_
  refine ex_iadd (pc := 133) (by decide +kernel) ?_
  refine ex_aload_n (pc := 134) (k := 0) (by decide +kernel) rfl ?_
  refine ey_getI (pc := 135) (v := mi M 78 48) (by decide +kernel) lf_MM_192 (hF.s (j := 78) rfl) rfl ?_
  obtain ⟨g1, h⟩ := h
  refine ey_iast (pc := 138) (by decide +kernel) (hF.s (j := 88) rfl) g1 rfl ?_
  refine ex_aload_n (pc := 139) (k := 0) (by decide +kernel) rfl ?_
  refine ex_iconst (pc := 140) (k := 0) (v := nI 0) (by decide +kernel) (by decide) ?_
  refine ex_putI (pc := 141) (index := 171) (ci := 11) (k := 11) (fin := false) (by decide +kernel) ⟨_, _, _, _, cf_MM, by decide, in_t5 (i := 87) rfl rfl, rfl, (fun h => by cases h), rfl, rfl⟩ rfl (fun h => by cases h) (hF.s (j := 78) rfl) ?_
  refine ex_iload_n (pc := 144) (k := 1) (by decide +kernel) rfl ?_
  refine ex_if_ne (pc := 145) (off := 11) (tgt := 156) (by decide +kernel) (by decide) (fun hc => ?_) (fun hc => ?_)
  · replace h := h.1 hc
    refine ex_aload_n (pc := 156) (k := 0) (by decide +kernel) rfl ?_
    refine ex_dup (pc := 157) (by decide +kernel) rfl ?_
    refine ey_getI (pc := 158) (v := mi M 78 14) (by decide +kernel) lf_MM_44 (hF.s (j := 78) rfl) rfl ?_
    refine ex_iconst (pc := 161) (k := 1) (v := nI 1) (by decide +kernel) (by decide) ?_
    refine ex_iadd (pc := 162) (by decide +kernel) ?_
    refine ex_putI (pc := 163) (index := 44) (ci := 11) (k := 14) (fin := false) (by decide +kernel) ⟨_, _, _, _, cf_MM, by decide, in_t5 (i := 90) rfl rfl, rfl, (fun h => by cases h), rfl, rfl⟩ rfl (fun h => by cases h) (hF.s (j := 78) rfl) ?_
    refine ex_aload_n (pc := 166) (k := 0) (by decide +kernel) rfl ?_
    refine ey_getI (pc := 167) (v := (mi M 78 14) + (nI 1)) (by decide +kernel) lf_MM_44 (hF.s (j := 78) rfl) rfl ?_
    refine ex_iconst (pc := 170) (k := 1) (v := nI 1) (by decide +kernel) (by decide) ?_
    refine ex_isub (pc := 171) (by decide +kernel) ?_
    exact ex_ireturn (pc := 172) (by decide +kernel) rfl rfl h
  · replace h := h.2 hc
    refine ex_bipush (pc := 148) (k := -100) (v := -100) (by decide +kernel) (by decide) ?_
    refine ex_aload_n (pc := 150) (k := 0) (by decide +kernel) rfl ?_
    refine ey_getI (pc := 151) (v := mi M 78 41) (by decide +kernel) lf_MM_179 (hF.s (j := 78) rfl) rfl ?_
    refine ex_isub (pc := 154) (by decide +kernel) ?_
    exact ex_ireturn (pc := 155) (by decide +kernel) rfl rfl h
theorem k_MM_two_0 {d bc bs : Nat} {l0 : Int32} {l1 : Int32} {l2 : Int32} {M : Mem} {Φ : Option Value → Mem → Prop} (hF : Fm M) (h : (l0 = nI 11 → (¬ l1 = 0 → Φ (some (.int (nI 1))) M) ∧ (l1 = 0 → (l2 = 0 → Φ (some (.int (nI 0))) M) ∧ (¬ l2 = 0 → Φ (some (.int (nI 1))) M))) ∧ (l0 = nI 12 → (l1 = 0 → Φ (some (.int (nI 0))) M) ∧ (¬ l1 = 0 → (l2 = 0 → Φ (some (.int (nI 0))) M) ∧ (¬ l2 = 0 → Φ (some (.int (nI 1))) M))) ∧ (l0 = nI 13 → Φ (some (.int (l1 * l2))) M) ∧ (l0 = nI 14 → (l2 ≤ l1 → Φ (some (.int (nI 0))) M) ∧ (¬ l2 ≤ l1 → Φ (some (.int (nI 1))) M)) ∧ (l0 = nI 15 → (¬ l1 = l2 → Φ (some (.int (nI 0))) M) ∧ (l1 = l2 → Φ (some (.int (nI 1))) M)) ∧ (l0 = nI 16 → Φ (some (.int (l1 + l2))) M) ∧ (l0 = nI 17 → Φ (some (.int (l1 - l2))) M) ∧ (¬ l0 = nI 11 → ¬ l0 = nI 12 → ¬ l0 = nI 13 → ¬ l0 = nI 14 → ¬ l0 = nI 15 → ¬ l0 = nI 16 → ¬ l0 = nI 17 → Φ (some (.int (l1 * l2))) M)) : Ex (d + 1) m_MM_two bc bs 0 [some (.int l0), some (.int l1), some (.int l2)] [] M Φ := by
  refine ex_iload_n (pc := 0) (k := 0) (by decide +kernel) rfl ?_
  by_cases hc : l0 = nI 11
  · replace h := h.1 hc
    rw [hc]
    refine ex_tableIn (pc := 1) (dflt := 101) (l9 := 11) (h9 := 17) (offs := #[43, 57, 101, 71, 82, 93, 97]) (len := 43) (off := 43) (tgt := 44) (by decide +kernel) (by decide) (by decide) (by decide +kernel) (by decide) ?_
    refine ex_iload_n (pc := 44) (k := 1) (by decide +kernel) rfl ?_
    refine ex_if_ne (pc := 45) (off := 7) (tgt := 52) (by decide +kernel) (by decide) (fun hc => ?_) (fun hc => ?_)
    · replace h := h.1 hc
      refine ex_iconst (pc := 52) (k := 1) (v := nI 1) (by decide +kernel) (by decide) ?_
      refine ex_goto (pc := 53) (off := 4) (tgt := 57) (by decide +kernel) (by decide) ?_
      exact ex_ireturn (pc := 57) (by decide +kernel) rfl rfl h
    · replace h := h.2 hc
      refine ex_iload_n (pc := 48) (k := 2) (by decide +kernel) rfl ?_
      refine ex_if_eq (pc := 49) (off := 7) (tgt := 56) (by decide +kernel) (by decide) (fun hc => ?_) (fun hc => ?_)
      · replace h := h.1 hc
        refine ex_iconst (pc := 56) (k := 0) (v := nI 0) (by decide +kernel) (by decide) ?_
        exact ex_ireturn (pc := 57) (by decide +kernel) rfl rfl h
      · replace h := h.2 hc
        refine ex_iconst (pc := 52) (k := 1) (v := nI 1) (by decide +kernel) (by decide) ?_
        refine ex_goto (pc := 53) (off := 4) (tgt := 57) (by decide +kernel) (by decide) ?_
        exact ex_ireturn (pc := 57) (by decide +kernel) rfl rfl h
  replace h := h.2
  have n0 := hc
  by_cases hc : l0 = nI 12
  · replace h := h.1 hc
    rw [hc]
    refine ex_tableIn (pc := 1) (dflt := 101) (l9 := 11) (h9 := 17) (offs := #[43, 57, 101, 71, 82, 93, 97]) (len := 43) (off := 57) (tgt := 58) (by decide +kernel) (by decide) (by decide) (by decide +kernel) (by decide) ?_
    refine ex_iload_n (pc := 58) (k := 1) (by decide +kernel) rfl ?_
    refine ex_if_eq (pc := 59) (off := 11) (tgt := 70) (by decide +kernel) (by decide) (fun hc => ?_) (fun hc => ?_)
    · replace h := h.1 hc
      refine ex_iconst (pc := 70) (k := 0) (v := nI 0) (by decide +kernel) (by decide) ?_
      exact ex_ireturn (pc := 71) (by decide +kernel) rfl rfl h
    · replace h := h.2 hc
      refine ex_iload_n (pc := 62) (k := 2) (by decide +kernel) rfl ?_
      refine ex_if_eq (pc := 63) (off := 7) (tgt := 70) (by decide +kernel) (by decide) (fun hc => ?_) (fun hc => ?_)
      · replace h := h.1 hc
        refine ex_iconst (pc := 70) (k := 0) (v := nI 0) (by decide +kernel) (by decide) ?_
        exact ex_ireturn (pc := 71) (by decide +kernel) rfl rfl h
      · replace h := h.2 hc
        refine ex_iconst (pc := 66) (k := 1) (v := nI 1) (by decide +kernel) (by decide) ?_
        refine ex_goto (pc := 67) (off := 4) (tgt := 71) (by decide +kernel) (by decide) ?_
        exact ex_ireturn (pc := 71) (by decide +kernel) rfl rfl h
  replace h := h.2
  have n1 := hc
  by_cases hc : l0 = nI 13
  · replace h := h.1 hc
    rw [hc]
    refine ex_tableIn (pc := 1) (dflt := 101) (l9 := 11) (h9 := 17) (offs := #[43, 57, 101, 71, 82, 93, 97]) (len := 43) (off := 101) (tgt := 102) (by decide +kernel) (by decide) (by decide) (by decide +kernel) (by decide) ?_
    refine ex_iload_n (pc := 102) (k := 1) (by decide +kernel) rfl ?_
    refine ex_iload_n (pc := 103) (k := 2) (by decide +kernel) rfl ?_
    refine ex_imul (pc := 104) (by decide +kernel) ?_
    exact ex_ireturn (pc := 105) (by decide +kernel) rfl rfl h
  replace h := h.2
  have n2 := hc
  by_cases hc : l0 = nI 14
  · replace h := h.1 hc
    rw [hc]
    refine ex_tableIn (pc := 1) (dflt := 101) (l9 := 11) (h9 := 17) (offs := #[43, 57, 101, 71, 82, 93, 97]) (len := 43) (off := 71) (tgt := 72) (by decide +kernel) (by decide) (by decide) (by decide +kernel) (by decide) ?_
    refine ex_iload_n (pc := 72) (k := 1) (by decide +kernel) rfl ?_
    refine ex_iload_n (pc := 73) (k := 2) (by decide +kernel) rfl ?_
    refine ex_icmp_ge (pc := 74) (off := 7) (tgt := 81) (by decide +kernel) (by decide) (fun hc => ?_) (fun hc => ?_)
    · replace h := h.1 hc
      refine ex_iconst (pc := 81) (k := 0) (v := nI 0) (by decide +kernel) (by decide) ?_
      exact ex_ireturn (pc := 82) (by decide +kernel) rfl rfl h
    · replace h := h.2 hc
      refine ex_iconst (pc := 77) (k := 1) (v := nI 1) (by decide +kernel) (by decide) ?_
      refine ex_goto (pc := 78) (off := 4) (tgt := 82) (by decide +kernel) (by decide) ?_
      exact ex_ireturn (pc := 82) (by decide +kernel) rfl rfl h
  replace h := h.2
  have n3 := hc
  by_cases hc : l0 = nI 15
  · replace h := h.1 hc
    rw [hc]
    refine ex_tableIn (pc := 1) (dflt := 101) (l9 := 11) (h9 := 17) (offs := #[43, 57, 101, 71, 82, 93, 97]) (len := 43) (off := 82) (tgt := 83) (by decide +kernel) (by decide) (by decide) (by decide +kernel) (by decide) ?_
    refine ex_iload_n (pc := 83) (k := 1) (by decide +kernel) rfl ?_
    refine ex_iload_n (pc := 84) (k := 2) (by decide +kernel) rfl ?_
    refine ex_icmp_ne (pc := 85) (off := 7) (tgt := 92) (by decide +kernel) (by decide) (fun hc => ?_) (fun hc => ?_)
    · replace h := h.1 hc
      refine ex_iconst (pc := 92) (k := 0) (v := nI 0) (by decide +kernel) (by decide) ?_
      exact ex_ireturn (pc := 93) (by decide +kernel) rfl rfl h
    · replace h := h.2 hc
      refine ex_iconst (pc := 88) (k := 1) (v := nI 1) (by decide +kernel) (by decide) ?_
      refine ex_goto (pc := 89) (off := 4) (tgt := 93) (by decide +kernel) (by decide) ?_
      exact ex_ireturn (pc := 93) (by decide +kernel) rfl rfl h
  replace h := h.2
  have n4 := hc
  by_cases hc : l0 = nI 16
  · replace h := h.1 hc
    rw [hc]
    refine ex_tableIn (pc := 1) (dflt := 101) (l9 := 11) (h9 := 17) (offs := #[43, 57, 101, 71, 82, 93, 97]) (len := 43) (off := 93) (tgt := 94) (by decide +kernel) (by decide) (by decide) (by decide +kernel) (by decide) ?_
    refine ex_iload_n (pc := 94) (k := 1) (by decide +kernel) rfl ?_
    refine ex_iload_n (pc := 95) (k := 2) (by decide +kernel) rfl ?_
    refine ex_iadd (pc := 96) (by decide +kernel) ?_
    exact ex_ireturn (pc := 97) (by decide +kernel) rfl rfl h
  replace h := h.2
  have n5 := hc
  by_cases hc : l0 = nI 17
  · replace h := h.1 hc
    rw [hc]
    refine ex_tableIn (pc := 1) (dflt := 101) (l9 := 11) (h9 := 17) (offs := #[43, 57, 101, 71, 82, 93, 97]) (len := 43) (off := 97) (tgt := 98) (by decide +kernel) (by decide) (by decide) (by decide +kernel) (by decide) ?_
    refine ex_iload_n (pc := 98) (k := 1) (by decide +kernel) rfl ?_
    refine ex_iload_n (pc := 99) (k := 2) (by decide +kernel) rfl ?_
    refine ex_isub (pc := 100) (by decide +kernel) ?_
    exact ex_ireturn (pc := 101) (by decide +kernel) rfl rfl h
  replace h := h.2
  have n6 := hc
  refine ex_tableOut (pc := 1) (dflt := 101) (l9 := 11) (h9 := 17) (offs := #[43, 57, 101, 71, 82, 93, 97]) (len := 43) (tgt := 102) (by decide +kernel) (tab_out (fun q hq1 hq2 => ?_)) (by decide) ?_
  · rcases (show q = (11 : Int) ∨ q = (12 : Int) ∨ q = (13 : Int) ∨ q = (14 : Int) ∨ q = (15 : Int) ∨ q = (16 : Int) ∨ q = (17 : Int) by omega) with rfl | rfl | rfl | rfl | rfl | rfl | rfl
    · rw [show Int32.ofInt (11) = nI 11 by decide]; exact n0
    · rw [show Int32.ofInt (12) = nI 12 by decide]; exact n1
    · rw [show Int32.ofInt (13) = nI 13 by decide]; exact n2
    · rw [show Int32.ofInt (14) = nI 14 by decide]; exact n3
    · rw [show Int32.ofInt (15) = nI 15 by decide]; exact n4
    · rw [show Int32.ofInt (16) = nI 16 by decide]; exact n5
    · rw [show Int32.ofInt (17) = nI 17 by decide]; exact n6
  · replace h := h n0 n1 n2 n3 n4 n5 n6
    refine ex_iload_n (pc := 102) (k := 1) (by decide +kernel) rfl ?_
    refine ex_iload_n (pc := 103) (k := 2) (by decide +kernel) rfl ?_
    refine ex_imul (pc := 104) (by decide +kernel) ?_
    exact ex_ireturn (pc := 105) (by decide +kernel) rfl rfl h
theorem k_MM_worth_0 {d bc bs : Nat} {l1 : Int32} {M : Mem} {Φ : Option Value → Mem → Prop} (hF : Fm M) (h : vp_in (((nI 4) * (mi M 78 15)) + l1) 24 ∧ Ex (d + 1) m_MM_worth bc bs 16 [some (.ref 78), some (.int l1), some (.int (nI 0)), some (.int (mi M 88 ((((nI 4) * (mi M 78 15)) + l1).toNatClampNeg))), none] [] M Φ) : Ex (d + 1) m_MM_worth bc bs 0 [some (.ref 78), some (.int l1), none, none, none] [] M Φ := by
  refine ex_iconst (pc := 0) (k := 0) (v := nI 0) (by decide +kernel) (by decide) ?_
  refine ex_istore_n (pc := 1) (k := 2) (lo2 := [some (.ref 78), some (.int l1), some (.int (nI 0)), none, none]) (by decide +kernel) (by decide) rfl ?_
  refine ex_aload_n (pc := 2) (k := 0) (by decide +kernel) rfl ?_
  refine ex_getR (pc := 3) (a := 88) (by decide +kernel) lf_MM_41 (hF.s (j := 78) rfl) (hF.r (j := 78) (k := 13) rfl rfl) ?_
  refine ex_iconst (pc := 6) (k := 4) (v := nI 4) (by decide +kernel) (by decide) ?_
  refine ex_aload_n (pc := 7) (k := 0) (by decide +kernel) rfl ?_
  refine ey_getI (pc := 8) (v := mi M 78 15) (by decide +kernel) lf_MM_233 (hF.s (j := 78) rfl) rfl ?_
  refine ex_imul (pc := 11) (by decide +kernel) ?_
  refine ex_iload_n (pc := 12) (k := 1) (by decide +kernel) rfl ?_
  refine ex_iadd (pc := 13) (by decide +kernel) ?_
  obtain ⟨g1, h⟩ := h
  refine ey_iald (pc := 14) (v := mi M 88 ((((nI 4) * (mi M 78 15)) + l1).toNatClampNeg)) (by decide +kernel) (hF.s (j := 88) rfl) g1 rfl rfl ?_
  refine ex_istore_n (pc := 15) (k := 3) (lo2 := [some (.ref 78), some (.int l1), some (.int (nI 0)), some (.int (mi M 88 ((((nI 4) * (mi M 78 15)) + l1).toNatClampNeg))), none]) (by decide +kernel) (by decide) rfl ?_
  exact h
theorem k_MM_worth_16 {d bc bs : Nat} {l1 : Int32} {l2 : Int32} {l3 : Int32} {M : Mem} {Φ : Option Value → Mem → Prop} (hF : Fm M) (h : vp_in ((((nI 4) * (mi M 78 15)) + l1) + (nI 1)) 24 ∧ ((mi M 88 (((((nI 4) * (mi M 78 15)) + l1) + (nI 1)).toNatClampNeg)) ≤ l3 → Φ (some (.int (mi M 106 0))) M) ∧ (¬ (mi M 88 (((((nI 4) * (mi M 78 15)) + l1) + (nI 1)).toNatClampNeg)) ≤ l3 → vp_in (((nI 200) * (mi M 78 15)) + l3) 1200 ∧ ((nI 100000) ≤ (mi M 87 ((((nI 200) * (mi M 78 15)) + l3).toNatClampNeg)) → Ex (d + 1) m_MM_worth bc bs 66 [some (.ref 78), some (.int l1), some (.int l2), some (.int l3), some (.int (mi M 87 ((((nI 200) * (mi M 78 15)) + l3).toNatClampNeg)))] [] M Φ) ∧ (¬ (nI 100000) ≤ (mi M 87 ((((nI 200) * (mi M 78 15)) + l3).toNatClampNeg)) → ((nI 11) ≤ (mi M 87 ((((nI 200) * (mi M 78 15)) + l3).toNatClampNeg)) → (¬ (mi M 87 ((((nI 200) * (mi M 78 15)) + l3).toNatClampNeg)) = (nI 13) → (¬ (mi M 87 ((((nI 200) * (mi M 78 15)) + l3).toNatClampNeg)) = (nI 19) → vp_in ((l2 + (-1)) - (nI 1)) 200 ∧ vp_in (l2 + (-1)) 200 ∧ Con d m_MM_two 0 0 [.int (mi M 87 ((((nI 200) * (mi M 78 15)) + l3).toNatClampNeg)), .int (mi M 106 (((l2 + (-1)) - (nI 1)).toNatClampNeg)), .int (mi M 106 ((l2 + (-1)).toNatClampNeg))] M (PI fun r1 M1 => Fm M1 ∧ vp_in ((l2 + (-1)) - (nI 1)) 200 ∧ Ex (d + 1) m_MM_worth bc bs 16 [some (.ref 78), some (.int l1), some (.int (l2 + (-1))), some (.int (l3 + nI 1)), none] [] (wi M1 106 (((l2 + (-1)) - (nI 1)).toNatClampNeg) r1) Φ)) ∧ ((mi M 87 ((((nI 200) * (mi M 78 15)) + l3).toNatClampNeg)) = (nI 19) → vp_in (l2 - (nI 1)) 200 ∧ vp_in (l2 - (nI 1)) 200 ∧ Ex (d + 1) m_MM_worth bc bs 16 [some (.ref 78), some (.int l1), some (.int l2), some (.int (l3 + nI 1)), none] [] (wi M 106 ((l2 - (nI 1)).toNatClampNeg) (-(mi M 106 ((l2 - (nI 1)).toNatClampNeg)))) Φ)) ∧ ((mi M 87 ((((nI 200) * (mi M 78 15)) + l3).toNatClampNeg)) = (nI 13) → vp_in (l2 - (nI 1)) 200 ∧ (¬ (mi M 106 ((l2 - (nI 1)).toNatClampNeg)) = 0 → vp_in (l2 - (nI 1)) 200 ∧ Ex (d + 1) m_MM_worth bc bs 16 [some (.ref 78), some (.int l1), some (.int l2), some (.int (l3 + nI 1)), none] [] (wi M 106 ((l2 - (nI 1)).toNatClampNeg) (nI 0)) Φ) ∧ ((mi M 106 ((l2 - (nI 1)).toNatClampNeg)) = 0 → vp_in (l2 - (nI 1)) 200 ∧ Ex (d + 1) m_MM_worth bc bs 16 [some (.ref 78), some (.int l1), some (.int l2), some (.int (l3 + nI 1)), none] [] (wi M 106 ((l2 - (nI 1)).toNatClampNeg) (nI 1)) Φ))) ∧ (¬ (nI 11) ≤ (mi M 87 ((((nI 200) * (mi M 78 15)) + l3).toNatClampNeg)) → Ex (d + 1) m_MM_worth bc bs 66 [some (.ref 78), some (.int l1), some (.int l2), some (.int l3), some (.int (mi M 87 ((((nI 200) * (mi M 78 15)) + l3).toNatClampNeg)))] [] M Φ)))) : Ex (d + 1) m_MM_worth bc bs 16 [some (.ref 78), some (.int l1), some (.int l2), some (.int l3), none] [] M Φ := by
  refine ex_iload_n (pc := 16) (k := 3) (by decide +kernel) rfl ?_
  refine ex_aload_n (pc := 17) (k := 0) (by decide +kernel) rfl ?_
  refine ex_getR (pc := 18) (a := 88) (by decide +kernel) lf_MM_41 (hF.s (j := 78) rfl) (hF.r (j := 78) (k := 13) rfl rfl) ?_
  refine ex_iconst (pc := 21) (k := 4) (v := nI 4) (by decide +kernel) (by decide) ?_
  refine ex_aload_n (pc := 22) (k := 0) (by decide +kernel) rfl ?_
  refine ey_getI (pc := 23) (v := mi M 78 15) (by decide +kernel) lf_MM_233 (hF.s (j := 78) rfl) rfl ?_
  refine ex_imul (pc := 26) (by decide +kernel) ?_
  refine ex_iload_n (pc := 27) (k := 1) (by decide +kernel) rfl ?_
  refine ex_iadd (pc := 28) (by decide +kernel) ?_
  refine ex_iconst (pc := 29) (k := 1) (v := nI 1) (by decide +kernel) (by decide) ?_
  refine ex_iadd (pc := 30) (by decide +kernel) ?_
  obtain ⟨g1, h⟩ := h
  refine ey_iald (pc := 31) (v := mi M 88 (((((nI 4) * (mi M 78 15)) + l1) + (nI 1)).toNatClampNeg)) (by decide +kernel) (hF.s (j := 88) rfl) g1 rfl rfl ?_
  refine ex_icmp_ge (pc := 32) (off := 165) (tgt := 197) (by decide +kernel) (by decide) (fun hc => ?_) (fun hc => ?_)
  · replace h := h.1 hc
    refine ex_aload_n (pc := 197) (k := 0) (by decide +kernel) rfl ?_
    refine ex_getR (pc := 198) (a := 106) (by decide +kernel) lf_MM_121 (hF.s (j := 78) rfl) (hF.r (j := 78) (k := 49) rfl rfl) ?_
    refine ex_iconst (pc := 201) (k := 0) (v := nI 0) (by decide +kernel) (by decide) ?_
    refine ey_iald (pc := 202) (v := mi M 106 0) (by decide +kernel) (hF.s (j := 106) rfl) (vp_in_nI (by decide) (by decide)) (nI_clamp (by decide)) rfl ?_
    exact ex_ireturn (pc := 203) (by decide +kernel) rfl rfl h
  · replace h := h.2 hc
    refine ex_aload_n (pc := 35) (k := 0) (by decide +kernel) rfl ?_
    refine ex_getR (pc := 36) (a := 87) (by decide +kernel) lf_MM_38 (hF.s (j := 78) rfl) (hF.r (j := 78) (k := 12) rfl rfl) ?_
    refine ex_sipush (pc := 39) (k := 200) (v := nI 200) (by decide +kernel) (by decide) ?_
    refine ex_aload_n (pc := 42) (k := 0) (by decide +kernel) rfl ?_
    refine ey_getI (pc := 43) (v := mi M 78 15) (by decide +kernel) lf_MM_233 (hF.s (j := 78) rfl) rfl ?_
    refine ex_imul (pc := 46) (by decide +kernel) ?_
    refine ex_iload_n (pc := 47) (k := 3) (by decide +kernel) rfl ?_
    refine ex_iadd (pc := 48) (by decide +kernel) ?_
    obtain ⟨g2, h⟩ := h
    refine ey_iald (pc := 49) (v := mi M 87 ((((nI 200) * (mi M 78 15)) + l3).toNatClampNeg)) (by decide +kernel) (hF.s (j := 87) rfl) g2 rfl rfl ?_
    refine ex_istore (pc := 50) (k := 4) (lo2 := [some (.ref 78), some (.int l1), some (.int l2), some (.int l3), some (.int (mi M 87 ((((nI 200) * (mi M 78 15)) + l3).toNatClampNeg)))]) (by decide +kernel) (by decide) rfl ?_
    refine ex_iload (pc := 52) (k := 4) (by decide +kernel) rfl ?_
    refine ex_ldc (pc := 54) (v := nI 100000) (by decide +kernel) (in_t6 (i := 70) rfl rfl) ?_
    refine ex_icmp_ge (pc := 56) (off := 10) (tgt := 66) (by decide +kernel) (by decide) (fun hc => ?_) (fun hc => ?_)
    · replace h := h.1 hc
      exact h
    · replace h := h.2 hc
      refine ex_iload (pc := 59) (k := 4) (by decide +kernel) rfl ?_
      refine ex_bipush (pc := 61) (k := 11) (v := nI 11) (by decide +kernel) (by decide) ?_
      refine ex_icmp_ge (pc := 63) (off := 37) (tgt := 100) (by decide +kernel) (by decide) (fun hc => ?_) (fun hc => ?_)
      · replace h := h.1 hc
        refine ex_iload (pc := 100) (k := 4) (by decide +kernel) rfl ?_
        refine ex_bipush (pc := 102) (k := 13) (v := nI 13) (by decide +kernel) (by decide) ?_
        refine ex_icmp_ne (pc := 104) (off := 30) (tgt := 134) (by decide +kernel) (by decide) (fun hc => ?_) (fun hc => ?_)
        · replace h := h.1 hc
          refine ex_iload (pc := 134) (k := 4) (by decide +kernel) rfl ?_
          refine ex_bipush (pc := 136) (k := 19) (v := nI 19) (by decide +kernel) (by decide) ?_
          refine ex_icmp_ne (pc := 138) (off := 23) (tgt := 161) (by decide +kernel) (by decide) (fun hc => ?_) (fun hc => ?_)
          · replace h := h.1 hc
            refine ex_iinc (pc := 161) (i := 2) (k := -1) (v := l2 + (-1)) (lo2 := [some (.ref 78), some (.int l1), some (.int (l2 + (-1))), some (.int l3), some (.int (mi M 87 ((((nI 200) * (mi M 78 15)) + l3).toNatClampNeg)))]) (by decide +kernel) (by decide) rfl rfl rfl ?_
            refine ex_aload_n (pc := 164) (k := 0) (by decide +kernel) rfl ?_
            refine ex_getR (pc := 165) (a := 106) (by decide +kernel) lf_MM_121 (hF.s (j := 78) rfl) (hF.r (j := 78) (k := 49) rfl rfl) ?_
            refine ex_iload_n (pc := 168) (k := 2) (by decide +kernel) rfl ?_
            refine ex_iconst (pc := 169) (k := 1) (v := nI 1) (by decide +kernel) (by decide) ?_
            refine ex_isub (pc := 170) (by decide +kernel) ?_
            refine ex_iload (pc := 171) (k := 4) (by decide +kernel) rfl ?_
            refine ex_aload_n (pc := 173) (k := 0) (by decide +kernel) rfl ?_
            refine ex_getR (pc := 174) (a := 106) (by decide +kernel) lf_MM_121 (hF.s (j := 78) rfl) (hF.r (j := 78) (k := 49) rfl rfl) ?_
            refine ex_iload_n (pc := 177) (k := 2) (by decide +kernel) rfl ?_
            refine ex_iconst (pc := 178) (k := 1) (v := nI 1) (by decide +kernel) (by decide) ?_
            refine ex_isub (pc := 179) (by decide +kernel) ?_
            obtain ⟨g3, h⟩ := h
            refine ey_iald (pc := 180) (v := mi M 106 (((l2 + (-1)) - (nI 1)).toNatClampNeg)) (by decide +kernel) (hF.s (j := 106) rfl) g3 rfl rfl ?_
            refine ex_aload_n (pc := 181) (k := 0) (by decide +kernel) rfl ?_
            refine ex_getR (pc := 182) (a := 106) (by decide +kernel) lf_MM_121 (hF.s (j := 78) rfl) (hF.r (j := 78) (k := 49) rfl rfl) ?_
            refine ex_iload_n (pc := 185) (k := 2) (by decide +kernel) rfl ?_
            obtain ⟨g4, h⟩ := h
            refine ey_iald (pc := 186) (v := mi M 106 ((l2 + (-1)).toNatClampNeg)) (by decide +kernel) (hF.s (j := 106) rfl) g4 rfl rfl ?_
            refine ex_callS (pc := 187) (as := [.int (mi M 87 ((((nI 200) * (mi M 78 15)) + l3).toNatClampNeg)), .int (mi M 106 (((l2 + (-1)) - (nI 1)).toNatClampNeg)), .int (mi M 106 ((l2 + (-1)).toNatClampNeg))]) (by decide +kernel) F_MM_two (in_t6 (i := 119) rfl rfl) rfl rfl (Nat.le_of_ble_eq_true rfl) (Nat.lt_succ_self _) ⟨Nat.zero_le _, Nat.zero_le _⟩ (KC_I (Con.mono h ?_))
            intro o M1 ⟨r1, e9, hF1, h⟩
            refine ⟨r1, e9, ?_⟩
            obtain ⟨g5, h⟩ := h
            refine ey_iast (pc := 190) (by decide +kernel) (hF1.s (j := 106) rfl) g5 rfl ?_
            refine ex_iinc (pc := 191) (i := 3) (k := 1) (v := l3 + nI 1) (lo2 := [some (.ref 78), some (.int l1), some (.int (l2 + (-1))), some (.int (l3 + nI 1)), some (.int (mi M 87 ((((nI 200) * (mi M 78 15)) + l3).toNatClampNeg)))]) (by decide +kernel) (by decide) rfl rfl rfl ?_
            refine ex_goto (pc := 194) (off := -178) (tgt := 16) (by decide +kernel) (by decide) ?_
            exact Ex.msk [true, true, true, true, false] h
          · replace h := h.2 hc
            refine ex_aload_n (pc := 141) (k := 0) (by decide +kernel) rfl ?_
            refine ex_getR (pc := 142) (a := 106) (by decide +kernel) lf_MM_121 (hF.s (j := 78) rfl) (hF.r (j := 78) (k := 49) rfl rfl) ?_
            refine ex_iload_n (pc := 145) (k := 2) (by decide +kernel) rfl ?_
            refine ex_iconst (pc := 146) (k := 1) (v := nI 1) (by decide +kernel) (by decide) ?_
            refine ex_isub (pc := 147) (by decide +kernel) ?_
            refine ex_aload_n (pc := 148) (k := 0) (by decide +kernel) rfl ?_
            refine ex_getR (pc := 149) (a := 106) (by decide +kernel) lf_MM_121 (hF.s (j := 78) rfl) (hF.r (j := 78) (k := 49) rfl rfl) ?_
            refine ex_iload_n (pc := 152) (k := 2) (by decide +kernel) rfl ?_
            refine ex_iconst (pc := 153) (k := 1) (v := nI 1) (by decide +kernel) (by decide) ?_
            refine ex_isub (pc := 154) (by decide +kernel) ?_
            obtain ⟨g6, h⟩ := h
            refine ey_iald (pc := 155) (v := mi M 106 ((l2 - (nI 1)).toNatClampNeg)) (by decide +kernel) (hF.s (j := 106) rfl) g6 rfl rfl ?_
            refine ex_ineg (pc := 156) (by decide +kernel) ?_
            obtain ⟨g7, h⟩ := h
            refine ey_iast (pc := 157) (by decide +kernel) (hF.s (j := 106) rfl) g7 rfl ?_
            refine ex_goto (pc := 158) (off := 33) (tgt := 191) (by decide +kernel) (by decide) ?_
            refine ex_iinc (pc := 191) (i := 3) (k := 1) (v := l3 + nI 1) (lo2 := [some (.ref 78), some (.int l1), some (.int l2), some (.int (l3 + nI 1)), some (.int (mi M 87 ((((nI 200) * (mi M 78 15)) + l3).toNatClampNeg)))]) (by decide +kernel) (by decide) rfl rfl rfl ?_
            refine ex_goto (pc := 194) (off := -178) (tgt := 16) (by decide +kernel) (by decide) ?_
            exact Ex.msk [true, true, true, true, false] h
        · replace h := h.2 hc
          refine ex_aload_n (pc := 107) (k := 0) (by decide +kernel) rfl ?_
          refine ex_getR (pc := 108) (a := 106) (by decide +kernel) lf_MM_121 (hF.s (j := 78) rfl) (hF.r (j := 78) (k := 49) rfl rfl) ?_
          refine ex_iload_n (pc := 111) (k := 2) (by decide +kernel) rfl ?_
          refine ex_iconst (pc := 112) (k := 1) (v := nI 1) (by decide +kernel) (by decide) ?_
          refine ex_isub (pc := 113) (by decide +kernel) ?_
          refine ex_aload_n (pc := 114) (k := 0) (by decide +kernel) rfl ?_
          refine ex_getR (pc := 115) (a := 106) (by decide +kernel) lf_MM_121 (hF.s (j := 78) rfl) (hF.r (j := 78) (k := 49) rfl rfl) ?_
          refine ex_iload_n (pc := 118) (k := 2) (by decide +kernel) rfl ?_
          refine ex_iconst (pc := 119) (k := 1) (v := nI 1) (by decide +kernel) (by decide) ?_
          refine ex_isub (pc := 120) (by decide +kernel) ?_
          obtain ⟨g8, h⟩ := h
          refine ey_iald (pc := 121) (v := mi M 106 ((l2 - (nI 1)).toNatClampNeg)) (by decide +kernel) (hF.s (j := 106) rfl) g8 rfl rfl ?_
          refine ex_if_ne (pc := 122) (off := 7) (tgt := 129) (by decide +kernel) (by decide) (fun hc => ?_) (fun hc => ?_)
          · replace h := h.1 hc
            refine ex_iconst (pc := 129) (k := 0) (v := nI 0) (by decide +kernel) (by decide) ?_
            obtain ⟨g9, h⟩ := h
            refine ey_iast (pc := 130) (by decide +kernel) (hF.s (j := 106) rfl) g9 rfl ?_
            refine ex_goto (pc := 131) (off := 60) (tgt := 191) (by decide +kernel) (by decide) ?_
            refine ex_iinc (pc := 191) (i := 3) (k := 1) (v := l3 + nI 1) (lo2 := [some (.ref 78), some (.int l1), some (.int l2), some (.int (l3 + nI 1)), some (.int (mi M 87 ((((nI 200) * (mi M 78 15)) + l3).toNatClampNeg)))]) (by decide +kernel) (by decide) rfl rfl rfl ?_
            refine ex_goto (pc := 194) (off := -178) (tgt := 16) (by decide +kernel) (by decide) ?_
            exact Ex.msk [true, true, true, true, false] h
          · replace h := h.2 hc
            refine ex_iconst (pc := 125) (k := 1) (v := nI 1) (by decide +kernel) (by decide) ?_
            refine ex_goto (pc := 126) (off := 4) (tgt := 130) (by decide +kernel) (by decide) ?_
            obtain ⟨g10, h⟩ := h
            refine ey_iast (pc := 130) (by decide +kernel) (hF.s (j := 106) rfl) g10 rfl ?_
            refine ex_goto (pc := 131) (off := 60) (tgt := 191) (by decide +kernel) (by decide) ?_
            refine ex_iinc (pc := 191) (i := 3) (k := 1) (v := l3 + nI 1) (lo2 := [some (.ref 78), some (.int l1), some (.int l2), some (.int (l3 + nI 1)), some (.int (mi M 87 ((((nI 200) * (mi M 78 15)) + l3).toNatClampNeg)))]) (by decide +kernel) (by decide) rfl rfl rfl ?_
            refine ex_goto (pc := 194) (off := -178) (tgt := 16) (by decide +kernel) (by decide) ?_
            exact Ex.msk [true, true, true, true, false] h
      · replace h := h.2 hc
        exact h
theorem k_MM_worth_66 {d bc bs : Nat} {l1 : Int32} {l2 : Int32} {l3 : Int32} {l4 : Int32} {M : Mem} {Φ : Option Value → Mem → Prop} (hF : Fm M) (h : ((nI 11) ≤ l4 → vp_in l2 200 ∧ Ex (d + 1) m_MM_worth bc bs 16 [some (.ref 78), some (.int l1), some (.int (l2 + nI 1)), some (.int (l3 + nI 1)), none] [] (wi M 106 l2.toNatClampNeg (l4 - (nI 100000))) Φ) ∧ (¬ (nI 11) ≤ l4 → vp_in l4 6 ∧ vp_in l2 200 ∧ Ex (d + 1) m_MM_worth bc bs 16 [some (.ref 78), some (.int l1), some (.int (l2 + nI 1)), some (.int (l3 + nI 1)), none] [] (wi M 106 l2.toNatClampNeg (mi M 107 l4.toNatClampNeg)) Φ)) : Ex (d + 1) m_MM_worth bc bs 66 [some (.ref 78), some (.int l1), some (.int l2), some (.int l3), some (.int l4)] [] M Φ := by
  refine ex_aload_n (pc := 66) (k := 0) (by decide +kernel) rfl ?_
  refine ex_getR (pc := 67) (a := 106) (by decide +kernel) lf_MM_121 (hF.s (j := 78) rfl) (hF.r (j := 78) (k := 49) rfl rfl) ?_
  refine ex_iload_n (pc := 70) (k := 2) (by decide +kernel) rfl ?_
  refine ex_iload (pc := 71) (k := 4) (by decide +kernel) rfl ?_
  refine ex_bipush (pc := 73) (k := 11) (v := nI 11) (by decide +kernel) (by decide) ?_
  refine ex_icmp_ge (pc := 75) (off := 13) (tgt := 88) (by decide +kernel) (by decide) (fun hc => ?_) (fun hc => ?_)
  · replace h := h.1 hc
    refine ex_iload (pc := 88) (k := 4) (by decide +kernel) rfl ?_
    refine ex_ldc (pc := 90) (v := nI 100000) (by decide +kernel) (in_t6 (i := 70) rfl rfl) ?_
    refine ex_isub (pc := 92) (by decide +kernel) ?_
    obtain ⟨g1, h⟩ := h
    refine ey_iast (pc := 93) (by decide +kernel) (hF.s (j := 106) rfl) g1 rfl ?_
    refine ex_iinc (pc := 94) (i := 2) (k := 1) (v := l2 + nI 1) (lo2 := [some (.ref 78), some (.int l1), some (.int (l2 + nI 1)), some (.int l3), some (.int l4)]) (by decide +kernel) (by decide) rfl rfl rfl ?_
    refine ex_goto (pc := 97) (off := 94) (tgt := 191) (by decide +kernel) (by decide) ?_
    refine ex_iinc (pc := 191) (i := 3) (k := 1) (v := l3 + nI 1) (lo2 := [some (.ref 78), some (.int l1), some (.int (l2 + nI 1)), some (.int (l3 + nI 1)), some (.int l4)]) (by decide +kernel) (by decide) rfl rfl rfl ?_
    refine ex_goto (pc := 194) (off := -178) (tgt := 16) (by decide +kernel) (by decide) ?_
    exact Ex.msk [true, true, true, true, false] h
  · replace h := h.2 hc
    refine ex_aload_n (pc := 78) (k := 0) (by decide +kernel) rfl ?_
    refine ex_getR (pc := 79) (a := 107) (by decide +kernel) lf_MM_124 (hF.s (j := 78) rfl) (hF.r (j := 78) (k := 50) rfl rfl) ?_
    refine ex_iload (pc := 82) (k := 4) (by decide +kernel) rfl ?_
    obtain ⟨g2, h⟩ := h
    refine ey_iald (pc := 84) (v := mi M 107 l4.toNatClampNeg) (by decide +kernel) (hF.s (j := 107) rfl) g2 rfl rfl ?_
    refine ex_goto (pc := 85) (off := 8) (tgt := 93) (by decide +kernel) (by decide) ?_
    obtain ⟨g3, h⟩ := h
    refine ey_iast (pc := 93) (by decide +kernel) (hF.s (j := 106) rfl) g3 rfl ?_
    refine ex_iinc (pc := 94) (i := 2) (k := 1) (v := l2 + nI 1) (lo2 := [some (.ref 78), some (.int l1), some (.int (l2 + nI 1)), some (.int l3), some (.int l4)]) (by decide +kernel) (by decide) rfl rfl rfl ?_
    refine ex_goto (pc := 97) (off := 94) (tgt := 191) (by decide +kernel) (by decide) ?_
    refine ex_iinc (pc := 191) (i := 3) (k := 1) (v := l3 + nI 1) (lo2 := [some (.ref 78), some (.int l1), some (.int (l2 + nI 1)), some (.int (l3 + nI 1)), some (.int l4)]) (by decide +kernel) (by decide) rfl rfl rfl ?_
    refine ex_goto (pc := 194) (off := -178) (tgt := 16) (by decide +kernel) (by decide) ?_
    exact Ex.msk [true, true, true, true, false] h
theorem k_MM_names_0 {d bc bs : Nat} {l1 : Int32} {l2 : Int32} {l3 : Int32} {l4 : Int32} {l5 : Int32} {M : Mem} {Φ : Option Value → Mem → Prop} (hF : Fm M) (h : Φ none (wi (wi (wi (wi (wi (wi M 107 0 l1) 107 1 l2) 107 2 l3) 107 3 l4) 107 4 l5) 107 5 (mi M 78 6))) : Ex (d + 1) m_MM_names bc bs 0 [some (.ref 78), some (.int l1), some (.int l2), some (.int l3), some (.int l4), some (.int l5)] [] M Φ := by
  refine ex_aload_n (pc := 0) (k := 0) (by decide +kernel) rfl ?_
  refine ex_getR (pc := 1) (a := 107) (by decide +kernel) lf_MM_124 (hF.s (j := 78) rfl) (hF.r (j := 78) (k := 50) rfl rfl) ?_
  refine ex_iconst (pc := 4) (k := 0) (v := nI 0) (by decide +kernel) (by decide) ?_
  refine ex_iload_n (pc := 5) (k := 1) (by decide +kernel) rfl ?_
  refine ey_iast (pc := 6) (by decide +kernel) (hF.s (j := 107) rfl) (vp_in_nI (by decide) (by decide)) (nI_clamp (by decide)) ?_
  refine ex_aload_n (pc := 7) (k := 0) (by decide +kernel) rfl ?_
  refine ex_getR (pc := 8) (a := 107) (by decide +kernel) lf_MM_124 (hF.s (j := 78) rfl) (hF.r (j := 78) (k := 50) rfl rfl) ?_
  refine ex_iconst (pc := 11) (k := 1) (v := nI 1) (by decide +kernel) (by decide) ?_
  refine ex_iload_n (pc := 12) (k := 2) (by decide +kernel) rfl ?_
  refine ey_iast (pc := 13) (by decide +kernel) (hF.s (j := 107) rfl) (vp_in_nI (by decide) (by decide)) (nI_clamp (by decide)) ?_
  refine ex_aload_n (pc := 14) (k := 0) (by decide +kernel) rfl ?_
  refine ex_getR (pc := 15) (a := 107) (by decide +kernel) lf_MM_124 (hF.s (j := 78) rfl) (hF.r (j := 78) (k := 50) rfl rfl) ?_
  refine ex_iconst (pc := 18) (k := 2) (v := nI 2) (by decide +kernel) (by decide) ?_
  refine ex_iload_n (pc := 19) (k := 3) (by decide +kernel) rfl ?_
  refine ey_iast (pc := 20) (by decide +kernel) (hF.s (j := 107) rfl) (vp_in_nI (by decide) (by decide)) (nI_clamp (by decide)) ?_
  refine ex_aload_n (pc := 21) (k := 0) (by decide +kernel) rfl ?_
  refine ex_getR (pc := 22) (a := 107) (by decide +kernel) lf_MM_124 (hF.s (j := 78) rfl) (hF.r (j := 78) (k := 50) rfl rfl) ?_
  refine ex_iconst (pc := 25) (k := 3) (v := nI 3) (by decide +kernel) (by decide) ?_
  refine ex_iload (pc := 26) (k := 4) (by decide +kernel) rfl ?_
  refine ey_iast (pc := 28) (by decide +kernel) (hF.s (j := 107) rfl) (vp_in_nI (by decide) (by decide)) (nI_clamp (by decide)) ?_
  refine ex_aload_n (pc := 29) (k := 0) (by decide +kernel) rfl ?_
  refine ex_getR (pc := 30) (a := 107) (by decide +kernel) lf_MM_124 (hF.s (j := 78) rfl) (hF.r (j := 78) (k := 50) rfl rfl) ?_
  refine ex_iconst (pc := 33) (k := 4) (v := nI 4) (by decide +kernel) (by decide) ?_
  refine ex_iload (pc := 34) (k := 5) (by decide +kernel) rfl ?_
  refine ey_iast (pc := 36) (by decide +kernel) (hF.s (j := 107) rfl) (vp_in_nI (by decide) (by decide)) (nI_clamp (by decide)) ?_
  refine ex_aload_n (pc := 37) (k := 0) (by decide +kernel) rfl ?_
  refine ex_getR (pc := 38) (a := 107) (by decide +kernel) lf_MM_124 (hF.s (j := 78) rfl) (hF.r (j := 78) (k := 50) rfl rfl) ?_
  refine ex_iconst (pc := 41) (k := 5) (v := nI 5) (by decide +kernel) (by decide) ?_
  refine ex_aload_n (pc := 42) (k := 0) (by decide +kernel) rfl ?_
  refine ey_getI (pc := 43) (v := mi M 78 6) (by decide +kernel) lf_MM_25 (hF.s (j := 78) rfl) rfl ?_
  refine ey_iast (pc := 46) (by decide +kernel) (hF.s (j := 107) rfl) (vp_in_nI (by decide) (by decide)) (nI_clamp (by decide)) ?_
  exact ex_return (pc := 47) (by decide +kernel) rfl h
theorem k_MM_force_0 {d bc bs : Nat} {l1 : Int32} {M : Mem} {Φ : Option Value → Mem → Prop} (hF : Fm M) (h : Con d m_MM_in 0 0 [.int l1, .int (nI 0), .int ((mi M 78 14) - (nI 1))] M (PB fun r1 M1 => Fm M1 ∧ (r1 = true → Φ (some (.int (mi M1 78 15))) (wi M1 78 15 l1)) ∧ (r1 = false → Φ (some (.int (-2))) M1))) : Ex (d + 1) m_MM_force bc bs 0 [some (.ref 78), some (.int l1), none] [] M Φ := by
  refine ex_iload_n (pc := 0) (k := 1) (by decide +kernel) rfl ?_
  refine ex_iconst (pc := 1) (k := 0) (v := nI 0) (by decide +kernel) (by decide) ?_
  refine ex_aload_n (pc := 2) (k := 0) (by decide +kernel) rfl ?_
  refine ey_getI (pc := 3) (v := mi M 78 14) (by decide +kernel) lf_MM_44 (hF.s (j := 78) rfl) rfl ?_
  refine ex_iconst (pc := 6) (k := 1) (v := nI 1) (by decide +kernel) (by decide) ?_
  refine ex_isub (pc := 7) (by decide +kernel) ?_
  refine ex_callS (pc := 8) (as := [.int l1, .int (nI 0), .int ((mi M 78 14) - (nI 1))]) (by decide +kernel) F_MM_in (in_t6 (i := 11) rfl rfl) rfl rfl (Nat.le_of_ble_eq_true rfl) (Nat.lt_succ_self _) ⟨Nat.zero_le _, Nat.zero_le _⟩ (KC_B (Con.mono h ?_))
  intro o M1 ⟨r1, e9, hF1, h⟩
  refine ⟨r1, e9, ?_⟩
  refine ey_ifneB (pc := 11) (off := 6) (tgt := 17) (by decide +kernel) (by decide) (fun hc => ?_) (fun hc => ?_)
  · replace h := h.1 hc
    refine ex_aload_n (pc := 17) (k := 0) (by decide +kernel) rfl ?_
    refine ey_getI (pc := 18) (v := mi M1 78 15) (by decide +kernel) lf_MM_233 (hF1.s (j := 78) rfl) rfl ?_
    refine ex_istore_n (pc := 21) (k := 2) (lo2 := [some (.ref 78), some (.int l1), some (.int (mi M1 78 15))]) (by decide +kernel) (by decide) rfl ?_
    refine ex_aload_n (pc := 22) (k := 0) (by decide +kernel) rfl ?_
    refine ex_iload_n (pc := 23) (k := 1) (by decide +kernel) rfl ?_
    refine ex_putI (pc := 24) (index := 233) (ci := 11) (k := 15) (fin := false) (by decide +kernel) ⟨_, _, _, _, cf_MM, by decide, in_t5 (i := 91) rfl rfl, rfl, (fun h => by cases h), rfl, rfl⟩ rfl (fun h => by cases h) (hF1.s (j := 78) rfl) ?_
    refine ex_iload_n (pc := 27) (k := 2) (by decide +kernel) rfl ?_
    exact ex_ireturn (pc := 28) (by decide +kernel) rfl rfl h
  · replace h := h.2 hc
    refine ex_bipush (pc := 14) (k := -2) (v := -2) (by decide +kernel) (by decide) ?_
    exact ex_ireturn (pc := 16) (by decide +kernel) rfl rfl h
theorem k_MM_nearOf_0 {d bc bs : Nat} {l1 : Int32} {l2 : Int32} {M : Mem} {Φ : Option Value → Mem → Prop} (hF : Fm M) (h : vp_in (((nI 6) * l1) + l2) 36 ∧ vp_in l1 6 ∧ vp_in l2 6 ∧ Con d m_MM_names 0 0 [.ref 78, .int (mi M 103 ((((nI 6) * l1) + l2).toNatClampNeg)), .int (mi M 79 l1.toNatClampNeg), .int (mi M 79 l2.toNatClampNeg), .int (nI 0), .int (nI 0)] M (PV fun M1 => Fm M1 ∧ Con d m_MM_worth 0 0 [.ref 78, .int (nI 0)] M1 (PI fun r1 M2 => Fm M2 ∧ Φ (some (.int r1)) M2))) : Ex (d + 1) m_MM_nearOf bc bs 0 [some (.ref 78), some (.int l1), some (.int l2)] [] M Φ := by
  refine ex_aload_n (pc := 0) (k := 0) (by decide +kernel) rfl ?_
  refine ex_aload_n (pc := 1) (k := 0) (by decide +kernel) rfl ?_
  refine ex_getR (pc := 2) (a := 103) (by decide +kernel) lf_MM_89 (hF.s (j := 78) rfl) (hF.r (j := 78) (k := 39) rfl rfl) ?_
  refine ex_bipush (pc := 5) (k := 6) (v := nI 6) (by decide +kernel) (by decide) ?_
  refine ex_iload_n (pc := 7) (k := 1) (by decide +kernel) rfl ?_
  refine ex_imul (pc := 8) (by decide +kernel) ?_
  refine ex_iload_n (pc := 9) (k := 2) (by decide +kernel) rfl ?_
  refine ex_iadd (pc := 10) (by decide +kernel) ?_
  obtain ⟨g1, h⟩ := h
  refine ey_iald (pc := 11) (v := mi M 103 ((((nI 6) * l1) + l2).toNatClampNeg)) (by decide +kernel) (hF.s (j := 103) rfl) g1 rfl rfl ?_
  refine ex_aload_n (pc := 12) (k := 0) (by decide +kernel) rfl ?_
  refine ex_getR (pc := 13) (a := 79) (by decide +kernel) lf_MM_7 (hF.s (j := 78) rfl) (hF.r (j := 78) (k := 1) rfl rfl) ?_
  refine ex_iload_n (pc := 16) (k := 1) (by decide +kernel) rfl ?_
  obtain ⟨g2, h⟩ := h
  refine ey_iald (pc := 17) (v := mi M 79 l1.toNatClampNeg) (by decide +kernel) (hF.s (j := 79) rfl) g2 rfl rfl ?_
  refine ex_aload_n (pc := 18) (k := 0) (by decide +kernel) rfl ?_
  refine ex_getR (pc := 19) (a := 79) (by decide +kernel) lf_MM_7 (hF.s (j := 78) rfl) (hF.r (j := 78) (k := 1) rfl rfl) ?_
  refine ex_iload_n (pc := 22) (k := 2) (by decide +kernel) rfl ?_
  obtain ⟨g3, h⟩ := h
  refine ey_iald (pc := 23) (v := mi M 79 l2.toNatClampNeg) (by decide +kernel) (hF.s (j := 79) rfl) g3 rfl rfl ?_
  refine ex_iconst (pc := 24) (k := 0) (v := nI 0) (by decide +kernel) (by decide) ?_
  refine ex_iconst (pc := 25) (k := 0) (v := nI 0) (by decide +kernel) (by decide) ?_
  refine ex_callV (pc := 26) (as := [.int (mi M 103 ((((nI 6) * l1) + l2).toNatClampNeg)), .int (mi M 79 l1.toNatClampNeg), .int (mi M 79 l2.toNatClampNeg), .int (nI 0), .int (nI 0)]) (by decide +kernel) F_MM_names (in_t6 (i := 111) rfl rfl) (hF.s (j := 78) rfl) rfl (by decide) rfl rfl (Nat.le_of_ble_eq_true rfl) (Nat.lt_succ_self _) ⟨Nat.zero_le _, Nat.zero_le _⟩ (KC_V (Con.mono h ?_))
  intro o M1 ⟨e9, hF1, h⟩
  refine ⟨e9, ?_⟩
  refine ex_aload_n (pc := 29) (k := 0) (by decide +kernel) rfl ?_
  refine ex_iconst (pc := 30) (k := 0) (v := nI 0) (by decide +kernel) (by decide) ?_
  refine ex_callV (pc := 31) (as := [.int (nI 0)]) (by decide +kernel) F_MM_worth (in_t6 (i := 115) rfl rfl) (hF1.s (j := 78) rfl) rfl (by decide) rfl rfl (Nat.le_of_ble_eq_true rfl) (Nat.lt_succ_self _) ⟨Nat.zero_le _, Nat.zero_le _⟩ (KC_I (Con.mono h ?_))
  intro o M2 ⟨r1, e9, hF2, h⟩
  refine ⟨r1, e9, ?_⟩
  exact ex_ireturn (pc := 34) (by decide +kernel) rfl rfl h
theorem k_MM_says_0 {d bc bs : Nat} {l1 : Int32} {l2 : Int32} {M : Mem} {Φ : Option Value → Mem → Prop} (hF : Fm M) (h : Con d m_MM_isTown 0 0 [.ref 78, .int l1] M (PB fun r1 M1 => Fm M1 ∧ (r1 = false → Φ (some (.long (-4611686018427387904))) M1) ∧ (r1 = true → Con d m_MM_isTown 0 0 [.ref 78, .int l2] M1 (PB fun r2 M2 => Fm M2 ∧ (r2 = false → Φ (some (.long (-4611686018427387904))) M2) ∧ (r2 = true → (¬ l1 = l2 → Con d m_MM_spreads 0 0 [.ref 78] M2 (PV fun M3 => Fm M3 ∧ Con d m_MM_nearOf 0 0 [.ref 78, .int l1, .int l2] M3 (PI fun r3 M4 => Fm M4 ∧ Φ (some (.long (Int32.toInt64 r3))) M4))) ∧ (l1 = l2 → Φ (some (.long (-4611686018427387904))) M2)))))) : Ex (d + 1) m_MM_says bc bs 0 [some (.ref 78), some (.int l1), some (.int l2)] [] M Φ := by
  refine ex_aload_n (pc := 0) (k := 0) (by decide +kernel) rfl ?_
  refine ex_iload_n (pc := 1) (k := 1) (by decide +kernel) rfl ?_
  refine ex_callV (pc := 2) (as := [.int l1]) (by decide +kernel) F_MM_isTown (in_t6 (i := 18) rfl rfl) (hF.s (j := 78) rfl) rfl (by decide) rfl rfl (Nat.le_of_ble_eq_true rfl) (Nat.lt_succ_self _) ⟨Nat.zero_le _, Nat.zero_le _⟩ (KC_B (Con.mono h ?_))
  intro o M1 ⟨r1, e9, hF1, h⟩
  refine ⟨r1, e9, ?_⟩
  refine ey_ifeqB (pc := 5) (off := 16) (tgt := 21) (by decide +kernel) (by decide) (fun hc => ?_) (fun hc => ?_)
  · replace h := h.1 hc
    refine ex_ldc2 (pc := 21) (v := -4611686018427387904) (by decide +kernel) (in_t6 (i := 106) rfl rfl) ?_
    exact ex_lreturn (pc := 24) (by decide +kernel) rfl h
  · replace h := h.2 hc
    refine ex_aload_n (pc := 8) (k := 0) (by decide +kernel) rfl ?_
    refine ex_iload_n (pc := 9) (k := 2) (by decide +kernel) rfl ?_
    refine ex_callV (pc := 10) (as := [.int l2]) (by decide +kernel) F_MM_isTown (in_t6 (i := 18) rfl rfl) (hF1.s (j := 78) rfl) rfl (by decide) rfl rfl (Nat.le_of_ble_eq_true rfl) (Nat.lt_succ_self _) ⟨Nat.zero_le _, Nat.zero_le _⟩ (KC_B (Con.mono h ?_))
    intro o M2 ⟨r2, e9, hF2, h⟩
    refine ⟨r2, e9, ?_⟩
    refine ey_ifeqB (pc := 13) (off := 8) (tgt := 21) (by decide +kernel) (by decide) (fun hc => ?_) (fun hc => ?_)
    · replace h := h.1 hc
      refine ex_ldc2 (pc := 21) (v := -4611686018427387904) (by decide +kernel) (in_t6 (i := 106) rfl rfl) ?_
      exact ex_lreturn (pc := 24) (by decide +kernel) rfl h
    · replace h := h.2 hc
      refine ex_iload_n (pc := 16) (k := 1) (by decide +kernel) rfl ?_
      refine ex_iload_n (pc := 17) (k := 2) (by decide +kernel) rfl ?_
      refine ex_icmp_ne (pc := 18) (off := 7) (tgt := 25) (by decide +kernel) (by decide) (fun hc => ?_) (fun hc => ?_)
      · replace h := h.1 hc
        refine ex_aload_n (pc := 25) (k := 0) (by decide +kernel) rfl ?_
        refine ex_callV (pc := 26) (as := []) (by decide +kernel) F_MM_spreads (in_t6 (i := 26) rfl rfl) (hF2.s (j := 78) rfl) rfl (by decide) rfl rfl (Nat.le_of_ble_eq_true rfl) (Nat.lt_succ_self _) ⟨Nat.zero_le _, Nat.zero_le _⟩ (KC_V (Con.mono h ?_))
        intro o M3 ⟨e9, hF3, h⟩
        refine ⟨e9, ?_⟩
        refine ex_aload_n (pc := 29) (k := 0) (by decide +kernel) rfl ?_
        refine ex_iload_n (pc := 30) (k := 1) (by decide +kernel) rfl ?_
        refine ex_iload_n (pc := 31) (k := 2) (by decide +kernel) rfl ?_
        refine ex_callV (pc := 32) (as := [.int l1, .int l2]) (by decide +kernel) F_MM_nearOf (in_t6 (i := 107) rfl rfl) (hF3.s (j := 78) rfl) rfl (by decide) rfl rfl (Nat.le_of_ble_eq_true rfl) (Nat.lt_succ_self _) ⟨Nat.zero_le _, Nat.zero_le _⟩ (KC_I (Con.mono h ?_))
        intro o M4 ⟨r3, e9, hF4, h⟩
        refine ⟨r3, e9, ?_⟩
        refine ex_i2l (pc := 35) (by decide +kernel) ?_
        exact ex_lreturn (pc := 36) (by decide +kernel) rfl h
      · replace h := h.2 hc
        refine ex_ldc2 (pc := 21) (v := -4611686018427387904) (by decide +kernel) (in_t6 (i := 106) rfl rfl) ?_
        exact ex_lreturn (pc := 24) (by decide +kernel) rfl h
theorem k_MM_worthBy_0 {d bc bs : Nat} {l1 : Int32} {l2 : Int32} {l3 : Int32} {l4 : Int32} {M : Mem} {Φ : Option Value → Mem → Prop} (hF : Fm M) (h : vp_in l1 6 ∧ vp_in l1 6 ∧ (¬ (mi M 81 l1.toNatClampNeg) = l2 → Con d m_MM_names 0 0 [.ref 78, .int l3, .int (mi M 79 l1.toNatClampNeg), .int l4, .int l2, .int (nI 0)] M (PV fun M1 => Fm M1 ∧ Con d m_MM_worth 0 0 [.ref 78, .int (nI 1)] M1 (PI fun r1 M2 => Fm M2 ∧ (r1 ≤ (nI 999) → ((-999) ≤ r1 → Φ (some (.int r1)) M2) ∧ (¬ (-999) ≤ r1 → Φ (some (.int (-999))) M2)) ∧ (¬ r1 ≤ (nI 999) → Φ (some (.int (nI 999))) M2)))) ∧ ((mi M 81 l1.toNatClampNeg) = l2 → Con d m_MM_names 0 0 [.ref 78, .int l3, .int (mi M 79 l1.toNatClampNeg), .int l4, .int l2, .int (nI 1)] M (PV fun M3 => Fm M3 ∧ Con d m_MM_worth 0 0 [.ref 78, .int (nI 1)] M3 (PI fun r2 M4 => Fm M4 ∧ (r2 ≤ (nI 999) → ((-999) ≤ r2 → Φ (some (.int r2)) M4) ∧ (¬ (-999) ≤ r2 → Φ (some (.int (-999))) M4)) ∧ (¬ r2 ≤ (nI 999) → Φ (some (.int (nI 999))) M4))))) : Ex (d + 1) m_MM_worthBy bc bs 0 [some (.ref 78), some (.int l1), some (.int l2), some (.int l3), some (.int l4), none] [] M Φ := by
  refine ex_aload_n (pc := 0) (k := 0) (by decide +kernel) rfl ?_
  refine ex_iload_n (pc := 1) (k := 3) (by decide +kernel) rfl ?_
  refine ex_aload_n (pc := 2) (k := 0) (by decide +kernel) rfl ?_
  refine ex_getR (pc := 3) (a := 79) (by decide +kernel) lf_MM_7 (hF.s (j := 78) rfl) (hF.r (j := 78) (k := 1) rfl rfl) ?_
  refine ex_iload_n (pc := 6) (k := 1) (by decide +kernel) rfl ?_
  obtain ⟨g1, h⟩ := h
  refine ey_iald (pc := 7) (v := mi M 79 l1.toNatClampNeg) (by decide +kernel) (hF.s (j := 79) rfl) g1 rfl rfl ?_
  refine ex_iload (pc := 8) (k := 4) (by decide +kernel) rfl ?_
  refine ex_iload_n (pc := 10) (k := 2) (by decide +kernel) rfl ?_
  refine ex_aload_n (pc := 11) (k := 0) (by decide +kernel) rfl ?_
  refine ex_getR (pc := 12) (a := 81) (by decide +kernel) lf_MM_16 (hF.s (j := 78) rfl) (hF.r (j := 78) (k := 3) rfl rfl) ?_
  refine ex_iload_n (pc := 15) (k := 1) (by decide +kernel) rfl ?_
  obtain ⟨g2, h⟩ := h
  refine ey_iald (pc := 16) (v := mi M 81 l1.toNatClampNeg) (by decide +kernel) (hF.s (j := 81) rfl) g2 rfl rfl ?_
  refine ex_iload_n (pc := 17) (k := 2) (by decide +kernel) rfl ?_
  refine ex_icmp_ne (pc := 18) (off := 7) (tgt := 25) (by decide +kernel) (by decide) (fun hc => ?_) (fun hc => ?_)
  · replace h := h.1 hc
    refine ex_iconst (pc := 25) (k := 0) (v := nI 0) (by decide +kernel) (by decide) ?_
    refine ex_callV (pc := 26) (as := [.int l3, .int (mi M 79 l1.toNatClampNeg), .int l4, .int l2, .int (nI 0)]) (by decide +kernel) F_MM_names (in_t6 (i := 111) rfl rfl) (hF.s (j := 78) rfl) rfl (by decide) rfl rfl (Nat.le_of_ble_eq_true rfl) (Nat.lt_succ_self _) ⟨Nat.zero_le _, Nat.zero_le _⟩ (KC_V (Con.mono h ?_))
    intro o M1 ⟨e9, hF1, h⟩
    refine ⟨e9, ?_⟩
    refine ex_aload_n (pc := 29) (k := 0) (by decide +kernel) rfl ?_
    refine ex_iconst (pc := 30) (k := 1) (v := nI 1) (by decide +kernel) (by decide) ?_
    refine ex_callV (pc := 31) (as := [.int (nI 1)]) (by decide +kernel) F_MM_worth (in_t6 (i := 115) rfl rfl) (hF1.s (j := 78) rfl) rfl (by decide) rfl rfl (Nat.le_of_ble_eq_true rfl) (Nat.lt_succ_self _) ⟨Nat.zero_le _, Nat.zero_le _⟩ (KC_I (Con.mono h ?_))
    intro o M2 ⟨r1, e9, hF2, h⟩
    refine ⟨r1, e9, ?_⟩
    refine ex_istore (pc := 34) (k := 5) (lo2 := [some (.ref 78), some (.int l1), some (.int l2), some (.int l3), some (.int l4), some (.int r1)]) (by decide +kernel) (by decide) rfl ?_
    refine ex_iload (pc := 36) (k := 5) (by decide +kernel) rfl ?_
    refine ex_sipush (pc := 38) (k := 999) (v := nI 999) (by decide +kernel) (by decide) ?_
    refine ex_icmp_le (pc := 41) (off := 9) (tgt := 50) (by decide +kernel) (by decide) (fun hc => ?_) (fun hc => ?_)
    · replace h := h.1 hc
      refine ex_iload (pc := 50) (k := 5) (by decide +kernel) rfl ?_
      refine ex_sipush (pc := 52) (k := -999) (v := -999) (by decide +kernel) (by decide) ?_
      refine ex_icmp_ge (pc := 55) (off := 9) (tgt := 64) (by decide +kernel) (by decide) (fun hc => ?_) (fun hc => ?_)
      · replace h := h.1 hc
        refine ex_iload (pc := 64) (k := 5) (by decide +kernel) rfl ?_
        exact ex_ireturn (pc := 66) (by decide +kernel) rfl rfl h
      · replace h := h.2 hc
        refine ex_sipush (pc := 58) (k := -999) (v := -999) (by decide +kernel) (by decide) ?_
        refine ex_goto (pc := 61) (off := 5) (tgt := 66) (by decide +kernel) (by decide) ?_
        exact ex_ireturn (pc := 66) (by decide +kernel) rfl rfl h
    · replace h := h.2 hc
      refine ex_sipush (pc := 44) (k := 999) (v := nI 999) (by decide +kernel) (by decide) ?_
      refine ex_goto (pc := 47) (off := 19) (tgt := 66) (by decide +kernel) (by decide) ?_
      exact ex_ireturn (pc := 66) (by decide +kernel) rfl rfl h
  · replace h := h.2 hc
    refine ex_iconst (pc := 21) (k := 1) (v := nI 1) (by decide +kernel) (by decide) ?_
    refine ex_goto (pc := 22) (off := 4) (tgt := 26) (by decide +kernel) (by decide) ?_
    refine ex_callV (pc := 26) (as := [.int l3, .int (mi M 79 l1.toNatClampNeg), .int l4, .int l2, .int (nI 1)]) (by decide +kernel) F_MM_names (in_t6 (i := 111) rfl rfl) (hF.s (j := 78) rfl) rfl (by decide) rfl rfl (Nat.le_of_ble_eq_true rfl) (Nat.lt_succ_self _) ⟨Nat.zero_le _, Nat.zero_le _⟩ (KC_V (Con.mono h ?_))
    intro o M3 ⟨e9, hF3, h⟩
    refine ⟨e9, ?_⟩
    refine ex_aload_n (pc := 29) (k := 0) (by decide +kernel) rfl ?_
    refine ex_iconst (pc := 30) (k := 1) (v := nI 1) (by decide +kernel) (by decide) ?_
    refine ex_callV (pc := 31) (as := [.int (nI 1)]) (by decide +kernel) F_MM_worth (in_t6 (i := 115) rfl rfl) (hF3.s (j := 78) rfl) rfl (by decide) rfl rfl (Nat.le_of_ble_eq_true rfl) (Nat.lt_succ_self _) ⟨Nat.zero_le _, Nat.zero_le _⟩ (KC_I (Con.mono h ?_))
    intro o M4 ⟨r2, e9, hF4, h⟩
    refine ⟨r2, e9, ?_⟩
    refine ex_istore (pc := 34) (k := 5) (lo2 := [some (.ref 78), some (.int l1), some (.int l2), some (.int l3), some (.int l4), some (.int r2)]) (by decide +kernel) (by decide) rfl ?_
    refine ex_iload (pc := 36) (k := 5) (by decide +kernel) rfl ?_
    refine ex_sipush (pc := 38) (k := 999) (v := nI 999) (by decide +kernel) (by decide) ?_
    refine ex_icmp_le (pc := 41) (off := 9) (tgt := 50) (by decide +kernel) (by decide) (fun hc => ?_) (fun hc => ?_)
    · replace h := h.1 hc
      refine ex_iload (pc := 50) (k := 5) (by decide +kernel) rfl ?_
      refine ex_sipush (pc := 52) (k := -999) (v := -999) (by decide +kernel) (by decide) ?_
      refine ex_icmp_ge (pc := 55) (off := 9) (tgt := 64) (by decide +kernel) (by decide) (fun hc => ?_) (fun hc => ?_)
      · replace h := h.1 hc
        refine ex_iload (pc := 64) (k := 5) (by decide +kernel) rfl ?_
        exact ex_ireturn (pc := 66) (by decide +kernel) rfl rfl h
      · replace h := h.2 hc
        refine ex_sipush (pc := 58) (k := -999) (v := -999) (by decide +kernel) (by decide) ?_
        refine ex_goto (pc := 61) (off := 5) (tgt := 66) (by decide +kernel) (by decide) ?_
        exact ex_ireturn (pc := 66) (by decide +kernel) rfl rfl h
    · replace h := h.2 hc
      refine ex_sipush (pc := 44) (k := 999) (v := nI 999) (by decide +kernel) (by decide) ?_
      refine ex_goto (pc := 47) (off := 19) (tgt := 66) (by decide +kernel) (by decide) ?_
      exact ex_ireturn (pc := 66) (by decide +kernel) rfl rfl h
theorem k_MM_worthOf_0 {d bc bs : Nat} {l1 : Int32} {l2 : Int32} {l3 : Int32} {l4 : Int32} {M : Mem} {Φ : Option Value → Mem → Prop} (hF : Fm M) (h : Con d m_MM_isTown 0 0 [.ref 78, .int l1] M (PB fun r1 M1 => Fm M1 ∧ (r1 = false → Φ (some (.long (-4611686018427387904))) M1) ∧ (r1 = true → Con d m_MM_in 0 0 [.int l2, .int (nI 0), .int ((mi M1 78 6) - (nI 1))] M1 (PB fun r2 M2 => Fm M2 ∧ (r2 = false → Φ (some (.long (-4611686018427387904))) M2) ∧ (r2 = true → Con d m_MM_in 0 0 [.int l3, .int (nI 0), .int (nI 99)] M2 (PB fun r3 M3 => Fm M3 ∧ (r3 = false → Φ (some (.long (-4611686018427387904))) M3) ∧ (r3 = true → Con d m_MM_in 0 0 [.int l4, .int (nI 0), .int (nI 6)] M3 (PB fun r4 M4 => Fm M4 ∧ (r4 = false → Φ (some (.long (-4611686018427387904))) M4) ∧ (r4 = true → Con d m_MM_worthBy 0 0 [.ref 78, .int l1, .int l2, .int l3, .int l4] M4 (PI fun r5 M5 => Fm M5 ∧ Φ (some (.long (Int32.toInt64 r5))) M5)))))))))) : Ex (d + 1) m_MM_worthOf bc bs 0 [some (.ref 78), some (.int l1), some (.int l2), some (.int l3), some (.int l4)] [] M Φ := by
  refine ex_aload_n (pc := 0) (k := 0) (by decide +kernel) rfl ?_
  refine ex_iload_n (pc := 1) (k := 1) (by decide +kernel) rfl ?_
  refine ex_callV (pc := 2) (as := [.int l1]) (by decide +kernel) F_MM_isTown (in_t6 (i := 18) rfl rfl) (hF.s (j := 78) rfl) rfl (by decide) rfl rfl (Nat.le_of_ble_eq_true rfl) (Nat.lt_succ_self _) ⟨Nat.zero_le _, Nat.zero_le _⟩ (KC_B (Con.mono h ?_))
  intro o M1 ⟨r1, e9, hF1, h⟩
  refine ⟨r1, e9, ?_⟩
  refine ey_ifeqB (pc := 5) (off := 51) (tgt := 56) (by decide +kernel) (by decide) (fun hc => ?_) (fun hc => ?_)
  · replace h := h.1 hc
    refine ex_ldc2 (pc := 56) (v := -4611686018427387904) (by decide +kernel) (in_t6 (i := 106) rfl rfl) ?_
    exact ex_lreturn (pc := 59) (by decide +kernel) rfl h
  · replace h := h.2 hc
    refine ex_iload_n (pc := 8) (k := 2) (by decide +kernel) rfl ?_
    refine ex_iconst (pc := 9) (k := 0) (v := nI 0) (by decide +kernel) (by decide) ?_
    refine ex_aload_n (pc := 10) (k := 0) (by decide +kernel) rfl ?_
    refine ey_getI (pc := 11) (v := mi M1 78 6) (by decide +kernel) lf_MM_25 (hF1.s (j := 78) rfl) rfl ?_
    refine ex_iconst (pc := 14) (k := 1) (v := nI 1) (by decide +kernel) (by decide) ?_
    refine ex_isub (pc := 15) (by decide +kernel) ?_
    refine ex_callS (pc := 16) (as := [.int l2, .int (nI 0), .int ((mi M1 78 6) - (nI 1))]) (by decide +kernel) F_MM_in (in_t6 (i := 11) rfl rfl) rfl rfl (Nat.le_of_ble_eq_true rfl) (Nat.lt_succ_self _) ⟨Nat.zero_le _, Nat.zero_le _⟩ (KC_B (Con.mono h ?_))
    intro o M2 ⟨r2, e9, hF2, h⟩
    refine ⟨r2, e9, ?_⟩
    refine ey_ifeqB (pc := 19) (off := 37) (tgt := 56) (by decide +kernel) (by decide) (fun hc => ?_) (fun hc => ?_)
    · replace h := h.1 hc
      refine ex_ldc2 (pc := 56) (v := -4611686018427387904) (by decide +kernel) (in_t6 (i := 106) rfl rfl) ?_
      exact ex_lreturn (pc := 59) (by decide +kernel) rfl h
    · replace h := h.2 hc
      refine ex_iload_n (pc := 22) (k := 3) (by decide +kernel) rfl ?_
      refine ex_iconst (pc := 23) (k := 0) (v := nI 0) (by decide +kernel) (by decide) ?_
      refine ex_bipush (pc := 24) (k := 99) (v := nI 99) (by decide +kernel) (by decide) ?_
      refine ex_callS (pc := 26) (as := [.int l3, .int (nI 0), .int (nI 99)]) (by decide +kernel) F_MM_in (in_t6 (i := 11) rfl rfl) rfl rfl (Nat.le_of_ble_eq_true rfl) (Nat.lt_succ_self _) ⟨Nat.zero_le _, Nat.zero_le _⟩ (KC_B (Con.mono h ?_))
      intro o M3 ⟨r3, e9, hF3, h⟩
      refine ⟨r3, e9, ?_⟩
      refine ey_ifeqB (pc := 29) (off := 27) (tgt := 56) (by decide +kernel) (by decide) (fun hc => ?_) (fun hc => ?_)
      · replace h := h.1 hc
        refine ex_ldc2 (pc := 56) (v := -4611686018427387904) (by decide +kernel) (in_t6 (i := 106) rfl rfl) ?_
        exact ex_lreturn (pc := 59) (by decide +kernel) rfl h
      · replace h := h.2 hc
        refine ex_iload (pc := 32) (k := 4) (by decide +kernel) rfl ?_
        refine ex_iconst (pc := 34) (k := 0) (v := nI 0) (by decide +kernel) (by decide) ?_
        refine ex_bipush (pc := 35) (k := 6) (v := nI 6) (by decide +kernel) (by decide) ?_
        refine ex_callS (pc := 37) (as := [.int l4, .int (nI 0), .int (nI 6)]) (by decide +kernel) F_MM_in (in_t6 (i := 11) rfl rfl) rfl rfl (Nat.le_of_ble_eq_true rfl) (Nat.lt_succ_self _) ⟨Nat.zero_le _, Nat.zero_le _⟩ (KC_B (Con.mono h ?_))
        intro o M4 ⟨r4, e9, hF4, h⟩
        refine ⟨r4, e9, ?_⟩
        refine ey_ifeqB (pc := 40) (off := 16) (tgt := 56) (by decide +kernel) (by decide) (fun hc => ?_) (fun hc => ?_)
        · replace h := h.1 hc
          refine ex_ldc2 (pc := 56) (v := -4611686018427387904) (by decide +kernel) (in_t6 (i := 106) rfl rfl) ?_
          exact ex_lreturn (pc := 59) (by decide +kernel) rfl h
        · replace h := h.2 hc
          refine ex_aload_n (pc := 43) (k := 0) (by decide +kernel) rfl ?_
          refine ex_iload_n (pc := 44) (k := 1) (by decide +kernel) rfl ?_
          refine ex_iload_n (pc := 45) (k := 2) (by decide +kernel) rfl ?_
          refine ex_iload_n (pc := 46) (k := 3) (by decide +kernel) rfl ?_
          refine ex_iload (pc := 47) (k := 4) (by decide +kernel) rfl ?_
          refine ex_callV (pc := 49) (as := [.int l1, .int l2, .int l3, .int l4]) (by decide +kernel) F_MM_worthBy (in_t6 (i := 126) rfl rfl) (hF4.s (j := 78) rfl) rfl (by decide) rfl rfl (Nat.le_of_ble_eq_true rfl) (Nat.lt_succ_self _) ⟨Nat.zero_le _, Nat.zero_le _⟩ (KC_I (Con.mono h ?_))
          intro o M5 ⟨r5, e9, hF5, h⟩
          refine ⟨r5, e9, ?_⟩
          refine ex_i2l (pc := 52) (by decide +kernel) ?_
          refine ex_goto (pc := 53) (off := 6) (tgt := 59) (by decide +kernel) (by decide) ?_
          exact ex_lreturn (pc := 59) (by decide +kernel) rfl h
theorem k_MM_looks_0 {d bc bs : Nat}  {M : Mem} {Φ : Option Value → Mem → Prop} (hF : Fm M) (h : Con d m_MM_spreads 0 0 [.ref 78] M (PV fun M1 => Fm M1 ∧ Ex (d + 1) m_MM_looks bc bs 6 [some (.ref 78), some (.int (nI 0)), none] [] M1 Φ)) : Ex (d + 1) m_MM_looks bc bs 0 [some (.ref 78), none, none] [] M Φ := by
  refine ex_aload_n (pc := 0) (k := 0) (by decide +kernel) rfl ?_
  refine ex_callV (pc := 1) (as := []) (by decide +kernel) F_MM_spreads (in_t6 (i := 26) rfl rfl) (hF.s (j := 78) rfl) rfl (by decide) rfl rfl (Nat.le_of_ble_eq_true rfl) (Nat.lt_succ_self _) ⟨Nat.zero_le _, Nat.zero_le _⟩ (KC_V (Con.mono h ?_))
  intro o M1 ⟨e9, hF1, h⟩
  refine ⟨e9, ?_⟩
  refine ex_iconst (pc := 4) (k := 0) (v := nI 0) (by decide +kernel) (by decide) ?_
  refine ex_istore_n (pc := 5) (k := 1) (lo2 := [some (.ref 78), some (.int (nI 0)), none]) (by decide +kernel) (by decide) rfl ?_
  exact h
theorem k_MM_looks_6 {d bc bs : Nat} {l1 : Int32} {M : Mem} {Φ : Option Value → Mem → Prop} (hF : Fm M) (h : ((mi M 78 0) ≤ l1 → Φ none M) ∧ (¬ (mi M 78 0) ≤ l1 → Ex (d + 1) m_MM_looks bc bs 18 [some (.ref 78), some (.int l1), some (.int (l1 + (nI 1)))] [] M Φ)) : Ex (d + 1) m_MM_looks bc bs 6 [some (.ref 78), some (.int l1), none] [] M Φ := by
  refine ex_iload_n (pc := 6) (k := 1) (by decide +kernel) rfl ?_
  refine ex_aload_n (pc := 7) (k := 0) (by decide +kernel) rfl ?_
  refine ey_getI (pc := 8) (v := mi M 78 0) (by decide +kernel) lf_MM_151 (hF.s (j := 78) rfl) rfl ?_
  refine ex_icmp_ge (pc := 11) (off := 74) (tgt := 85) (by decide +kernel) (by decide) (fun hc => ?_) (fun hc => ?_)
  · replace h := h.1 hc
    exact ex_return (pc := 85) (by decide +kernel) rfl h
  · replace h := h.2 hc
    refine ex_iload_n (pc := 14) (k := 1) (by decide +kernel) rfl ?_
    refine ex_iconst (pc := 15) (k := 1) (v := nI 1) (by decide +kernel) (by decide) ?_
    refine ex_iadd (pc := 16) (by decide +kernel) ?_
    refine ex_istore_n (pc := 17) (k := 2) (lo2 := [some (.ref 78), some (.int l1), some (.int (l1 + (nI 1)))]) (by decide +kernel) (by decide) rfl ?_
    exact h
theorem k_MM_looks_18 {d bc bs : Nat} {l1 : Int32} {l2 : Int32} {M : Mem} {Φ : Option Value → Mem → Prop} (hF : Fm M) (h : ((mi M 78 0) ≤ l2 → Ex (d + 1) m_MM_looks bc bs 6 [some (.ref 78), some (.int (l1 + nI 1)), none] [] M Φ) ∧ (¬ (mi M 78 0) ≤ l2 → Con d m_MM_nearOf 0 0 [.ref 78, .int l1, .int l2] M (PI fun r1 M1 => Fm M1 ∧ (r1 = 0 → vp_in (((nI 6) * l1) + l2) 36 ∧ vp_in (((nI 6) * l1) + l2) 36 ∧ vp_in (((nI 6) * l2) + l1) 36 ∧ narrow .boolean (.int (mi (wi M1 108 ((((nI 6) * l1) + l2).toNatClampNeg) (nI 0)) 108 ((((nI 6) * l1) + l2).toNatClampNeg))) = .int (mi (wi M1 108 ((((nI 6) * l1) + l2).toNatClampNeg) (nI 0)) 108 ((((nI 6) * l1) + l2).toNatClampNeg)) ∧ Ex (d + 1) m_MM_looks bc bs 18 [some (.ref 78), some (.int l1), some (.int (l2 + nI 1))] [] (wi (wi M1 108 ((((nI 6) * l1) + l2).toNatClampNeg) (nI 0)) 108 ((((nI 6) * l2) + l1).toNatClampNeg) (mi (wi M1 108 ((((nI 6) * l1) + l2).toNatClampNeg) (nI 0)) 108 ((((nI 6) * l1) + l2).toNatClampNeg))) Φ) ∧ (¬ r1 = 0 → vp_in (((nI 6) * l1) + l2) 36 ∧ vp_in (((nI 6) * l1) + l2) 36 ∧ vp_in (((nI 6) * l2) + l1) 36 ∧ narrow .boolean (.int (mi (wi M1 108 ((((nI 6) * l1) + l2).toNatClampNeg) (nI 1)) 108 ((((nI 6) * l1) + l2).toNatClampNeg))) = .int (mi (wi M1 108 ((((nI 6) * l1) + l2).toNatClampNeg) (nI 1)) 108 ((((nI 6) * l1) + l2).toNatClampNeg)) ∧ Ex (d + 1) m_MM_looks bc bs 18 [some (.ref 78), some (.int l1), some (.int (l2 + nI 1))] [] (wi (wi M1 108 ((((nI 6) * l1) + l2).toNatClampNeg) (nI 1)) 108 ((((nI 6) * l2) + l1).toNatClampNeg) (mi (wi M1 108 ((((nI 6) * l1) + l2).toNatClampNeg) (nI 1)) 108 ((((nI 6) * l1) + l2).toNatClampNeg))) Φ)))) : Ex (d + 1) m_MM_looks bc bs 18 [some (.ref 78), some (.int l1), some (.int l2)] [] M Φ := by
  refine ex_iload_n (pc := 18) (k := 2) (by decide +kernel) rfl ?_
  refine ex_aload_n (pc := 19) (k := 0) (by decide +kernel) rfl ?_
  refine ey_getI (pc := 20) (v := mi M 78 0) (by decide +kernel) lf_MM_151 (hF.s (j := 78) rfl) rfl ?_
  refine ex_icmp_ge (pc := 23) (off := 56) (tgt := 79) (by decide +kernel) (by decide) (fun hc => ?_) (fun hc => ?_)
  · replace h := h.1 hc
    refine ex_iinc (pc := 79) (i := 1) (k := 1) (v := l1 + nI 1) (lo2 := [some (.ref 78), some (.int (l1 + nI 1)), some (.int l2)]) (by decide +kernel) (by decide) rfl rfl rfl ?_
    refine ex_goto (pc := 82) (off := -76) (tgt := 6) (by decide +kernel) (by decide) ?_
    exact Ex.msk [true, true, false] h
  · replace h := h.2 hc
    refine ex_aload_n (pc := 26) (k := 0) (by decide +kernel) rfl ?_
    refine ex_getR (pc := 27) (a := 108) (by decide +kernel) lf_MM_127 (hF.s (j := 78) rfl) (hF.r (j := 78) (k := 51) rfl rfl) ?_
    refine ex_bipush (pc := 30) (k := 6) (v := nI 6) (by decide +kernel) (by decide) ?_
    refine ex_iload_n (pc := 32) (k := 1) (by decide +kernel) rfl ?_
    refine ex_imul (pc := 33) (by decide +kernel) ?_
    refine ex_iload_n (pc := 34) (k := 2) (by decide +kernel) rfl ?_
    refine ex_iadd (pc := 35) (by decide +kernel) ?_
    refine ex_aload_n (pc := 36) (k := 0) (by decide +kernel) rfl ?_
    refine ex_iload_n (pc := 37) (k := 1) (by decide +kernel) rfl ?_
    refine ex_iload_n (pc := 38) (k := 2) (by decide +kernel) rfl ?_
    refine ex_callV (pc := 39) (as := [.int l1, .int l2]) (by decide +kernel) F_MM_nearOf (in_t6 (i := 107) rfl rfl) (hF.s (j := 78) rfl) rfl (by decide) rfl rfl (Nat.le_of_ble_eq_true rfl) (Nat.lt_succ_self _) ⟨Nat.zero_le _, Nat.zero_le _⟩ (KC_I (Con.mono h ?_))
    intro o M1 ⟨r1, e9, hF1, h⟩
    refine ⟨r1, e9, ?_⟩
    refine ex_if_eq (pc := 42) (off := 7) (tgt := 49) (by decide +kernel) (by decide) (fun hc => ?_) (fun hc => ?_)
    · replace h := h.1 hc
      refine ex_iconst (pc := 49) (k := 0) (v := nI 0) (by decide +kernel) (by decide) ?_
      obtain ⟨g1, h⟩ := h
      refine ey_zast (pc := 50) (by decide +kernel) (hF1.s (j := 108) rfl) g1 rfl (by decide) ?_
      refine ex_aload_n (pc := 51) (k := 0) (by decide +kernel) rfl ?_
      refine ex_getR (pc := 52) (a := 108) (by decide +kernel) lf_MM_127 (hF1.s (j := 78) rfl) (hF1.r (j := 78) (k := 51) rfl rfl) ?_
      refine ex_bipush (pc := 55) (k := 6) (v := nI 6) (by decide +kernel) (by decide) ?_
      refine ex_iload_n (pc := 57) (k := 2) (by decide +kernel) rfl ?_
      refine ex_imul (pc := 58) (by decide +kernel) ?_
      refine ex_iload_n (pc := 59) (k := 1) (by decide +kernel) rfl ?_
      refine ex_iadd (pc := 60) (by decide +kernel) ?_
      refine ex_aload_n (pc := 61) (k := 0) (by decide +kernel) rfl ?_
      refine ex_getR (pc := 62) (a := 108) (by decide +kernel) lf_MM_127 (hF1.s (j := 78) rfl) (hF1.r (j := 78) (k := 51) rfl rfl) ?_
      refine ex_bipush (pc := 65) (k := 6) (v := nI 6) (by decide +kernel) (by decide) ?_
      refine ex_iload_n (pc := 67) (k := 1) (by decide +kernel) rfl ?_
      refine ex_imul (pc := 68) (by decide +kernel) ?_
      refine ex_iload_n (pc := 69) (k := 2) (by decide +kernel) rfl ?_
      refine ex_iadd (pc := 70) (by decide +kernel) ?_
      obtain ⟨g2, h⟩ := h
      refine ey_zald (pc := 71) (v := mi (wi M1 108 ((((nI 6) * l1) + l2).toNatClampNeg) (nI 0)) 108 ((((nI 6) * l1) + l2).toNatClampNeg)) (by decide +kernel) (hF1.s (j := 108) rfl) g2 rfl rfl ?_
      obtain ⟨g3, h⟩ := h
      obtain ⟨g4, h⟩ := h
      refine ey_zast (pc := 72) (by decide +kernel) (hF1.s (j := 108) rfl) g3 rfl g4 ?_
      refine ex_iinc (pc := 73) (i := 2) (k := 1) (v := l2 + nI 1) (lo2 := [some (.ref 78), some (.int l1), some (.int (l2 + nI 1))]) (by decide +kernel) (by decide) rfl rfl rfl ?_
      refine ex_goto (pc := 76) (off := -58) (tgt := 18) (by decide +kernel) (by decide) ?_
      exact h
    · replace h := h.2 hc
      refine ex_iconst (pc := 45) (k := 1) (v := nI 1) (by decide +kernel) (by decide) ?_
      refine ex_goto (pc := 46) (off := 4) (tgt := 50) (by decide +kernel) (by decide) ?_
      obtain ⟨g5, h⟩ := h
      refine ey_zast (pc := 50) (by decide +kernel) (hF1.s (j := 108) rfl) g5 rfl (by decide) ?_
      refine ex_aload_n (pc := 51) (k := 0) (by decide +kernel) rfl ?_
      refine ex_getR (pc := 52) (a := 108) (by decide +kernel) lf_MM_127 (hF1.s (j := 78) rfl) (hF1.r (j := 78) (k := 51) rfl rfl) ?_
      refine ex_bipush (pc := 55) (k := 6) (v := nI 6) (by decide +kernel) (by decide) ?_
      refine ex_iload_n (pc := 57) (k := 2) (by decide +kernel) rfl ?_
      refine ex_imul (pc := 58) (by decide +kernel) ?_
      refine ex_iload_n (pc := 59) (k := 1) (by decide +kernel) rfl ?_
      refine ex_iadd (pc := 60) (by decide +kernel) ?_
      refine ex_aload_n (pc := 61) (k := 0) (by decide +kernel) rfl ?_
      refine ex_getR (pc := 62) (a := 108) (by decide +kernel) lf_MM_127 (hF1.s (j := 78) rfl) (hF1.r (j := 78) (k := 51) rfl rfl) ?_
      refine ex_bipush (pc := 65) (k := 6) (v := nI 6) (by decide +kernel) (by decide) ?_
      refine ex_iload_n (pc := 67) (k := 1) (by decide +kernel) rfl ?_
      refine ex_imul (pc := 68) (by decide +kernel) ?_
      refine ex_iload_n (pc := 69) (k := 2) (by decide +kernel) rfl ?_
      refine ex_iadd (pc := 70) (by decide +kernel) ?_
      obtain ⟨g6, h⟩ := h
      refine ey_zald (pc := 71) (v := mi (wi M1 108 ((((nI 6) * l1) + l2).toNatClampNeg) (nI 1)) 108 ((((nI 6) * l1) + l2).toNatClampNeg)) (by decide +kernel) (hF1.s (j := 108) rfl) g6 rfl rfl ?_
      obtain ⟨g7, h⟩ := h
      obtain ⟨g8, h⟩ := h
      refine ey_zast (pc := 72) (by decide +kernel) (hF1.s (j := 108) rfl) g7 rfl g8 ?_
      refine ex_iinc (pc := 73) (i := 2) (k := 1) (v := l2 + nI 1) (lo2 := [some (.ref 78), some (.int l1), some (.int (l2 + nI 1))]) (by decide +kernel) (by decide) rfl rfl rfl ?_
      refine ex_goto (pc := 76) (off := -58) (tgt := 18) (by decide +kernel) (by decide) ?_
      exact h
theorem k_MM_isNumber_0 {d bc bs : Nat} {l1 : Int32} {l2 : Int32} {M : Mem} {Φ : Option Value → Mem → Prop} (hF : Fm M) (h : (l1 = (nI 1) → Con d m_MM_in 0 0 [.int l2, .int (nI 0), .int (nI 7)] M (PB fun r1 M1 => Fm M1 ∧ Φ (some (.int (b2i r1))) M1)) ∧ (¬ l1 = (nI 1) → (¬ l1 = (nI 5) → Con d m_MM_in 0 0 [.int l2, .int (nI 0), .int ((mi M 78 6) - (nI 1))] M (PB fun r2 M2 => Fm M2 ∧ Φ (some (.int (b2i r2))) M2)) ∧ (l1 = (nI 5) → Con d m_MM_in 0 0 [.int l2, .int (nI 0), .int (nI 7)] M (PB fun r3 M3 => Fm M3 ∧ Φ (some (.int (b2i r3))) M3)))) : Ex (d + 1) m_MM_isNumber bc bs 0 [some (.ref 78), some (.int l1), some (.int l2)] [] M Φ := by
  refine ex_iload_n (pc := 0) (k := 2) (by decide +kernel) rfl ?_
  refine ex_iconst (pc := 1) (k := 0) (v := nI 0) (by decide +kernel) (by decide) ?_
  refine ex_iload_n (pc := 2) (k := 1) (by decide +kernel) rfl ?_
  refine ex_iconst (pc := 3) (k := 1) (v := nI 1) (by decide +kernel) (by decide) ?_
  refine ex_icmp_eq (pc := 4) (off := 8) (tgt := 12) (by decide +kernel) (by decide) (fun hc => ?_) (fun hc => ?_)
  · replace h := h.1 hc
    refine ex_bipush (pc := 12) (k := 7) (v := nI 7) (by decide +kernel) (by decide) ?_
    refine ex_goto (pc := 14) (off := 9) (tgt := 23) (by decide +kernel) (by decide) ?_
    refine ex_callS (pc := 23) (as := [.int l2, .int (nI 0), .int (nI 7)]) (by decide +kernel) F_MM_in (in_t6 (i := 11) rfl rfl) rfl rfl (Nat.le_of_ble_eq_true rfl) (Nat.lt_succ_self _) ⟨Nat.zero_le _, Nat.zero_le _⟩ (KC_B (Con.mono h ?_))
    intro o M1 ⟨r1, e9, hF1, h⟩
    refine ⟨r1, e9, ?_⟩
    exact ex_ireturn (pc := 26) (v := b2i r1) (by decide +kernel) rfl (b2i_n _) h
  · replace h := h.2 hc
    refine ex_iload_n (pc := 7) (k := 1) (by decide +kernel) rfl ?_
    refine ex_iconst (pc := 8) (k := 5) (v := nI 5) (by decide +kernel) (by decide) ?_
    refine ex_icmp_ne (pc := 9) (off := 8) (tgt := 17) (by decide +kernel) (by decide) (fun hc => ?_) (fun hc => ?_)
    · replace h := h.1 hc
      refine ex_aload_n (pc := 17) (k := 0) (by decide +kernel) rfl ?_
      refine ey_getI (pc := 18) (v := mi M 78 6) (by decide +kernel) lf_MM_25 (hF.s (j := 78) rfl) rfl ?_
      refine ex_iconst (pc := 21) (k := 1) (v := nI 1) (by decide +kernel) (by decide) ?_
      refine ex_isub (pc := 22) (by decide +kernel) ?_
      refine ex_callS (pc := 23) (as := [.int l2, .int (nI 0), .int ((mi M 78 6) - (nI 1))]) (by decide +kernel) F_MM_in (in_t6 (i := 11) rfl rfl) rfl rfl (Nat.le_of_ble_eq_true rfl) (Nat.lt_succ_self _) ⟨Nat.zero_le _, Nat.zero_le _⟩ (KC_B (Con.mono h ?_))
      intro o M2 ⟨r2, e9, hF2, h⟩
      refine ⟨r2, e9, ?_⟩
      exact ex_ireturn (pc := 26) (v := b2i r2) (by decide +kernel) rfl (b2i_n _) h
    · replace h := h.2 hc
      refine ex_bipush (pc := 12) (k := 7) (v := nI 7) (by decide +kernel) (by decide) ?_
      refine ex_goto (pc := 14) (off := 9) (tgt := 23) (by decide +kernel) (by decide) ?_
      refine ex_callS (pc := 23) (as := [.int l2, .int (nI 0), .int (nI 7)]) (by decide +kernel) F_MM_in (in_t6 (i := 11) rfl rfl) rfl rfl (Nat.le_of_ble_eq_true rfl) (Nat.lt_succ_self _) ⟨Nat.zero_le _, Nat.zero_le _⟩ (KC_B (Con.mono h ?_))
      intro o M3 ⟨r3, e9, hF3, h⟩
      refine ⟨r3, e9, ?_⟩
      exact ex_ireturn (pc := 26) (v := b2i r3) (by decide +kernel) rfl (b2i_n _) h
theorem k_MM_giving_0 {d bc bs : Nat} {l1 : Int32} {l2 : Int32} {M : Mem} {Φ : Option Value → Mem → Prop} (hF : Fm M) (h : Con d m_MM_in 0 0 [.int l1, .int (nI 0), .int (nI 5)] M (PB fun r1 M1 => Fm M1 ∧ (r1 = false → Φ (some (.int (-2))) M1) ∧ (r1 = true → Con d m_MM_in 0 0 [.int l2, .int (nI 0), .int (nI 3)] M1 (PB fun r2 M2 => Fm M2 ∧ (r2 = true → vp_in l2 4 ∧ (¬ (mi M2 100 l2.toNatClampNeg) = (-1) → vp_in l2 4 ∧ (¬ (mi M2 101 l2.toNatClampNeg) = (mi M2 78 0) → Ex (d + 1) m_MM_giving bc bs 56 [some (.ref 78), some (.int l1), some (.int l2), some (.int (nI 0)), some (.int (nI 0))] [] M2 Φ) ∧ ((mi M2 101 l2.toNatClampNeg) = (mi M2 78 0) → Ex (d + 1) m_MM_giving bc bs 56 [some (.ref 78), some (.int l1), some (.int l2), some (.int (nI 1)), some (.int (nI 0))] [] M2 Φ)) ∧ ((mi M2 100 l2.toNatClampNeg) = (-1) → Φ (some (.int (-11))) M2)) ∧ (r2 = false → Φ (some (.int (-2))) M2))))) : Ex (d + 1) m_MM_giving bc bs 0 [some (.ref 78), some (.int l1), some (.int l2), none, none] [] M Φ := by
  refine ex_iload_n (pc := 0) (k := 1) (by decide +kernel) rfl ?_
  refine ex_iconst (pc := 1) (k := 0) (v := nI 0) (by decide +kernel) (by decide) ?_
  refine ex_iconst (pc := 2) (k := 5) (v := nI 5) (by decide +kernel) (by decide) ?_
  refine ex_callS (pc := 3) (as := [.int l1, .int (nI 0), .int (nI 5)]) (by decide +kernel) F_MM_in (in_t6 (i := 11) rfl rfl) rfl rfl (Nat.le_of_ble_eq_true rfl) (Nat.lt_succ_self _) ⟨Nat.zero_le _, Nat.zero_le _⟩ (KC_B (Con.mono h ?_))
  intro o M1 ⟨r1, e9, hF1, h⟩
  refine ⟨r1, e9, ?_⟩
  refine ey_ifeqB (pc := 6) (off := 12) (tgt := 18) (by decide +kernel) (by decide) (fun hc => ?_) (fun hc => ?_)
  · replace h := h.1 hc
    refine ex_bipush (pc := 18) (k := -2) (v := -2) (by decide +kernel) (by decide) ?_
    exact ex_ireturn (pc := 20) (by decide +kernel) rfl rfl h
  · replace h := h.2 hc
    refine ex_iload_n (pc := 9) (k := 2) (by decide +kernel) rfl ?_
    refine ex_iconst (pc := 10) (k := 0) (v := nI 0) (by decide +kernel) (by decide) ?_
    refine ex_iconst (pc := 11) (k := 3) (v := nI 3) (by decide +kernel) (by decide) ?_
    refine ex_callS (pc := 12) (as := [.int l2, .int (nI 0), .int (nI 3)]) (by decide +kernel) F_MM_in (in_t6 (i := 11) rfl rfl) rfl rfl (Nat.le_of_ble_eq_true rfl) (Nat.lt_succ_self _) ⟨Nat.zero_le _, Nat.zero_le _⟩ (KC_B (Con.mono h ?_))
    intro o M2 ⟨r2, e9, hF2, h⟩
    refine ⟨r2, e9, ?_⟩
    refine ey_ifneB (pc := 15) (off := 6) (tgt := 21) (by decide +kernel) (by decide) (fun hc => ?_) (fun hc => ?_)
    · replace h := h.1 hc
      refine ex_aload_n (pc := 21) (k := 0) (by decide +kernel) rfl ?_
      refine ex_getR (pc := 22) (a := 100) (by decide +kernel) lf_MM_80 (hF2.s (j := 78) rfl) (hF2.r (j := 78) (k := 36) rfl rfl) ?_
      refine ex_iload_n (pc := 25) (k := 2) (by decide +kernel) rfl ?_
      obtain ⟨g1, h⟩ := h
      refine ey_iald (pc := 26) (v := mi M2 100 l2.toNatClampNeg) (by decide +kernel) (hF2.s (j := 100) rfl) g1 rfl rfl ?_
      refine ex_iconst (pc := 27) (k := -1) (v := -1) (by decide +kernel) (by decide) ?_
      refine ex_icmp_ne (pc := 28) (off := 6) (tgt := 34) (by decide +kernel) (by decide) (fun hc => ?_) (fun hc => ?_)
      · replace h := h.1 hc
        refine ex_aload_n (pc := 34) (k := 0) (by decide +kernel) rfl ?_
        refine ex_getR (pc := 35) (a := 101) (by decide +kernel) lf_MM_83 (hF2.s (j := 78) rfl) (hF2.r (j := 78) (k := 37) rfl rfl) ?_
        refine ex_iload_n (pc := 38) (k := 2) (by decide +kernel) rfl ?_
        obtain ⟨g2, h⟩ := h
        refine ey_iald (pc := 39) (v := mi M2 101 l2.toNatClampNeg) (by decide +kernel) (hF2.s (j := 101) rfl) g2 rfl rfl ?_
        refine ex_aload_n (pc := 40) (k := 0) (by decide +kernel) rfl ?_
        refine ey_getI (pc := 41) (v := mi M2 78 0) (by decide +kernel) lf_MM_151 (hF2.s (j := 78) rfl) rfl ?_
        refine ex_icmp_ne (pc := 44) (off := 7) (tgt := 51) (by decide +kernel) (by decide) (fun hc => ?_) (fun hc => ?_)
        · replace h := h.1 hc
          refine ex_iconst (pc := 51) (k := 0) (v := nI 0) (by decide +kernel) (by decide) ?_
          refine ex_istore_n (pc := 52) (k := 3) (lo2 := [some (.ref 78), some (.int l1), some (.int l2), some (.int (nI 0)), none]) (by decide +kernel) (by decide) rfl ?_
          refine ex_iconst (pc := 53) (k := 0) (v := nI 0) (by decide +kernel) (by decide) ?_
          refine ex_istore (pc := 54) (k := 4) (lo2 := [some (.ref 78), some (.int l1), some (.int l2), some (.int (nI 0)), some (.int (nI 0))]) (by decide +kernel) (by decide) rfl ?_
          exact h
        · replace h := h.2 hc
          refine ex_iconst (pc := 47) (k := 1) (v := nI 1) (by decide +kernel) (by decide) ?_
          refine ex_goto (pc := 48) (off := 4) (tgt := 52) (by decide +kernel) (by decide) ?_
          refine ex_istore_n (pc := 52) (k := 3) (lo2 := [some (.ref 78), some (.int l1), some (.int l2), some (.int (nI 1)), none]) (by decide +kernel) (by decide) rfl ?_
          refine ex_iconst (pc := 53) (k := 0) (v := nI 0) (by decide +kernel) (by decide) ?_
          refine ex_istore (pc := 54) (k := 4) (lo2 := [some (.ref 78), some (.int l1), some (.int l2), some (.int (nI 1)), some (.int (nI 0))]) (by decide +kernel) (by decide) rfl ?_
          exact h
      · replace h := h.2 hc
        refine ex_bipush (pc := 31) (k := -11) (v := -11) (by decide +kernel) (by decide) ?_
        exact ex_ireturn (pc := 33) (by decide +kernel) rfl rfl h
    · replace h := h.2 hc
      refine ex_bipush (pc := 18) (k := -2) (v := -2) (by decide +kernel) (by decide) ?_
      exact ex_ireturn (pc := 20) (by decide +kernel) rfl rfl h
theorem k_MM_giving_56 {d bc bs : Nat} {l1 : Int32} {l2 : Int32} {l3 : Int32} {l4 : Int32} {M : Mem} {Φ : Option Value → Mem → Prop} (hF : Fm M) (h : ((mi M 78 0) ≤ l4 → Ex (d + 1) m_MM_giving bc bs 93 [some (.ref 78), some (.int l1), some (.int l2), some (.int l3), some (.int l4)] [] M Φ) ∧ (¬ (mi M 78 0) ≤ l4 → (l3 = 0 → Ex (d + 1) m_MM_giving bc bs 93 [some (.ref 78), some (.int l1), some (.int l2), some (.int l3), some (.int l4)] [] M Φ) ∧ (¬ l3 = 0 → vp_in (((nI 40) * l2) + l4) 160 ∧ Con d m_MM_isNumber 0 0 [.ref 78, .int l1, .int (mi M 102 ((((nI 40) * l2) + l4).toNatClampNeg))] M (PB fun r1 M1 => Fm M1 ∧ Ex (d + 1) m_MM_giving bc bs 56 [some (.ref 78), some (.int l1), some (.int l2), some (.int (b2i r1)), some (.int (l4 + nI 1))] [] M1 Φ)))) : Ex (d + 1) m_MM_giving bc bs 56 [some (.ref 78), some (.int l1), some (.int l2), some (.int l3), some (.int l4)] [] M Φ := by
  refine ex_iload (pc := 56) (k := 4) (by decide +kernel) rfl ?_
  refine ex_aload_n (pc := 58) (k := 0) (by decide +kernel) rfl ?_
  refine ey_getI (pc := 59) (v := mi M 78 0) (by decide +kernel) lf_MM_151 (hF.s (j := 78) rfl) rfl ?_
  refine ex_icmp_ge (pc := 62) (off := 31) (tgt := 93) (by decide +kernel) (by decide) (fun hc => ?_) (fun hc => ?_)
  · replace h := h.1 hc
    exact h
  · replace h := h.2 hc
    refine ex_iload_n (pc := 65) (k := 3) (by decide +kernel) rfl ?_
    refine ex_if_eq (pc := 66) (off := 27) (tgt := 93) (by decide +kernel) (by decide) (fun hc => ?_) (fun hc => ?_)
    · replace h := h.1 hc
      exact h
    · replace h := h.2 hc
      refine ex_aload_n (pc := 69) (k := 0) (by decide +kernel) rfl ?_
      refine ex_iload_n (pc := 70) (k := 1) (by decide +kernel) rfl ?_
      refine ex_aload_n (pc := 71) (k := 0) (by decide +kernel) rfl ?_
      refine ex_getR (pc := 72) (a := 102) (by decide +kernel) lf_MM_86 (hF.s (j := 78) rfl) (hF.r (j := 78) (k := 38) rfl rfl) ?_
      refine ex_bipush (pc := 75) (k := 40) (v := nI 40) (by decide +kernel) (by decide) ?_
      refine ex_iload_n (pc := 77) (k := 2) (by decide +kernel) rfl ?_
      refine ex_imul (pc := 78) (by decide +kernel) ?_
      refine ex_iload (pc := 79) (k := 4) (by decide +kernel) rfl ?_
      refine ex_iadd (pc := 81) (by decide +kernel) ?_
      obtain ⟨g1, h⟩ := h
      refine ey_iald (pc := 82) (v := mi M 102 ((((nI 40) * l2) + l4).toNatClampNeg)) (by decide +kernel) (hF.s (j := 102) rfl) g1 rfl rfl ?_
      refine ex_callV (pc := 83) (as := [.int l1, .int (mi M 102 ((((nI 40) * l2) + l4).toNatClampNeg))]) (by decide +kernel) F_MM_isNumber (in_t6 (i := 134) rfl rfl) (hF.s (j := 78) rfl) rfl (by decide) rfl rfl (Nat.le_of_ble_eq_true rfl) (Nat.lt_succ_self _) ⟨Nat.zero_le _, Nat.zero_le _⟩ (KC_B (Con.mono h ?_))
      intro o M1 ⟨r1, e9, hF1, h⟩
      refine ⟨r1, e9, ?_⟩
      refine ex_istore_n (pc := 86) (k := 3) (lo2 := [some (.ref 78), some (.int l1), some (.int l2), some (.int (b2i r1)), some (.int l4)]) (by decide +kernel) (by decide) rfl ?_
      refine ex_iinc (pc := 87) (i := 4) (k := 1) (v := l4 + nI 1) (lo2 := [some (.ref 78), some (.int l1), some (.int l2), some (.int (b2i r1)), some (.int (l4 + nI 1))]) (by decide +kernel) (by decide) rfl rfl rfl ?_
      refine ex_goto (pc := 90) (off := -34) (tgt := 56) (by decide +kernel) (by decide) ?_
      exact h
theorem k_MM_giving_93 {d bc bs : Nat} {l1 : Int32} {l2 : Int32} {l3 : Int32} {l4 : Int32} {M : Mem} {Φ : Option Value → Mem → Prop} (hF : Fm M) (h : (¬ l3 = 0 → (¬ (mi M 78 16) = (nI 12) → vp_in (mi M 78 16) 12 ∧ vp_in (mi M 78 16) 12 ∧ Ex (d + 1) m_MM_giving bc bs 138 [some (.ref 78), some (.int l1), some (.int l2), some (.int l3), some (.int (nI 0))] [] (wi (wi M 89 ((mi M 78 16).toNatClampNeg) l1) 90 ((mi M 78 16).toNatClampNeg) (mi M 78 0)) Φ) ∧ ((mi M 78 16) = (nI 12) → Φ (some (.int (-4))) M)) ∧ (l3 = 0 → Φ (some (.int (-2))) M)) : Ex (d + 1) m_MM_giving bc bs 93 [some (.ref 78), some (.int l1), some (.int l2), some (.int l3), some (.int l4)] [] M Φ := by
  refine ex_iload_n (pc := 93) (k := 3) (by decide +kernel) rfl ?_
  refine ex_if_ne (pc := 94) (off := 6) (tgt := 100) (by decide +kernel) (by decide) (fun hc => ?_) (fun hc => ?_)
  · replace h := h.1 hc
    refine ex_aload_n (pc := 100) (k := 0) (by decide +kernel) rfl ?_
    refine ey_getI (pc := 101) (v := mi M 78 16) (by decide +kernel) lf_MM_260 (hF.s (j := 78) rfl) rfl ?_
    refine ex_bipush (pc := 104) (k := 12) (v := nI 12) (by decide +kernel) (by decide) ?_
    refine ex_icmp_ne (pc := 106) (off := 6) (tgt := 112) (by decide +kernel) (by decide) (fun hc => ?_) (fun hc => ?_)
    · replace h := h.1 hc
      refine ex_aload_n (pc := 112) (k := 0) (by decide +kernel) rfl ?_
      refine ex_getR (pc := 113) (a := 89) (by decide +kernel) lf_MM_47 (hF.s (j := 78) rfl) (hF.r (j := 78) (k := 17) rfl rfl) ?_
      refine ex_aload_n (pc := 116) (k := 0) (by decide +kernel) rfl ?_
      refine ey_getI (pc := 117) (v := mi M 78 16) (by decide +kernel) lf_MM_260 (hF.s (j := 78) rfl) rfl ?_
      refine ex_iload_n (pc := 120) (k := 1) (by decide +kernel) rfl ?_
      obtain ⟨g1, h⟩ := h
      refine ey_iast (pc := 121) (by decide +kernel) (hF.s (j := 89) rfl) g1 rfl ?_
      refine ex_aload_n (pc := 122) (k := 0) (by decide +kernel) rfl ?_
      refine ex_getR (pc := 123) (a := 90) (by decide +kernel) lf_MM_50 (hF.s (j := 78) rfl) (hF.r (j := 78) (k := 18) rfl rfl) ?_
      refine ex_aload_n (pc := 126) (k := 0) (by decide +kernel) rfl ?_
      refine ey_getI (pc := 127) (v := mi M 78 16) (by decide +kernel) lf_MM_260 (hF.s (j := 78) rfl) rfl ?_
      refine ex_aload_n (pc := 130) (k := 0) (by decide +kernel) rfl ?_
      refine ey_getI (pc := 131) (v := mi M 78 0) (by decide +kernel) lf_MM_151 (hF.s (j := 78) rfl) rfl ?_
      obtain ⟨g2, h⟩ := h
      refine ey_iast (pc := 134) (by decide +kernel) (hF.s (j := 90) rfl) g2 rfl ?_
      refine ex_iconst (pc := 135) (k := 0) (v := nI 0) (by decide +kernel) (by decide) ?_
      refine ex_istore (pc := 136) (k := 4) (lo2 := [some (.ref 78), some (.int l1), some (.int l2), some (.int l3), some (.int (nI 0))]) (by decide +kernel) (by decide) rfl ?_
      exact h
    · replace h := h.2 hc
      refine ex_bipush (pc := 109) (k := -4) (v := -4) (by decide +kernel) (by decide) ?_
      exact ex_ireturn (pc := 111) (by decide +kernel) rfl rfl h
  · replace h := h.2 hc
    refine ex_bipush (pc := 97) (k := -2) (v := -2) (by decide +kernel) (by decide) ?_
    exact ex_ireturn (pc := 99) (by decide +kernel) rfl rfl h
theorem k_MM_giving_138 {d bc bs : Nat} {l1 : Int32} {l2 : Int32} {l3 : Int32} {l4 : Int32} {M : Mem} {Φ : Option Value → Mem → Prop} (hF : Fm M) (h : ((mi M 78 0) ≤ l4 → Φ (some (.int (((mi M 78 16) + (nI 1)) - (nI 1)))) (wi M 78 16 ((mi M 78 16) + (nI 1)))) ∧ (¬ (mi M 78 0) ≤ l4 → vp_in (((nI 40) * l2) + l4) 160 ∧ vp_in (((nI 6) * (mi M 78 16)) + l4) 72 ∧ Ex (d + 1) m_MM_giving bc bs 138 [some (.ref 78), some (.int l1), some (.int l2), some (.int l3), some (.int (l4 + nI 1))] [] (wi M 91 ((((nI 6) * (mi M 78 16)) + l4).toNatClampNeg) (mi M 102 ((((nI 40) * l2) + l4).toNatClampNeg))) Φ)) : Ex (d + 1) m_MM_giving bc bs 138 [some (.ref 78), some (.int l1), some (.int l2), some (.int l3), some (.int l4)] [] M Φ := by
  refine ex_iload (pc := 138) (k := 4) (by decide +kernel) rfl ?_
  refine ex_aload_n (pc := 140) (k := 0) (by decide +kernel) rfl ?_
  refine ey_getI (pc := 141) (v := mi M 78 0) (by decide +kernel) lf_MM_151 (hF.s (j := 78) rfl) rfl ?_
  refine ex_icmp_ge (pc := 144) (off := 36) (tgt := 180) (by decide +kernel) (by decide) (fun hc => ?_) (fun hc => ?_)
  · replace h := h.1 hc
    refine ex_aload_n (pc := 180) (k := 0) (by decide +kernel) rfl ?_
    refine ex_dup (pc := 181) (by decide +kernel) rfl ?_
    refine ey_getI (pc := 182) (v := mi M 78 16) (by decide +kernel) lf_MM_260 (hF.s (j := 78) rfl) rfl ?_
    refine ex_iconst (pc := 185) (k := 1) (v := nI 1) (by decide +kernel) (by decide) ?_
    refine ex_iadd (pc := 186) (by decide +kernel) ?_
    refine ex_putI (pc := 187) (index := 260) (ci := 11) (k := 16) (fin := false) (by decide +kernel) ⟨_, _, _, _, cf_MM, by decide, in_t5 (i := 92) rfl rfl, rfl, (fun h => by cases h), rfl, rfl⟩ rfl (fun h => by cases h) (hF.s (j := 78) rfl) ?_
    refine ex_aload_n (pc := 190) (k := 0) (by decide +kernel) rfl ?_
    refine ey_getI (pc := 191) (v := (mi M 78 16) + (nI 1)) (by decide +kernel) lf_MM_260 (hF.s (j := 78) rfl) rfl ?_
    refine ex_iconst (pc := 194) (k := 1) (v := nI 1) (by decide +kernel) (by decide) ?_
    refine ex_isub (pc := 195) (by decide +kernel) ?_
    exact ex_ireturn (pc := 196) (by decide +kernel) rfl rfl h
  · replace h := h.2 hc
    refine ex_aload_n (pc := 147) (k := 0) (by decide +kernel) rfl ?_
    refine ex_getR (pc := 148) (a := 91) (by decide +kernel) lf_MM_53 (hF.s (j := 78) rfl) (hF.r (j := 78) (k := 19) rfl rfl) ?_
    refine ex_bipush (pc := 151) (k := 6) (v := nI 6) (by decide +kernel) (by decide) ?_
    refine ex_aload_n (pc := 153) (k := 0) (by decide +kernel) rfl ?_
    refine ey_getI (pc := 154) (v := mi M 78 16) (by decide +kernel) lf_MM_260 (hF.s (j := 78) rfl) rfl ?_
    refine ex_imul (pc := 157) (by decide +kernel) ?_
    refine ex_iload (pc := 158) (k := 4) (by decide +kernel) rfl ?_
    refine ex_iadd (pc := 160) (by decide +kernel) ?_
    refine ex_aload_n (pc := 161) (k := 0) (by decide +kernel) rfl ?_
    refine ex_getR (pc := 162) (a := 102) (by decide +kernel) lf_MM_86 (hF.s (j := 78) rfl) (hF.r (j := 78) (k := 38) rfl rfl) ?_
    refine ex_bipush (pc := 165) (k := 40) (v := nI 40) (by decide +kernel) (by decide) ?_
    refine ex_iload_n (pc := 167) (k := 2) (by decide +kernel) rfl ?_
    refine ex_imul (pc := 168) (by decide +kernel) ?_
    refine ex_iload (pc := 169) (k := 4) (by decide +kernel) rfl ?_
    refine ex_iadd (pc := 171) (by decide +kernel) ?_
    obtain ⟨g1, h⟩ := h
    refine ey_iald (pc := 172) (v := mi M 102 ((((nI 40) * l2) + l4).toNatClampNeg)) (by decide +kernel) (hF.s (j := 102) rfl) g1 rfl rfl ?_
    obtain ⟨g2, h⟩ := h
    refine ey_iast (pc := 173) (by decide +kernel) (hF.s (j := 91) rfl) g2 rfl ?_
    refine ex_iinc (pc := 174) (i := 4) (k := 1) (v := l4 + nI 1) (lo2 := [some (.ref 78), some (.int l1), some (.int l2), some (.int l3), some (.int (l4 + nI 1))]) (by decide +kernel) (by decide) rfl rfl rfl ?_
    refine ex_goto (pc := 177) (off := -39) (tgt := 138) (by decide +kernel) (by decide) ?_
    exact h
theorem k_MM_isGiving_0 {d bc bs : Nat} {l1 : Int32} {M : Mem} {Φ : Option Value → Mem → Prop} (hF : Fm M) (h : Con d m_MM_in 0 0 [.int l1, .int (nI 0), .int ((mi M 78 16) - (nI 1))] M (PB fun r1 M1 => Fm M1 ∧ Φ (some (.int (b2i r1))) M1)) : Ex (d + 1) m_MM_isGiving bc bs 0 [some (.ref 78), some (.int l1)] [] M Φ := by
  refine ex_iload_n (pc := 0) (k := 1) (by decide +kernel) rfl ?_
  refine ex_iconst (pc := 1) (k := 0) (v := nI 0) (by decide +kernel) (by decide) ?_
  refine ex_aload_n (pc := 2) (k := 0) (by decide +kernel) rfl ?_
  refine ey_getI (pc := 3) (v := mi M 78 16) (by decide +kernel) lf_MM_260 (hF.s (j := 78) rfl) rfl ?_
  refine ex_iconst (pc := 6) (k := 1) (v := nI 1) (by decide +kernel) (by decide) ?_
  refine ex_isub (pc := 7) (by decide +kernel) ?_
  refine ex_callS (pc := 8) (as := [.int l1, .int (nI 0), .int ((mi M 78 16) - (nI 1))]) (by decide +kernel) F_MM_in (in_t6 (i := 11) rfl rfl) rfl rfl (Nat.le_of_ble_eq_true rfl) (Nat.lt_succ_self _) ⟨Nat.zero_le _, Nat.zero_le _⟩ (KC_B (Con.mono h ?_))
  intro o M1 ⟨r1, e9, hF1, h⟩
  refine ⟨r1, e9, ?_⟩
  exact ex_ireturn (pc := 11) (v := b2i r1) (by decide +kernel) rfl (b2i_n _) h
theorem k_MM_daysOf_0 {d bc bs : Nat} {l1 : Int32} {l2 : Int32} {l3 : Int32} {M : Mem} {Φ : Option Value → Mem → Prop} (hF : Fm M) (h : vp_in l1 12 ∧ ((mi M 90 l1.toNatClampNeg) ≤ l2 → Con d m_MM_in 0 0 [.int (-1), .int (nI 0), .int ((mi M 78 6) - (nI 1))] M (PB fun r1 M1 => Fm M1 ∧ (r1 = true → vp_in l1 12 ∧ ((mi M1 89 l1.toNatClampNeg) = nI 2 → ¬ (mi M1 78 6) = 0 ∧ Φ (some (.int (((nI 1) <<< ((-1) &&& 31)) ||| ((nI 1) <<< ((((-1) + ((mi M1 78 6) / (nI 2))) % (mi M1 78 6)) &&& 31))))) M1) ∧ ((mi M1 89 l1.toNatClampNeg) = nI 3 → ¬ (mi M1 78 6) = 0 ∧ Φ (some (.int ((nI 1) <<< ((((-1) + l3) % (mi M1 78 6)) &&& 31)))) M1) ∧ ((mi M1 89 l1.toNatClampNeg) = nI 4 → (¬ (l3 % (nI 2)) = 0 → ¬ (mi M1 78 6) = 0 ∧ Φ (some (.int ((nI 1) <<< (((((-1) + l3) + (nI 2)) % (mi M1 78 6)) &&& 31)))) M1) ∧ ((l3 % (nI 2)) = 0 → ¬ (mi M1 78 6) = 0 ∧ Φ (some (.int ((nI 1) <<< (((((-1) + l3) + (nI 0)) % (mi M1 78 6)) &&& 31)))) M1)) ∧ (¬ (mi M1 89 l1.toNatClampNeg) = nI 2 → ¬ (mi M1 89 l1.toNatClampNeg) = nI 3 → ¬ (mi M1 89 l1.toNatClampNeg) = nI 4 → Φ (some (.int ((nI 1) <<< ((-1) &&& 31)))) M1)) ∧ (r1 = false → Φ (some (.int (nI 0))) M1))) ∧ (¬ (mi M 90 l1.toNatClampNeg) ≤ l2 → vp_in (((nI 6) * l1) + l2) 72 ∧ Con d m_MM_in 0 0 [.int (mi M 91 ((((nI 6) * l1) + l2).toNatClampNeg)), .int (nI 0), .int ((mi M 78 6) - (nI 1))] M (PB fun r2 M2 => Fm M2 ∧ (r2 = true → vp_in l1 12 ∧ ((mi M2 89 l1.toNatClampNeg) = nI 2 → ¬ (mi M2 78 6) = 0 ∧ Φ (some (.int (((nI 1) <<< ((mi M 91 ((((nI 6) * l1) + l2).toNatClampNeg)) &&& 31)) ||| ((nI 1) <<< ((((mi M 91 ((((nI 6) * l1) + l2).toNatClampNeg)) + ((mi M2 78 6) / (nI 2))) % (mi M2 78 6)) &&& 31))))) M2) ∧ ((mi M2 89 l1.toNatClampNeg) = nI 3 → ¬ (mi M2 78 6) = 0 ∧ Φ (some (.int ((nI 1) <<< ((((mi M 91 ((((nI 6) * l1) + l2).toNatClampNeg)) + l3) % (mi M2 78 6)) &&& 31)))) M2) ∧ ((mi M2 89 l1.toNatClampNeg) = nI 4 → (¬ (l3 % (nI 2)) = 0 → ¬ (mi M2 78 6) = 0 ∧ Φ (some (.int ((nI 1) <<< (((((mi M 91 ((((nI 6) * l1) + l2).toNatClampNeg)) + l3) + (nI 2)) % (mi M2 78 6)) &&& 31)))) M2) ∧ ((l3 % (nI 2)) = 0 → ¬ (mi M2 78 6) = 0 ∧ Φ (some (.int ((nI 1) <<< (((((mi M 91 ((((nI 6) * l1) + l2).toNatClampNeg)) + l3) + (nI 0)) % (mi M2 78 6)) &&& 31)))) M2)) ∧ (¬ (mi M2 89 l1.toNatClampNeg) = nI 2 → ¬ (mi M2 89 l1.toNatClampNeg) = nI 3 → ¬ (mi M2 89 l1.toNatClampNeg) = nI 4 → Φ (some (.int ((nI 1) <<< ((mi M 91 ((((nI 6) * l1) + l2).toNatClampNeg)) &&& 31)))) M2)) ∧ (r2 = false → Φ (some (.int (nI 0))) M2)))) : Ex (d + 1) m_MM_daysOf bc bs 0 [some (.ref 78), some (.int l1), some (.int l2), some (.int l3), none] [] M Φ := by
  refine ex_iload_n (pc := 0) (k := 2) (by decide +kernel) rfl ?_
  refine ex_aload_n (pc := 1) (k := 0) (by decide +kernel) rfl ?_
  refine ex_getR (pc := 2) (a := 90) (by decide +kernel) lf_MM_50 (hF.s (j := 78) rfl) (hF.r (j := 78) (k := 18) rfl rfl) ?_
  refine ex_iload_n (pc := 5) (k := 1) (by decide +kernel) rfl ?_
  obtain ⟨g1, h⟩ := h
  refine ey_iald (pc := 6) (v := mi M 90 l1.toNatClampNeg) (by decide +kernel) (hF.s (j := 90) rfl) g1 rfl rfl ?_
  refine ex_icmp_ge (pc := 7) (off := 17) (tgt := 24) (by decide +kernel) (by decide) (fun hc => ?_) (fun hc => ?_)
  · replace h := h.1 hc
    refine ex_iconst (pc := 24) (k := -1) (v := -1) (by decide +kernel) (by decide) ?_
    refine ex_istore (pc := 25) (k := 4) (lo2 := [some (.ref 78), some (.int l1), some (.int l2), some (.int l3), some (.int (-1))]) (by decide +kernel) (by decide) rfl ?_
    refine ex_iload (pc := 27) (k := 4) (by decide +kernel) rfl ?_
    refine ex_iconst (pc := 29) (k := 0) (v := nI 0) (by decide +kernel) (by decide) ?_
    refine ex_aload_n (pc := 30) (k := 0) (by decide +kernel) rfl ?_
    refine ey_getI (pc := 31) (v := mi M 78 6) (by decide +kernel) lf_MM_25 (hF.s (j := 78) rfl) rfl ?_
    refine ex_iconst (pc := 34) (k := 1) (v := nI 1) (by decide +kernel) (by decide) ?_
    refine ex_isub (pc := 35) (by decide +kernel) ?_
    refine ex_callS (pc := 36) (as := [.int (-1), .int (nI 0), .int ((mi M 78 6) - (nI 1))]) (by decide +kernel) F_MM_in (in_t6 (i := 11) rfl rfl) rfl rfl (Nat.le_of_ble_eq_true rfl) (Nat.lt_succ_self _) ⟨Nat.zero_le _, Nat.zero_le _⟩ (KC_B (Con.mono h ?_))
    intro o M1 ⟨r1, e9, hF1, h⟩
    refine ⟨r1, e9, ?_⟩
    refine ey_ifneB (pc := 39) (off := 5) (tgt := 44) (by decide +kernel) (by decide) (fun hc => ?_) (fun hc => ?_)
    · replace h := h.1 hc
      refine ex_aload_n (pc := 44) (k := 0) (by decide +kernel) rfl ?_
      refine ex_getR (pc := 45) (a := 89) (by decide +kernel) lf_MM_47 (hF1.s (j := 78) rfl) (hF1.r (j := 78) (k := 17) rfl rfl) ?_
      refine ex_iload_n (pc := 48) (k := 1) (by decide +kernel) rfl ?_
      obtain ⟨g2, h⟩ := h
      refine ey_iald (pc := 49) (v := mi M1 89 l1.toNatClampNeg) (by decide +kernel) (hF1.s (j := 89) rfl) g2 rfl rfl ?_
      by_cases hc : (mi M1 89 l1.toNatClampNeg) = nI 2
      · replace h := h.1 hc
        rw [hc]
        refine ex_tableIn (pc := 50) (dflt := 84) (l9 := 2) (h9 := 4) (offs := #[26, 48, 60]) (len := 26) (off := 26) (tgt := 76) (by decide +kernel) (by decide) (by decide) (by decide +kernel) (by decide) ?_
        refine ex_iconst (pc := 76) (k := 1) (v := nI 1) (by decide +kernel) (by decide) ?_
        refine ex_iload (pc := 77) (k := 4) (by decide +kernel) rfl ?_
        refine ex_ishl (pc := 79) (by decide +kernel) ?_
        refine ex_iconst (pc := 80) (k := 1) (v := nI 1) (by decide +kernel) (by decide) ?_
        refine ex_iload (pc := 81) (k := 4) (by decide +kernel) rfl ?_
        refine ex_aload_n (pc := 83) (k := 0) (by decide +kernel) rfl ?_
        refine ey_getI (pc := 84) (v := mi M1 78 6) (by decide +kernel) lf_MM_25 (hF1.s (j := 78) rfl) rfl ?_
        refine ex_iconst (pc := 87) (k := 2) (v := nI 2) (by decide +kernel) (by decide) ?_
        refine ex_idiv (pc := 88) (by decide +kernel) (by decide) ?_
        refine ex_iadd (pc := 89) (by decide +kernel) ?_
        refine ex_aload_n (pc := 90) (k := 0) (by decide +kernel) rfl ?_
        refine ey_getI (pc := 91) (v := mi M1 78 6) (by decide +kernel) lf_MM_25 (hF1.s (j := 78) rfl) rfl ?_
        obtain ⟨g3, h⟩ := h
        refine ex_irem (pc := 94) (by decide +kernel) g3 ?_
        refine ex_ishl (pc := 95) (by decide +kernel) ?_
        refine ex_ior (pc := 96) (by decide +kernel) ?_
        exact ex_ireturn (pc := 97) (by decide +kernel) rfl rfl h
      replace h := h.2
      have n0 := hc
      by_cases hc : (mi M1 89 l1.toNatClampNeg) = nI 3
      · replace h := h.1 hc
        rw [hc]
        refine ex_tableIn (pc := 50) (dflt := 84) (l9 := 2) (h9 := 4) (offs := #[26, 48, 60]) (len := 26) (off := 48) (tgt := 98) (by decide +kernel) (by decide) (by decide) (by decide +kernel) (by decide) ?_
        refine ex_iconst (pc := 98) (k := 1) (v := nI 1) (by decide +kernel) (by decide) ?_
        refine ex_iload (pc := 99) (k := 4) (by decide +kernel) rfl ?_
        refine ex_iload_n (pc := 101) (k := 3) (by decide +kernel) rfl ?_
        refine ex_iadd (pc := 102) (by decide +kernel) ?_
        refine ex_aload_n (pc := 103) (k := 0) (by decide +kernel) rfl ?_
        refine ey_getI (pc := 104) (v := mi M1 78 6) (by decide +kernel) lf_MM_25 (hF1.s (j := 78) rfl) rfl ?_
        obtain ⟨g4, h⟩ := h
        refine ex_irem (pc := 107) (by decide +kernel) g4 ?_
        refine ex_ishl (pc := 108) (by decide +kernel) ?_
        exact ex_ireturn (pc := 109) (by decide +kernel) rfl rfl h
      replace h := h.2
      have n1 := hc
      by_cases hc : (mi M1 89 l1.toNatClampNeg) = nI 4
      · replace h := h.1 hc
        rw [hc]
        refine ex_tableIn (pc := 50) (dflt := 84) (l9 := 2) (h9 := 4) (offs := #[26, 48, 60]) (len := 26) (off := 60) (tgt := 110) (by decide +kernel) (by decide) (by decide) (by decide +kernel) (by decide) ?_
        refine ex_iconst (pc := 110) (k := 1) (v := nI 1) (by decide +kernel) (by decide) ?_
        refine ex_iload (pc := 111) (k := 4) (by decide +kernel) rfl ?_
        refine ex_iload_n (pc := 113) (k := 3) (by decide +kernel) rfl ?_
        refine ex_iadd (pc := 114) (by decide +kernel) ?_
        refine ex_iload_n (pc := 115) (k := 3) (by decide +kernel) rfl ?_
        refine ex_iconst (pc := 116) (k := 2) (v := nI 2) (by decide +kernel) (by decide) ?_
        refine ex_irem (pc := 117) (by decide +kernel) (by decide) ?_
        refine ex_if_ne (pc := 118) (off := 7) (tgt := 125) (by decide +kernel) (by decide) (fun hc => ?_) (fun hc => ?_)
        · replace h := h.1 hc
          refine ex_iconst (pc := 125) (k := 2) (v := nI 2) (by decide +kernel) (by decide) ?_
          refine ex_iadd (pc := 126) (by decide +kernel) ?_
          refine ex_aload_n (pc := 127) (k := 0) (by decide +kernel) rfl ?_
          refine ey_getI (pc := 128) (v := mi M1 78 6) (by decide +kernel) lf_MM_25 (hF1.s (j := 78) rfl) rfl ?_
          obtain ⟨g5, h⟩ := h
          refine ex_irem (pc := 131) (by decide +kernel) g5 ?_
          refine ex_ishl (pc := 132) (by decide +kernel) ?_
          exact ex_ireturn (pc := 133) (by decide +kernel) rfl rfl h
        · replace h := h.2 hc
          refine ex_iconst (pc := 121) (k := 0) (v := nI 0) (by decide +kernel) (by decide) ?_
          refine ex_goto (pc := 122) (off := 4) (tgt := 126) (by decide +kernel) (by decide) ?_
          refine ex_iadd (pc := 126) (by decide +kernel) ?_
          refine ex_aload_n (pc := 127) (k := 0) (by decide +kernel) rfl ?_
          refine ey_getI (pc := 128) (v := mi M1 78 6) (by decide +kernel) lf_MM_25 (hF1.s (j := 78) rfl) rfl ?_
          obtain ⟨g6, h⟩ := h
          refine ex_irem (pc := 131) (by decide +kernel) g6 ?_
          refine ex_ishl (pc := 132) (by decide +kernel) ?_
          exact ex_ireturn (pc := 133) (by decide +kernel) rfl rfl h
      replace h := h.2
      have n2 := hc
      refine ex_tableOut (pc := 50) (dflt := 84) (l9 := 2) (h9 := 4) (offs := #[26, 48, 60]) (len := 26) (tgt := 134) (by decide +kernel) (tab_out (fun q hq1 hq2 => ?_)) (by decide) ?_
      · rcases (show q = (2 : Int) ∨ q = (3 : Int) ∨ q = (4 : Int) by omega) with rfl | rfl | rfl
        · rw [show Int32.ofInt (2) = nI 2 by decide]; exact n0
        · rw [show Int32.ofInt (3) = nI 3 by decide]; exact n1
        · rw [show Int32.ofInt (4) = nI 4 by decide]; exact n2
      · replace h := h n0 n1 n2
        refine ex_iconst (pc := 134) (k := 1) (v := nI 1) (by decide +kernel) (by decide) ?_
        refine ex_iload (pc := 135) (k := 4) (by decide +kernel) rfl ?_
        refine ex_ishl (pc := 137) (by decide +kernel) ?_
        exact ex_ireturn (pc := 138) (by decide +kernel) rfl rfl h
    · replace h := h.2 hc
      refine ex_iconst (pc := 42) (k := 0) (v := nI 0) (by decide +kernel) (by decide) ?_
      exact ex_ireturn (pc := 43) (by decide +kernel) rfl rfl h
  · replace h := h.2 hc
    refine ex_aload_n (pc := 10) (k := 0) (by decide +kernel) rfl ?_
    refine ex_getR (pc := 11) (a := 91) (by decide +kernel) lf_MM_53 (hF.s (j := 78) rfl) (hF.r (j := 78) (k := 19) rfl rfl) ?_
    refine ex_bipush (pc := 14) (k := 6) (v := nI 6) (by decide +kernel) (by decide) ?_
    refine ex_iload_n (pc := 16) (k := 1) (by decide +kernel) rfl ?_
    refine ex_imul (pc := 17) (by decide +kernel) ?_
    refine ex_iload_n (pc := 18) (k := 2) (by decide +kernel) rfl ?_
    refine ex_iadd (pc := 19) (by decide +kernel) ?_
    obtain ⟨g7, h⟩ := h
    refine ey_iald (pc := 20) (v := mi M 91 ((((nI 6) * l1) + l2).toNatClampNeg)) (by decide +kernel) (hF.s (j := 91) rfl) g7 rfl rfl ?_
    refine ex_goto (pc := 21) (off := 4) (tgt := 25) (by decide +kernel) (by decide) ?_
    refine ex_istore (pc := 25) (k := 4) (lo2 := [some (.ref 78), some (.int l1), some (.int l2), some (.int l3), some (.int (mi M 91 ((((nI 6) * l1) + l2).toNatClampNeg)))]) (by decide +kernel) (by decide) rfl ?_
    refine ex_iload (pc := 27) (k := 4) (by decide +kernel) rfl ?_
    refine ex_iconst (pc := 29) (k := 0) (v := nI 0) (by decide +kernel) (by decide) ?_
    refine ex_aload_n (pc := 30) (k := 0) (by decide +kernel) rfl ?_
    refine ey_getI (pc := 31) (v := mi M 78 6) (by decide +kernel) lf_MM_25 (hF.s (j := 78) rfl) rfl ?_
    refine ex_iconst (pc := 34) (k := 1) (v := nI 1) (by decide +kernel) (by decide) ?_
    refine ex_isub (pc := 35) (by decide +kernel) ?_
    refine ex_callS (pc := 36) (as := [.int (mi M 91 ((((nI 6) * l1) + l2).toNatClampNeg)), .int (nI 0), .int ((mi M 78 6) - (nI 1))]) (by decide +kernel) F_MM_in (in_t6 (i := 11) rfl rfl) rfl rfl (Nat.le_of_ble_eq_true rfl) (Nat.lt_succ_self _) ⟨Nat.zero_le _, Nat.zero_le _⟩ (KC_B (Con.mono h ?_))
    intro o M2 ⟨r2, e9, hF2, h⟩
    refine ⟨r2, e9, ?_⟩
    refine ey_ifneB (pc := 39) (off := 5) (tgt := 44) (by decide +kernel) (by decide) (fun hc => ?_) (fun hc => ?_)
    · replace h := h.1 hc
      refine ex_aload_n (pc := 44) (k := 0) (by decide +kernel) rfl ?_
      refine ex_getR (pc := 45) (a := 89) (by decide +kernel) lf_MM_47 (hF2.s (j := 78) rfl) (hF2.r (j := 78) (k := 17) rfl rfl) ?_
      refine ex_iload_n (pc := 48) (k := 1) (by decide +kernel) rfl ?_
      obtain ⟨g8, h⟩ := h
      refine ey_iald (pc := 49) (v := mi M2 89 l1.toNatClampNeg) (by decide +kernel) (hF2.s (j := 89) rfl) g8 rfl rfl ?_
      by_cases hc : (mi M2 89 l1.toNatClampNeg) = nI 2
      · replace h := h.1 hc
        rw [hc]
        refine ex_tableIn (pc := 50) (dflt := 84) (l9 := 2) (h9 := 4) (offs := #[26, 48, 60]) (len := 26) (off := 26) (tgt := 76) (by decide +kernel) (by decide) (by decide) (by decide +kernel) (by decide) ?_
        refine ex_iconst (pc := 76) (k := 1) (v := nI 1) (by decide +kernel) (by decide) ?_
        refine ex_iload (pc := 77) (k := 4) (by decide +kernel) rfl ?_
        refine ex_ishl (pc := 79) (by decide +kernel) ?_
        refine ex_iconst (pc := 80) (k := 1) (v := nI 1) (by decide +kernel) (by decide) ?_
        refine ex_iload (pc := 81) (k := 4) (by decide +kernel) rfl ?_
        refine ex_aload_n (pc := 83) (k := 0) (by decide +kernel) rfl ?_
        refine ey_getI (pc := 84) (v := mi M2 78 6) (by decide +kernel) lf_MM_25 (hF2.s (j := 78) rfl) rfl ?_
        refine ex_iconst (pc := 87) (k := 2) (v := nI 2) (by decide +kernel) (by decide) ?_
        refine ex_idiv (pc := 88) (by decide +kernel) (by decide) ?_
        refine ex_iadd (pc := 89) (by decide +kernel) ?_
        refine ex_aload_n (pc := 90) (k := 0) (by decide +kernel) rfl ?_
        refine ey_getI (pc := 91) (v := mi M2 78 6) (by decide +kernel) lf_MM_25 (hF2.s (j := 78) rfl) rfl ?_
        obtain ⟨g9, h⟩ := h
        refine ex_irem (pc := 94) (by decide +kernel) g9 ?_
        refine ex_ishl (pc := 95) (by decide +kernel) ?_
        refine ex_ior (pc := 96) (by decide +kernel) ?_
        exact ex_ireturn (pc := 97) (by decide +kernel) rfl rfl h
      replace h := h.2
      have n0 := hc
      by_cases hc : (mi M2 89 l1.toNatClampNeg) = nI 3
      · replace h := h.1 hc
        rw [hc]
        refine ex_tableIn (pc := 50) (dflt := 84) (l9 := 2) (h9 := 4) (offs := #[26, 48, 60]) (len := 26) (off := 48) (tgt := 98) (by decide +kernel) (by decide) (by decide) (by decide +kernel) (by decide) ?_
        refine ex_iconst (pc := 98) (k := 1) (v := nI 1) (by decide +kernel) (by decide) ?_
        refine ex_iload (pc := 99) (k := 4) (by decide +kernel) rfl ?_
        refine ex_iload_n (pc := 101) (k := 3) (by decide +kernel) rfl ?_
        refine ex_iadd (pc := 102) (by decide +kernel) ?_
        refine ex_aload_n (pc := 103) (k := 0) (by decide +kernel) rfl ?_
        refine ey_getI (pc := 104) (v := mi M2 78 6) (by decide +kernel) lf_MM_25 (hF2.s (j := 78) rfl) rfl ?_
        obtain ⟨g10, h⟩ := h
        refine ex_irem (pc := 107) (by decide +kernel) g10 ?_
        refine ex_ishl (pc := 108) (by decide +kernel) ?_
        exact ex_ireturn (pc := 109) (by decide +kernel) rfl rfl h
      replace h := h.2
      have n1 := hc
      by_cases hc : (mi M2 89 l1.toNatClampNeg) = nI 4
      · replace h := h.1 hc
        rw [hc]
        refine ex_tableIn (pc := 50) (dflt := 84) (l9 := 2) (h9 := 4) (offs := #[26, 48, 60]) (len := 26) (off := 60) (tgt := 110) (by decide +kernel) (by decide) (by decide) (by decide +kernel) (by decide) ?_
        refine ex_iconst (pc := 110) (k := 1) (v := nI 1) (by decide +kernel) (by decide) ?_
        refine ex_iload (pc := 111) (k := 4) (by decide +kernel) rfl ?_
        refine ex_iload_n (pc := 113) (k := 3) (by decide +kernel) rfl ?_
        refine ex_iadd (pc := 114) (by decide +kernel) ?_
        refine ex_iload_n (pc := 115) (k := 3) (by decide +kernel) rfl ?_
        refine ex_iconst (pc := 116) (k := 2) (v := nI 2) (by decide +kernel) (by decide) ?_
        refine ex_irem (pc := 117) (by decide +kernel) (by decide) ?_
        refine ex_if_ne (pc := 118) (off := 7) (tgt := 125) (by decide +kernel) (by decide) (fun hc => ?_) (fun hc => ?_)
        · replace h := h.1 hc
          refine ex_iconst (pc := 125) (k := 2) (v := nI 2) (by decide +kernel) (by decide) ?_
          refine ex_iadd (pc := 126) (by decide +kernel) ?_
          refine ex_aload_n (pc := 127) (k := 0) (by decide +kernel) rfl ?_
          refine ey_getI (pc := 128) (v := mi M2 78 6) (by decide +kernel) lf_MM_25 (hF2.s (j := 78) rfl) rfl ?_
          obtain ⟨g11, h⟩ := h
          refine ex_irem (pc := 131) (by decide +kernel) g11 ?_
          refine ex_ishl (pc := 132) (by decide +kernel) ?_
          exact ex_ireturn (pc := 133) (by decide +kernel) rfl rfl h
        · replace h := h.2 hc
          refine ex_iconst (pc := 121) (k := 0) (v := nI 0) (by decide +kernel) (by decide) ?_
          refine ex_goto (pc := 122) (off := 4) (tgt := 126) (by decide +kernel) (by decide) ?_
          refine ex_iadd (pc := 126) (by decide +kernel) ?_
          refine ex_aload_n (pc := 127) (k := 0) (by decide +kernel) rfl ?_
          refine ey_getI (pc := 128) (v := mi M2 78 6) (by decide +kernel) lf_MM_25 (hF2.s (j := 78) rfl) rfl ?_
          obtain ⟨g12, h⟩ := h
          refine ex_irem (pc := 131) (by decide +kernel) g12 ?_
          refine ex_ishl (pc := 132) (by decide +kernel) ?_
          exact ex_ireturn (pc := 133) (by decide +kernel) rfl rfl h
      replace h := h.2
      have n2 := hc
      refine ex_tableOut (pc := 50) (dflt := 84) (l9 := 2) (h9 := 4) (offs := #[26, 48, 60]) (len := 26) (tgt := 134) (by decide +kernel) (tab_out (fun q hq1 hq2 => ?_)) (by decide) ?_
      · rcases (show q = (2 : Int) ∨ q = (3 : Int) ∨ q = (4 : Int) by omega) with rfl | rfl | rfl
        · rw [show Int32.ofInt (2) = nI 2 by decide]; exact n0
        · rw [show Int32.ofInt (3) = nI 3 by decide]; exact n1
        · rw [show Int32.ofInt (4) = nI 4 by decide]; exact n2
      · replace h := h n0 n1 n2
        refine ex_iconst (pc := 134) (k := 1) (v := nI 1) (by decide +kernel) (by decide) ?_
        refine ex_iload (pc := 135) (k := 4) (by decide +kernel) rfl ?_
        refine ex_ishl (pc := 137) (by decide +kernel) ?_
        exact ex_ireturn (pc := 138) (by decide +kernel) rfl rfl h
    · replace h := h.2 hc
      refine ex_iconst (pc := 42) (k := 0) (v := nI 0) (by decide +kernel) (by decide) ?_
      exact ex_ireturn (pc := 43) (by decide +kernel) rfl rfl h
theorem k_MM_market_0 {d bc bs : Nat} {l1 : Int32} {l2 : Int32} {l3 : Int32} {M : Mem} {Φ : Option Value → Mem → Prop} (hF : Fm M) (h : Con d m_MM_daysOf 0 0 [.ref 78, .int l1, .int l2, .int l3] M (PI fun r1 M1 => Fm M1 ∧ Ex (d + 1) m_MM_market bc bs 12 [some (.ref 78), some (.int l1), some (.int l2), some (.int l3), some (.int r1), some (.int (nI 0)), none] [] M1 Φ)) : Ex (d + 1) m_MM_market bc bs 0 [some (.ref 78), some (.int l1), some (.int l2), some (.int l3), none, none, none] [] M Φ := by
  refine ex_aload_n (pc := 0) (k := 0) (by decide +kernel) rfl ?_
  refine ex_iload_n (pc := 1) (k := 1) (by decide +kernel) rfl ?_
  refine ex_iload_n (pc := 2) (k := 2) (by decide +kernel) rfl ?_
  refine ex_iload_n (pc := 3) (k := 3) (by decide +kernel) rfl ?_
  refine ex_callV (pc := 4) (as := [.int l1, .int l2, .int l3]) (by decide +kernel) F_MM_daysOf (in_t6 (i := 150) rfl rfl) (hF.s (j := 78) rfl) rfl (by decide) rfl rfl (Nat.le_of_ble_eq_true rfl) (Nat.lt_succ_self _) ⟨Nat.zero_le _, Nat.zero_le _⟩ (KC_I (Con.mono h ?_))
  intro o M1 ⟨r1, e9, hF1, h⟩
  refine ⟨r1, e9, ?_⟩
  refine ex_istore (pc := 7) (k := 4) (lo2 := [some (.ref 78), some (.int l1), some (.int l2), some (.int l3), some (.int r1), none, none]) (by decide +kernel) (by decide) rfl ?_
  refine ex_iconst (pc := 9) (k := 0) (v := nI 0) (by decide +kernel) (by decide) ?_
  refine ex_istore (pc := 10) (k := 5) (lo2 := [some (.ref 78), some (.int l1), some (.int l2), some (.int l3), some (.int r1), some (.int (nI 0)), none]) (by decide +kernel) (by decide) rfl ?_
  exact h
theorem k_MM_market_12 {d bc bs : Nat} {l1 : Int32} {l2 : Int32} {l3 : Int32} {l4 : Int32} {l5 : Int32} {M : Mem} {Φ : Option Value → Mem → Prop} (hF : Fm M) (h : ((mi M 78 7) ≤ l5 → Φ (some (.int l4)) M) ∧ (¬ (mi M 78 7) ≤ l5 → vp_in l1 12 ∧ ((mi M 89 l1.toNatClampNeg) = (nI 5) → Φ (some (.int l4)) M) ∧ (¬ (mi M 89 l1.toNatClampNeg) = (nI 5) → vp_in l5 10 ∧ vp_in l5 10 ∧ (¬ (mi M 84 l5.toNatClampNeg) = l3 → Ex (d + 1) m_MM_market bc bs 12 [some (.ref 78), some (.int l1), some (.int l2), some (.int l3), some (.int l4), some (.int (l5 + nI 1)), none] [] M Φ) ∧ ((mi M 84 l5.toNatClampNeg) = l3 → ((mi M 78 6) ≤ (mi M 85 l5.toNatClampNeg) → Ex (d + 1) m_MM_market bc bs 12 [some (.ref 78), some (.int l1), some (.int l2), some (.int l3), some (.int l4), some (.int (l5 + nI 1)), none] [] M Φ) ∧ (¬ (mi M 78 6) ≤ (mi M 85 l5.toNatClampNeg) → (¬ ((l4 >>> ((mi M 85 l5.toNatClampNeg) &&& 31)) &&& (nI 1)) = (nI 1) → Ex (d + 1) m_MM_market bc bs 12 [some (.ref 78), some (.int l1), some (.int l2), some (.int l3), some (.int l4), some (.int (l5 + nI 1)), none] [] M Φ) ∧ (((l4 >>> ((mi M 85 l5.toNatClampNeg) &&& 31)) &&& (nI 1)) = (nI 1) → ¬ (mi M 78 6) = 0 ∧ Ex (d + 1) m_MM_market bc bs 12 [some (.ref 78), some (.int l1), some (.int l2), some (.int l3), some (.int ((l4 &&& (((nI 1) <<< ((mi M 85 l5.toNatClampNeg) &&& 31)) ^^^ (-1))) ||| ((nI 1) <<< ((((mi M 85 l5.toNatClampNeg) + (nI 1)) % (mi M 78 6)) &&& 31)))), some (.int (l5 + nI 1)), none] [] M Φ)))))) : Ex (d + 1) m_MM_market bc bs 12 [some (.ref 78), some (.int l1), some (.int l2), some (.int l3), some (.int l4), some (.int l5), none] [] M Φ := by
  refine ex_iload (pc := 12) (k := 5) (by decide +kernel) rfl ?_
  refine ex_aload_n (pc := 14) (k := 0) (by decide +kernel) rfl ?_
  refine ey_getI (pc := 15) (v := mi M 78 7) (by decide +kernel) lf_MM_168 (hF.s (j := 78) rfl) rfl ?_
  refine ex_icmp_ge (pc := 18) (off := 82) (tgt := 100) (by decide +kernel) (by decide) (fun hc => ?_) (fun hc => ?_)
  · replace h := h.1 hc
    refine ex_iload (pc := 100) (k := 4) (by decide +kernel) rfl ?_
    exact ex_ireturn (pc := 102) (by decide +kernel) rfl rfl h
  · replace h := h.2 hc
    refine ex_aload_n (pc := 21) (k := 0) (by decide +kernel) rfl ?_
    refine ex_getR (pc := 22) (a := 89) (by decide +kernel) lf_MM_47 (hF.s (j := 78) rfl) (hF.r (j := 78) (k := 17) rfl rfl) ?_
    refine ex_iload_n (pc := 25) (k := 1) (by decide +kernel) rfl ?_
    obtain ⟨g1, h⟩ := h
    refine ey_iald (pc := 26) (v := mi M 89 l1.toNatClampNeg) (by decide +kernel) (hF.s (j := 89) rfl) g1 rfl rfl ?_
    refine ex_iconst (pc := 27) (k := 5) (v := nI 5) (by decide +kernel) (by decide) ?_
    refine ex_icmp_eq (pc := 28) (off := 72) (tgt := 100) (by decide +kernel) (by decide) (fun hc => ?_) (fun hc => ?_)
    · replace h := h.1 hc
      refine ex_iload (pc := 100) (k := 4) (by decide +kernel) rfl ?_
      exact ex_ireturn (pc := 102) (by decide +kernel) rfl rfl h
    · replace h := h.2 hc
      refine ex_aload_n (pc := 31) (k := 0) (by decide +kernel) rfl ?_
      refine ex_getR (pc := 32) (a := 85) (by decide +kernel) lf_MM_32 (hF.s (j := 78) rfl) (hF.r (j := 78) (k := 9) rfl rfl) ?_
      refine ex_iload (pc := 35) (k := 5) (by decide +kernel) rfl ?_
      obtain ⟨g2, h⟩ := h
      refine ey_iald (pc := 37) (v := mi M 85 l5.toNatClampNeg) (by decide +kernel) (hF.s (j := 85) rfl) g2 rfl rfl ?_
      refine ex_istore (pc := 38) (k := 6) (lo2 := [some (.ref 78), some (.int l1), some (.int l2), some (.int l3), some (.int l4), some (.int l5), some (.int (mi M 85 l5.toNatClampNeg))]) (by decide +kernel) (by decide) rfl ?_
      refine ex_aload_n (pc := 40) (k := 0) (by decide +kernel) rfl ?_
      refine ex_getR (pc := 41) (a := 84) (by decide +kernel) lf_MM_29 (hF.s (j := 78) rfl) (hF.r (j := 78) (k := 8) rfl rfl) ?_
      refine ex_iload (pc := 44) (k := 5) (by decide +kernel) rfl ?_
      obtain ⟨g3, h⟩ := h
      refine ey_iald (pc := 46) (v := mi M 84 l5.toNatClampNeg) (by decide +kernel) (hF.s (j := 84) rfl) g3 rfl rfl ?_
      refine ex_iload_n (pc := 47) (k := 3) (by decide +kernel) rfl ?_
      refine ex_icmp_ne (pc := 48) (off := 46) (tgt := 94) (by decide +kernel) (by decide) (fun hc => ?_) (fun hc => ?_)
      · replace h := h.1 hc
        refine ex_iinc (pc := 94) (i := 5) (k := 1) (v := l5 + nI 1) (lo2 := [some (.ref 78), some (.int l1), some (.int l2), some (.int l3), some (.int l4), some (.int (l5 + nI 1)), some (.int (mi M 85 l5.toNatClampNeg))]) (by decide +kernel) (by decide) rfl rfl rfl ?_
        refine ex_goto (pc := 97) (off := -85) (tgt := 12) (by decide +kernel) (by decide) ?_
        exact Ex.msk [true, true, true, true, true, true, false] h
      · replace h := h.2 hc
        refine ex_iload (pc := 51) (k := 6) (by decide +kernel) rfl ?_
        refine ex_aload_n (pc := 53) (k := 0) (by decide +kernel) rfl ?_
        refine ey_getI (pc := 54) (v := mi M 78 6) (by decide +kernel) lf_MM_25 (hF.s (j := 78) rfl) rfl ?_
        refine ex_icmp_ge (pc := 57) (off := 37) (tgt := 94) (by decide +kernel) (by decide) (fun hc => ?_) (fun hc => ?_)
        · replace h := h.1 hc
          refine ex_iinc (pc := 94) (i := 5) (k := 1) (v := l5 + nI 1) (lo2 := [some (.ref 78), some (.int l1), some (.int l2), some (.int l3), some (.int l4), some (.int (l5 + nI 1)), some (.int (mi M 85 l5.toNatClampNeg))]) (by decide +kernel) (by decide) rfl rfl rfl ?_
          refine ex_goto (pc := 97) (off := -85) (tgt := 12) (by decide +kernel) (by decide) ?_
          exact Ex.msk [true, true, true, true, true, true, false] h
        · replace h := h.2 hc
          refine ex_iload (pc := 60) (k := 4) (by decide +kernel) rfl ?_
          refine ex_iload (pc := 62) (k := 6) (by decide +kernel) rfl ?_
          refine ex_ishr (pc := 64) (by decide +kernel) ?_
          refine ex_iconst (pc := 65) (k := 1) (v := nI 1) (by decide +kernel) (by decide) ?_
          refine ex_iand (pc := 66) (by decide +kernel) ?_
          refine ex_iconst (pc := 67) (k := 1) (v := nI 1) (by decide +kernel) (by decide) ?_
          refine ex_icmp_ne (pc := 68) (off := 26) (tgt := 94) (by decide +kernel) (by decide) (fun hc => ?_) (fun hc => ?_)
          · replace h := h.1 hc
            refine ex_iinc (pc := 94) (i := 5) (k := 1) (v := l5 + nI 1) (lo2 := [some (.ref 78), some (.int l1), some (.int l2), some (.int l3), some (.int l4), some (.int (l5 + nI 1)), some (.int (mi M 85 l5.toNatClampNeg))]) (by decide +kernel) (by decide) rfl rfl rfl ?_
            refine ex_goto (pc := 97) (off := -85) (tgt := 12) (by decide +kernel) (by decide) ?_
            exact Ex.msk [true, true, true, true, true, true, false] h
          · replace h := h.2 hc
            refine ex_iload (pc := 71) (k := 4) (by decide +kernel) rfl ?_
            refine ex_iconst (pc := 73) (k := 1) (v := nI 1) (by decide +kernel) (by decide) ?_
            refine ex_iload (pc := 74) (k := 6) (by decide +kernel) rfl ?_
            refine ex_ishl (pc := 76) (by decide +kernel) ?_
            refine ex_iconst (pc := 77) (k := -1) (v := -1) (by decide +kernel) (by decide) ?_
            refine ex_ixor (pc := 78) (by decide +kernel) ?_
            refine ex_iand (pc := 79) (by decide +kernel) ?_
            refine ex_iconst (pc := 80) (k := 1) (v := nI 1) (by decide +kernel) (by decide) ?_
            refine ex_iload (pc := 81) (k := 6) (by decide +kernel) rfl ?_
            refine ex_iconst (pc := 83) (k := 1) (v := nI 1) (by decide +kernel) (by decide) ?_
            refine ex_iadd (pc := 84) (by decide +kernel) ?_
            refine ex_aload_n (pc := 85) (k := 0) (by decide +kernel) rfl ?_
            refine ey_getI (pc := 86) (v := mi M 78 6) (by decide +kernel) lf_MM_25 (hF.s (j := 78) rfl) rfl ?_
            obtain ⟨g4, h⟩ := h
            refine ex_irem (pc := 89) (by decide +kernel) g4 ?_
            refine ex_ishl (pc := 90) (by decide +kernel) ?_
            refine ex_ior (pc := 91) (by decide +kernel) ?_
            refine ex_istore (pc := 92) (k := 4) (lo2 := [some (.ref 78), some (.int l1), some (.int l2), some (.int l3), some (.int ((l4 &&& (((nI 1) <<< ((mi M 85 l5.toNatClampNeg) &&& 31)) ^^^ (-1))) ||| ((nI 1) <<< ((((mi M 85 l5.toNatClampNeg) + (nI 1)) % (mi M 78 6)) &&& 31)))), some (.int l5), some (.int (mi M 85 l5.toNatClampNeg))]) (by decide +kernel) (by decide) rfl ?_
            refine ex_iinc (pc := 94) (i := 5) (k := 1) (v := l5 + nI 1) (lo2 := [some (.ref 78), some (.int l1), some (.int l2), some (.int l3), some (.int ((l4 &&& (((nI 1) <<< ((mi M 85 l5.toNatClampNeg) &&& 31)) ^^^ (-1))) ||| ((nI 1) <<< ((((mi M 85 l5.toNatClampNeg) + (nI 1)) % (mi M 78 6)) &&& 31)))), some (.int (l5 + nI 1)), some (.int (mi M 85 l5.toNatClampNeg))]) (by decide +kernel) (by decide) rfl rfl rfl ?_
            refine ex_goto (pc := 97) (off := -85) (tgt := 12) (by decide +kernel) (by decide) ?_
            exact Ex.msk [true, true, true, true, true, true, false] h
theorem k_MM_marketOf_0 {d bc bs : Nat} {l1 : Int32} {l2 : Int32} {l3 : Int32} {M : Mem} {Φ : Option Value → Mem → Prop} (hF : Fm M) (h : Con d m_MM_isGiving 0 0 [.ref 78, .int l1] M (PB fun r1 M1 => Fm M1 ∧ (r1 = false → Φ (some (.int (-5))) M1) ∧ (r1 = true → Con d m_MM_isTown 0 0 [.ref 78, .int l2] M1 (PB fun r2 M2 => Fm M2 ∧ (r2 = false → Φ (some (.int (-5))) M2) ∧ (r2 = true → Con d m_MM_isWeek 0 0 [.int l3] M2 (PB fun r3 M3 => Fm M3 ∧ (r3 = false → Φ (some (.int (-5))) M3) ∧ (r3 = true → Con d m_MM_market 0 0 [.ref 78, .int l1, .int l2, .int l3] M3 (PI fun r4 M4 => Fm M4 ∧ Φ (some (.int r4)) M4)))))))) : Ex (d + 1) m_MM_marketOf bc bs 0 [some (.ref 78), some (.int l1), some (.int l2), some (.int l3)] [] M Φ := by
  refine ex_aload_n (pc := 0) (k := 0) (by decide +kernel) rfl ?_
  refine ex_iload_n (pc := 1) (k := 1) (by decide +kernel) rfl ?_
  refine ex_callV (pc := 2) (as := [.int l1]) (by decide +kernel) F_MM_isGiving (in_t6 (i := 142) rfl rfl) (hF.s (j := 78) rfl) rfl (by decide) rfl rfl (Nat.le_of_ble_eq_true rfl) (Nat.lt_succ_self _) ⟨Nat.zero_le _, Nat.zero_le _⟩ (KC_B (Con.mono h ?_))
  intro o M1 ⟨r1, e9, hF1, h⟩
  refine ⟨r1, e9, ?_⟩
  refine ey_ifeqB (pc := 5) (off := 28) (tgt := 33) (by decide +kernel) (by decide) (fun hc => ?_) (fun hc => ?_)
  · replace h := h.1 hc
    refine ex_bipush (pc := 33) (k := -5) (v := -5) (by decide +kernel) (by decide) ?_
    exact ex_ireturn (pc := 35) (by decide +kernel) rfl rfl h
  · replace h := h.2 hc
    refine ex_aload_n (pc := 8) (k := 0) (by decide +kernel) rfl ?_
    refine ex_iload_n (pc := 9) (k := 2) (by decide +kernel) rfl ?_
    refine ex_callV (pc := 10) (as := [.int l2]) (by decide +kernel) F_MM_isTown (in_t6 (i := 18) rfl rfl) (hF1.s (j := 78) rfl) rfl (by decide) rfl rfl (Nat.le_of_ble_eq_true rfl) (Nat.lt_succ_self _) ⟨Nat.zero_le _, Nat.zero_le _⟩ (KC_B (Con.mono h ?_))
    intro o M2 ⟨r2, e9, hF2, h⟩
    refine ⟨r2, e9, ?_⟩
    refine ey_ifeqB (pc := 13) (off := 20) (tgt := 33) (by decide +kernel) (by decide) (fun hc => ?_) (fun hc => ?_)
    · replace h := h.1 hc
      refine ex_bipush (pc := 33) (k := -5) (v := -5) (by decide +kernel) (by decide) ?_
      exact ex_ireturn (pc := 35) (by decide +kernel) rfl rfl h
    · replace h := h.2 hc
      refine ex_iload_n (pc := 16) (k := 3) (by decide +kernel) rfl ?_
      refine ex_callS (pc := 17) (as := [.int l3]) (by decide +kernel) F_MM_isWeek (in_t6 (i := 46) rfl rfl) rfl rfl (Nat.le_of_ble_eq_true rfl) (Nat.lt_succ_self _) ⟨Nat.zero_le _, Nat.zero_le _⟩ (KC_B (Con.mono h ?_))
      intro o M3 ⟨r3, e9, hF3, h⟩
      refine ⟨r3, e9, ?_⟩
      refine ey_ifeqB (pc := 20) (off := 13) (tgt := 33) (by decide +kernel) (by decide) (fun hc => ?_) (fun hc => ?_)
      · replace h := h.1 hc
        refine ex_bipush (pc := 33) (k := -5) (v := -5) (by decide +kernel) (by decide) ?_
        exact ex_ireturn (pc := 35) (by decide +kernel) rfl rfl h
      · replace h := h.2 hc
        refine ex_aload_n (pc := 23) (k := 0) (by decide +kernel) rfl ?_
        refine ex_iload_n (pc := 24) (k := 1) (by decide +kernel) rfl ?_
        refine ex_iload_n (pc := 25) (k := 2) (by decide +kernel) rfl ?_
        refine ex_iload_n (pc := 26) (k := 3) (by decide +kernel) rfl ?_
        refine ex_callV (pc := 27) (as := [.int l1, .int l2, .int l3]) (by decide +kernel) F_MM_market (in_t6 (i := 146) rfl rfl) (hF3.s (j := 78) rfl) rfl (by decide) rfl rfl (Nat.le_of_ble_eq_true rfl) (Nat.lt_succ_self _) ⟨Nat.zero_le _, Nat.zero_le _⟩ (KC_I (Con.mono h ?_))
        intro o M4 ⟨r4, e9, hF4, h⟩
        refine ⟨r4, e9, ?_⟩
        refine ex_goto (pc := 30) (off := 5) (tgt := 35) (by decide +kernel) (by decide) ?_
        exact ex_ireturn (pc := 35) (by decide +kernel) rfl rfl h
theorem k_MM_laysNow_0 {d bc bs : Nat} {l1 : Int32} {l2 : Int32} {M : Mem} {Φ : Option Value → Mem → Prop} (hF : Fm M) (h : Ex (d + 1) m_MM_laysNow bc bs 2 [some (.ref 78), some (.int l1), some (.int l2), some (.int (nI 0))] [] M Φ) : Ex (d + 1) m_MM_laysNow bc bs 0 [some (.ref 78), some (.int l1), some (.int l2), none] [] M Φ := by
  refine ex_iconst (pc := 0) (k := 0) (v := nI 0) (by decide +kernel) (by decide) ?_
  refine ex_istore_n (pc := 1) (k := 3) (lo2 := [some (.ref 78), some (.int l1), some (.int l2), some (.int (nI 0))]) (by decide +kernel) (by decide) rfl ?_
  exact h
theorem k_MM_laysNow_2 {d bc bs : Nat} {l1 : Int32} {l2 : Int32} {l3 : Int32} {M : Mem} {Φ : Option Value → Mem → Prop} (hF : Fm M) (h : ((mi M 78 0) ≤ l3 → Φ none M) ∧ (¬ (mi M 78 0) ≤ l3 → Con d m_MM_market 0 0 [.ref 78, .int l1, .int l3, .int l2] M (PI fun r1 M1 => Fm M1 ∧ vp_in l3 6 ∧ Ex (d + 1) m_MM_laysNow bc bs 2 [some (.ref 78), some (.int l1), some (.int l2), some (.int (l3 + nI 1))] [] (wi M1 109 l3.toNatClampNeg r1) Φ))) : Ex (d + 1) m_MM_laysNow bc bs 2 [some (.ref 78), some (.int l1), some (.int l2), some (.int l3)] [] M Φ := by
  refine ex_iload_n (pc := 2) (k := 3) (by decide +kernel) rfl ?_
  refine ex_aload_n (pc := 3) (k := 0) (by decide +kernel) rfl ?_
  refine ey_getI (pc := 4) (v := mi M 78 0) (by decide +kernel) lf_MM_151 (hF.s (j := 78) rfl) rfl ?_
  refine ex_icmp_ge (pc := 7) (off := 22) (tgt := 29) (by decide +kernel) (by decide) (fun hc => ?_) (fun hc => ?_)
  · replace h := h.1 hc
    exact ex_return (pc := 29) (by decide +kernel) rfl h
  · replace h := h.2 hc
    refine ex_aload_n (pc := 10) (k := 0) (by decide +kernel) rfl ?_
    refine ex_getR (pc := 11) (a := 109) (by decide +kernel) lf_MM_131 (hF.s (j := 78) rfl) (hF.r (j := 78) (k := 52) rfl rfl) ?_
    refine ex_iload_n (pc := 14) (k := 3) (by decide +kernel) rfl ?_
    refine ex_aload_n (pc := 15) (k := 0) (by decide +kernel) rfl ?_
    refine ex_iload_n (pc := 16) (k := 1) (by decide +kernel) rfl ?_
    refine ex_iload_n (pc := 17) (k := 3) (by decide +kernel) rfl ?_
    refine ex_iload_n (pc := 18) (k := 2) (by decide +kernel) rfl ?_
    refine ex_callV (pc := 19) (as := [.int l1, .int l3, .int l2]) (by decide +kernel) F_MM_market (in_t6 (i := 146) rfl rfl) (hF.s (j := 78) rfl) rfl (by decide) rfl rfl (Nat.le_of_ble_eq_true rfl) (Nat.lt_succ_self _) ⟨Nat.zero_le _, Nat.zero_le _⟩ (KC_I (Con.mono h ?_))
    intro o M1 ⟨r1, e9, hF1, h⟩
    refine ⟨r1, e9, ?_⟩
    obtain ⟨g1, h⟩ := h
    refine ey_iast (pc := 22) (by decide +kernel) (hF1.s (j := 109) rfl) g1 rfl ?_
    refine ex_iinc (pc := 23) (i := 3) (k := 1) (v := l3 + nI 1) (lo2 := [some (.ref 78), some (.int l1), some (.int l2), some (.int (l3 + nI 1))]) (by decide +kernel) (by decide) rfl rfl rfl ?_
    refine ex_goto (pc := 26) (off := -24) (tgt := 2) (by decide +kernel) (by decide) ?_
    exact h
theorem k_MM_follows_0 {d bc bs : Nat} {l1 : Int32} {l2 : Int32} {M : Mem} {Φ : Option Value → Mem → Prop} (hF : Fm M) (h : Ex (d + 1) m_MM_follows bc bs 2 [some (.ref 78), some (.int l1), some (.int l2), some (.int (nI 0))] [] M Φ) : Ex (d + 1) m_MM_follows bc bs 0 [some (.ref 78), some (.int l1), some (.int l2), none] [] M Φ := by
  refine ex_iconst (pc := 0) (k := 0) (v := nI 0) (by decide +kernel) (by decide) ?_
  refine ex_istore_n (pc := 1) (k := 3) (lo2 := [some (.ref 78), some (.int l1), some (.int l2), some (.int (nI 0))]) (by decide +kernel) (by decide) rfl ?_
  exact h
theorem k_MM_follows_2 {d bc bs : Nat} {l1 : Int32} {l2 : Int32} {l3 : Int32} {M : Mem} {Φ : Option Value → Mem → Prop} (hF : Fm M) (h : ((mi M 78 6) ≤ l3 → Φ (some (.int (b2i false))) M) ∧ (¬ (mi M 78 6) ≤ l3 → vp_in l1 6 ∧ (¬ (((mi M 109 l1.toNatClampNeg) >>> (l3 &&& 31)) &&& (nI 1)) = (nI 1) → Ex (d + 1) m_MM_follows bc bs 2 [some (.ref 78), some (.int l1), some (.int l2), some (.int (l3 + nI 1))] [] M Φ) ∧ ((((mi M 109 l1.toNatClampNeg) >>> (l3 &&& 31)) &&& (nI 1)) = (nI 1) → vp_in l2 6 ∧ ¬ (mi M 78 6) = 0 ∧ (¬ (((mi M 109 l2.toNatClampNeg) >>> ((((l3 + (mi M 78 6)) - (nI 1)) % (mi M 78 6)) &&& 31)) &&& (nI 1)) = (nI 1) → Ex (d + 1) m_MM_follows bc bs 2 [some (.ref 78), some (.int l1), some (.int l2), some (.int (l3 + nI 1))] [] M Φ) ∧ ((((mi M 109 l2.toNatClampNeg) >>> ((((l3 + (mi M 78 6)) - (nI 1)) % (mi M 78 6)) &&& 31)) &&& (nI 1)) = (nI 1) → Φ (some (.int (b2i true))) M)))) : Ex (d + 1) m_MM_follows bc bs 2 [some (.ref 78), some (.int l1), some (.int l2), some (.int l3)] [] M Φ := by
  refine ex_iload_n (pc := 2) (k := 3) (by decide +kernel) rfl ?_
  refine ex_aload_n (pc := 3) (k := 0) (by decide +kernel) rfl ?_
  refine ey_getI (pc := 4) (v := mi M 78 6) (by decide +kernel) lf_MM_25 (hF.s (j := 78) rfl) rfl ?_
  refine ex_icmp_ge (pc := 7) (off := 51) (tgt := 58) (by decide +kernel) (by decide) (fun hc => ?_) (fun hc => ?_)
  · replace h := h.1 hc
    refine ex_iconst (pc := 58) (k := 0) (v := nI 0) (by decide +kernel) (by decide) ?_
    exact ex_ireturn (pc := 59) (v := b2i false) (by decide +kernel) rfl (b2i_n _) h
  · replace h := h.2 hc
    refine ex_aload_n (pc := 10) (k := 0) (by decide +kernel) rfl ?_
    refine ex_getR (pc := 11) (a := 109) (by decide +kernel) lf_MM_131 (hF.s (j := 78) rfl) (hF.r (j := 78) (k := 52) rfl rfl) ?_
    refine ex_iload_n (pc := 14) (k := 1) (by decide +kernel) rfl ?_
    obtain ⟨g1, h⟩ := h
    refine ey_iald (pc := 15) (v := mi M 109 l1.toNatClampNeg) (by decide +kernel) (hF.s (j := 109) rfl) g1 rfl rfl ?_
    refine ex_iload_n (pc := 16) (k := 3) (by decide +kernel) rfl ?_
    refine ex_ishr (pc := 17) (by decide +kernel) ?_
    refine ex_iconst (pc := 18) (k := 1) (v := nI 1) (by decide +kernel) (by decide) ?_
    refine ex_iand (pc := 19) (by decide +kernel) ?_
    refine ex_iconst (pc := 20) (k := 1) (v := nI 1) (by decide +kernel) (by decide) ?_
    refine ex_icmp_ne (pc := 21) (off := 31) (tgt := 52) (by decide +kernel) (by decide) (fun hc => ?_) (fun hc => ?_)
    · replace h := h.1 hc
      refine ex_iinc (pc := 52) (i := 3) (k := 1) (v := l3 + nI 1) (lo2 := [some (.ref 78), some (.int l1), some (.int l2), some (.int (l3 + nI 1))]) (by decide +kernel) (by decide) rfl rfl rfl ?_
      refine ex_goto (pc := 55) (off := -53) (tgt := 2) (by decide +kernel) (by decide) ?_
      exact h
    · replace h := h.2 hc
      refine ex_aload_n (pc := 24) (k := 0) (by decide +kernel) rfl ?_
      refine ex_getR (pc := 25) (a := 109) (by decide +kernel) lf_MM_131 (hF.s (j := 78) rfl) (hF.r (j := 78) (k := 52) rfl rfl) ?_
      refine ex_iload_n (pc := 28) (k := 2) (by decide +kernel) rfl ?_
      obtain ⟨g2, h⟩ := h
      refine ey_iald (pc := 29) (v := mi M 109 l2.toNatClampNeg) (by decide +kernel) (hF.s (j := 109) rfl) g2 rfl rfl ?_
      refine ex_iload_n (pc := 30) (k := 3) (by decide +kernel) rfl ?_
      refine ex_aload_n (pc := 31) (k := 0) (by decide +kernel) rfl ?_
      refine ey_getI (pc := 32) (v := mi M 78 6) (by decide +kernel) lf_MM_25 (hF.s (j := 78) rfl) rfl ?_
      refine ex_iadd (pc := 35) (by decide +kernel) ?_
      refine ex_iconst (pc := 36) (k := 1) (v := nI 1) (by decide +kernel) (by decide) ?_
      refine ex_isub (pc := 37) (by decide +kernel) ?_
      refine ex_aload_n (pc := 38) (k := 0) (by decide +kernel) rfl ?_
      refine ey_getI (pc := 39) (v := mi M 78 6) (by decide +kernel) lf_MM_25 (hF.s (j := 78) rfl) rfl ?_
      obtain ⟨g3, h⟩ := h
      refine ex_irem (pc := 42) (by decide +kernel) g3 ?_
      refine ex_ishr (pc := 43) (by decide +kernel) ?_
      refine ex_iconst (pc := 44) (k := 1) (v := nI 1) (by decide +kernel) (by decide) ?_
      refine ex_iand (pc := 45) (by decide +kernel) ?_
      refine ex_iconst (pc := 46) (k := 1) (v := nI 1) (by decide +kernel) (by decide) ?_
      refine ex_icmp_ne (pc := 47) (off := 5) (tgt := 52) (by decide +kernel) (by decide) (fun hc => ?_) (fun hc => ?_)
      · replace h := h.1 hc
        refine ex_iinc (pc := 52) (i := 3) (k := 1) (v := l3 + nI 1) (lo2 := [some (.ref 78), some (.int l1), some (.int l2), some (.int (l3 + nI 1))]) (by decide +kernel) (by decide) rfl rfl rfl ?_
        refine ex_goto (pc := 55) (off := -53) (tgt := 2) (by decide +kernel) (by decide) ?_
        exact h
      · replace h := h.2 hc
        refine ex_iconst (pc := 50) (k := 1) (v := nI 1) (by decide +kernel) (by decide) ?_
        exact ex_ireturn (pc := 51) (v := b2i true) (by decide +kernel) rfl (b2i_n _) h
theorem k_MM_doBar_0 {d bc bs : Nat} {l1 : Int32} {l2 : Int32} {M : Mem} {Φ : Option Value → Mem → Prop} (hF : Fm M) (h : (¬ l1 = l2 → vp_in l1 6 ∧ vp_in l2 6 ∧ (((mi M 109 l1.toNatClampNeg) &&& (mi M 109 l2.toNatClampNeg)) = 0 → Ex (d + 1) m_MM_doBar bc bs 61 [some (.ref 78), some (.int l1), some (.int l2), none] [] M Φ) ∧ (¬ ((mi M 109 l1.toNatClampNeg) &&& (mi M 109 l2.toNatClampNeg)) = 0 → vp_in (((nI 6) * l1) + l2) 36 ∧ ((mi M 108 ((((nI 6) * l1) + l2).toNatClampNeg)) = 0 → Ex (d + 1) m_MM_doBar bc bs 61 [some (.ref 78), some (.int l1), some (.int l2), none] [] M Φ) ∧ (¬ (mi M 108 ((((nI 6) * l1) + l2).toNatClampNeg)) = 0 → Φ (some (.int (b2i true))) M))) ∧ (l1 = l2 → vp_in l1 6 ∧ vp_in l1 6 ∧ (((mi M 109 l1.toNatClampNeg) &&& ((mi M 80 l1.toNatClampNeg) ^^^ (-1))) = 0 → Φ (some (.int (b2i false))) M) ∧ (¬ ((mi M 109 l1.toNatClampNeg) &&& ((mi M 80 l1.toNatClampNeg) ^^^ (-1))) = 0 → Φ (some (.int (b2i true))) M))) : Ex (d + 1) m_MM_doBar bc bs 0 [some (.ref 78), some (.int l1), some (.int l2), none] [] M Φ := by
  refine ex_iload_n (pc := 0) (k := 1) (by decide +kernel) rfl ?_
  refine ex_iload_n (pc := 1) (k := 2) (by decide +kernel) rfl ?_
  refine ex_icmp_ne (pc := 2) (off := 27) (tgt := 29) (by decide +kernel) (by decide) (fun hc => ?_) (fun hc => ?_)
  · replace h := h.1 hc
    refine ex_aload_n (pc := 29) (k := 0) (by decide +kernel) rfl ?_
    refine ex_getR (pc := 30) (a := 109) (by decide +kernel) lf_MM_131 (hF.s (j := 78) rfl) (hF.r (j := 78) (k := 52) rfl rfl) ?_
    refine ex_iload_n (pc := 33) (k := 1) (by decide +kernel) rfl ?_
    obtain ⟨g1, h⟩ := h
    refine ey_iald (pc := 34) (v := mi M 109 l1.toNatClampNeg) (by decide +kernel) (hF.s (j := 109) rfl) g1 rfl rfl ?_
    refine ex_aload_n (pc := 35) (k := 0) (by decide +kernel) rfl ?_
    refine ex_getR (pc := 36) (a := 109) (by decide +kernel) lf_MM_131 (hF.s (j := 78) rfl) (hF.r (j := 78) (k := 52) rfl rfl) ?_
    refine ex_iload_n (pc := 39) (k := 2) (by decide +kernel) rfl ?_
    obtain ⟨g2, h⟩ := h
    refine ey_iald (pc := 40) (v := mi M 109 l2.toNatClampNeg) (by decide +kernel) (hF.s (j := 109) rfl) g2 rfl rfl ?_
    refine ex_iand (pc := 41) (by decide +kernel) ?_
    refine ex_if_eq (pc := 42) (off := 19) (tgt := 61) (by decide +kernel) (by decide) (fun hc => ?_) (fun hc => ?_)
    · replace h := h.1 hc
      exact h
    · replace h := h.2 hc
      refine ex_aload_n (pc := 45) (k := 0) (by decide +kernel) rfl ?_
      refine ex_getR (pc := 46) (a := 108) (by decide +kernel) lf_MM_127 (hF.s (j := 78) rfl) (hF.r (j := 78) (k := 51) rfl rfl) ?_
      refine ex_bipush (pc := 49) (k := 6) (v := nI 6) (by decide +kernel) (by decide) ?_
      refine ex_iload_n (pc := 51) (k := 1) (by decide +kernel) rfl ?_
      refine ex_imul (pc := 52) (by decide +kernel) ?_
      refine ex_iload_n (pc := 53) (k := 2) (by decide +kernel) rfl ?_
      refine ex_iadd (pc := 54) (by decide +kernel) ?_
      obtain ⟨g3, h⟩ := h
      refine ey_zald (pc := 55) (v := mi M 108 ((((nI 6) * l1) + l2).toNatClampNeg)) (by decide +kernel) (hF.s (j := 108) rfl) g3 rfl rfl ?_
      refine ex_if_eq (pc := 56) (off := 5) (tgt := 61) (by decide +kernel) (by decide) (fun hc => ?_) (fun hc => ?_)
      · replace h := h.1 hc
        exact h
      · replace h := h.2 hc
        refine ex_iconst (pc := 59) (k := 1) (v := nI 1) (by decide +kernel) (by decide) ?_
        exact ex_ireturn (pc := 60) (v := b2i true) (by decide +kernel) rfl (b2i_n _) h
  · replace h := h.2 hc
    refine ex_aload_n (pc := 5) (k := 0) (by decide +kernel) rfl ?_
    refine ex_getR (pc := 6) (a := 109) (by decide +kernel) lf_MM_131 (hF.s (j := 78) rfl) (hF.r (j := 78) (k := 52) rfl rfl) ?_
    refine ex_iload_n (pc := 9) (k := 1) (by decide +kernel) rfl ?_
    obtain ⟨g4, h⟩ := h
    refine ey_iald (pc := 10) (v := mi M 109 l1.toNatClampNeg) (by decide +kernel) (hF.s (j := 109) rfl) g4 rfl rfl ?_
    refine ex_aload_n (pc := 11) (k := 0) (by decide +kernel) rfl ?_
    refine ex_getR (pc := 12) (a := 80) (by decide +kernel) lf_MM_13 (hF.s (j := 78) rfl) (hF.r (j := 78) (k := 2) rfl rfl) ?_
    refine ex_iload_n (pc := 15) (k := 1) (by decide +kernel) rfl ?_
    obtain ⟨g5, h⟩ := h
    refine ey_iald (pc := 16) (v := mi M 80 l1.toNatClampNeg) (by decide +kernel) (hF.s (j := 80) rfl) g5 rfl rfl ?_
    refine ex_iconst (pc := 17) (k := -1) (v := -1) (by decide +kernel) (by decide) ?_
    refine ex_ixor (pc := 18) (by decide +kernel) ?_
    refine ex_iand (pc := 19) (by decide +kernel) ?_
    refine ex_if_eq (pc := 20) (off := 7) (tgt := 27) (by decide +kernel) (by decide) (fun hc => ?_) (fun hc => ?_)
    · replace h := h.1 hc
      refine ex_iconst (pc := 27) (k := 0) (v := nI 0) (by decide +kernel) (by decide) ?_
      exact ex_ireturn (pc := 28) (v := b2i false) (by decide +kernel) rfl (b2i_n _) h
    · replace h := h.2 hc
      refine ex_iconst (pc := 23) (k := 1) (v := nI 1) (by decide +kernel) (by decide) ?_
      refine ex_goto (pc := 24) (off := 4) (tgt := 28) (by decide +kernel) (by decide) ?_
      exact ex_ireturn (pc := 28) (v := b2i true) (by decide +kernel) rfl (b2i_n _) h
theorem k_MM_doBar_61 {d bc bs : Nat} {l1 : Int32} {l2 : Int32} {M : Mem} {Φ : Option Value → Mem → Prop} (hF : Fm M) (h : vp_in l1 6 ∧ ((mi M 109 l1.toNatClampNeg) = 0 → Ex (d + 1) m_MM_doBar bc bs 83 [some (.ref 78), some (.int l1), some (.int l2), none] [] M Φ) ∧ (¬ (mi M 109 l1.toNatClampNeg) = 0 → vp_in l2 6 ∧ ((mi M 109 l2.toNatClampNeg) = 0 → Ex (d + 1) m_MM_doBar bc bs 83 [some (.ref 78), some (.int l1), some (.int l2), none] [] M Φ) ∧ (¬ (mi M 109 l2.toNatClampNeg) = 0 → ((nI 1) = 0 → Φ (some (.int (b2i false))) M) ∧ (¬ (nI 1) = 0 → vp_in l1 6 ∧ (¬ (mi M 82 l1.toNatClampNeg) = l2 → Ex (d + 1) m_MM_doBar bc bs 108 [some (.ref 78), some (.int l1), some (.int l2), some (.int (nI 1))] [] M Φ) ∧ ((mi M 82 l1.toNatClampNeg) = l2 → Con d m_MM_follows 0 0 [.ref 78, .int l1, .int l2] M (PB fun r1 M1 => Fm M1 ∧ (r1 = false → Φ (some (.int (b2i true))) M1) ∧ (r1 = true → Ex (d + 1) m_MM_doBar bc bs 108 [some (.ref 78), some (.int l1), some (.int l2), some (.int (nI 1))] [] M1 Φ))))))) : Ex (d + 1) m_MM_doBar bc bs 61 [some (.ref 78), some (.int l1), some (.int l2), none] [] M Φ := by
  refine ex_aload_n (pc := 61) (k := 0) (by decide +kernel) rfl ?_
  refine ex_getR (pc := 62) (a := 109) (by decide +kernel) lf_MM_131 (hF.s (j := 78) rfl) (hF.r (j := 78) (k := 52) rfl rfl) ?_
  refine ex_iload_n (pc := 65) (k := 1) (by decide +kernel) rfl ?_
  obtain ⟨g1, h⟩ := h
  refine ey_iald (pc := 66) (v := mi M 109 l1.toNatClampNeg) (by decide +kernel) (hF.s (j := 109) rfl) g1 rfl rfl ?_
  refine ex_if_eq (pc := 67) (off := 16) (tgt := 83) (by decide +kernel) (by decide) (fun hc => ?_) (fun hc => ?_)
  · replace h := h.1 hc
    exact h
  · replace h := h.2 hc
    refine ex_aload_n (pc := 70) (k := 0) (by decide +kernel) rfl ?_
    refine ex_getR (pc := 71) (a := 109) (by decide +kernel) lf_MM_131 (hF.s (j := 78) rfl) (hF.r (j := 78) (k := 52) rfl rfl) ?_
    refine ex_iload_n (pc := 74) (k := 2) (by decide +kernel) rfl ?_
    obtain ⟨g2, h⟩ := h
    refine ey_iald (pc := 75) (v := mi M 109 l2.toNatClampNeg) (by decide +kernel) (hF.s (j := 109) rfl) g2 rfl rfl ?_
    refine ex_if_eq (pc := 76) (off := 7) (tgt := 83) (by decide +kernel) (by decide) (fun hc => ?_) (fun hc => ?_)
    · replace h := h.1 hc
      exact h
    · replace h := h.2 hc
      refine ex_iconst (pc := 79) (k := 1) (v := nI 1) (by decide +kernel) (by decide) ?_
      refine ex_goto (pc := 80) (off := 4) (tgt := 84) (by decide +kernel) (by decide) ?_
      refine ex_istore_n (pc := 84) (k := 3) (lo2 := [some (.ref 78), some (.int l1), some (.int l2), some (.int (nI 1))]) (by decide +kernel) (by decide) rfl ?_
      refine ex_iload_n (pc := 85) (k := 3) (by decide +kernel) rfl ?_
      refine ex_if_eq (pc := 86) (off := 45) (tgt := 131) (by decide +kernel) (by decide) (fun hc => ?_) (fun hc => ?_)
      · replace h := h.1 hc
        refine ex_iconst (pc := 131) (k := 0) (v := nI 0) (by decide +kernel) (by decide) ?_
        exact ex_ireturn (pc := 132) (v := b2i false) (by decide +kernel) rfl (b2i_n _) h
      · replace h := h.2 hc
        refine ex_aload_n (pc := 89) (k := 0) (by decide +kernel) rfl ?_
        refine ex_getR (pc := 90) (a := 82) (by decide +kernel) lf_MM_19 (hF.s (j := 78) rfl) (hF.r (j := 78) (k := 4) rfl rfl) ?_
        refine ex_iload_n (pc := 93) (k := 1) (by decide +kernel) rfl ?_
        obtain ⟨g3, h⟩ := h
        refine ey_iald (pc := 94) (v := mi M 82 l1.toNatClampNeg) (by decide +kernel) (hF.s (j := 82) rfl) g3 rfl rfl ?_
        refine ex_iload_n (pc := 95) (k := 2) (by decide +kernel) rfl ?_
        refine ex_icmp_ne (pc := 96) (off := 12) (tgt := 108) (by decide +kernel) (by decide) (fun hc => ?_) (fun hc => ?_)
        · replace h := h.1 hc
          exact h
        · replace h := h.2 hc
          refine ex_aload_n (pc := 99) (k := 0) (by decide +kernel) rfl ?_
          refine ex_iload_n (pc := 100) (k := 1) (by decide +kernel) rfl ?_
          refine ex_iload_n (pc := 101) (k := 2) (by decide +kernel) rfl ?_
          refine ex_callV (pc := 102) (as := [.int l1, .int l2]) (by decide +kernel) F_MM_follows (in_t6 (i := 174) rfl rfl) (hF.s (j := 78) rfl) rfl (by decide) rfl rfl (Nat.le_of_ble_eq_true rfl) (Nat.lt_succ_self _) ⟨Nat.zero_le _, Nat.zero_le _⟩ (KC_B (Con.mono h ?_))
          intro o M1 ⟨r1, e9, hF1, h⟩
          refine ⟨r1, e9, ?_⟩
          refine ey_ifeqB (pc := 105) (off := 22) (tgt := 127) (by decide +kernel) (by decide) (fun hc => ?_) (fun hc => ?_)
          · replace h := h.1 hc
            refine ex_iconst (pc := 127) (k := 1) (v := nI 1) (by decide +kernel) (by decide) ?_
            refine ex_goto (pc := 128) (off := 4) (tgt := 132) (by decide +kernel) (by decide) ?_
            exact ex_ireturn (pc := 132) (v := b2i true) (by decide +kernel) rfl (b2i_n _) h
          · replace h := h.2 hc
            exact h
theorem k_MM_doBar_83 {d bc bs : Nat} {l1 : Int32} {l2 : Int32} {M : Mem} {Φ : Option Value → Mem → Prop} (hF : Fm M) (h : ((nI 0) = 0 → Φ (some (.int (b2i false))) M) ∧ (¬ (nI 0) = 0 → vp_in l1 6 ∧ (¬ (mi M 82 l1.toNatClampNeg) = l2 → Ex (d + 1) m_MM_doBar bc bs 108 [some (.ref 78), some (.int l1), some (.int l2), some (.int (nI 0))] [] M Φ) ∧ ((mi M 82 l1.toNatClampNeg) = l2 → Con d m_MM_follows 0 0 [.ref 78, .int l1, .int l2] M (PB fun r1 M1 => Fm M1 ∧ (r1 = false → Φ (some (.int (b2i true))) M1) ∧ (r1 = true → Ex (d + 1) m_MM_doBar bc bs 108 [some (.ref 78), some (.int l1), some (.int l2), some (.int (nI 0))] [] M1 Φ))))) : Ex (d + 1) m_MM_doBar bc bs 83 [some (.ref 78), some (.int l1), some (.int l2), none] [] M Φ := by
  refine ex_iconst (pc := 83) (k := 0) (v := nI 0) (by decide +kernel) (by decide) ?_
  refine ex_istore_n (pc := 84) (k := 3) (lo2 := [some (.ref 78), some (.int l1), some (.int l2), some (.int (nI 0))]) (by decide +kernel) (by decide) rfl ?_
  refine ex_iload_n (pc := 85) (k := 3) (by decide +kernel) rfl ?_
  refine ex_if_eq (pc := 86) (off := 45) (tgt := 131) (by decide +kernel) (by decide) (fun hc => ?_) (fun hc => ?_)
  · replace h := h.1 hc
    refine ex_iconst (pc := 131) (k := 0) (v := nI 0) (by decide +kernel) (by decide) ?_
    exact ex_ireturn (pc := 132) (v := b2i false) (by decide +kernel) rfl (b2i_n _) h
  · replace h := h.2 hc
    refine ex_aload_n (pc := 89) (k := 0) (by decide +kernel) rfl ?_
    refine ex_getR (pc := 90) (a := 82) (by decide +kernel) lf_MM_19 (hF.s (j := 78) rfl) (hF.r (j := 78) (k := 4) rfl rfl) ?_
    refine ex_iload_n (pc := 93) (k := 1) (by decide +kernel) rfl ?_
    obtain ⟨g1, h⟩ := h
    refine ey_iald (pc := 94) (v := mi M 82 l1.toNatClampNeg) (by decide +kernel) (hF.s (j := 82) rfl) g1 rfl rfl ?_
    refine ex_iload_n (pc := 95) (k := 2) (by decide +kernel) rfl ?_
    refine ex_icmp_ne (pc := 96) (off := 12) (tgt := 108) (by decide +kernel) (by decide) (fun hc => ?_) (fun hc => ?_)
    · replace h := h.1 hc
      exact h
    · replace h := h.2 hc
      refine ex_aload_n (pc := 99) (k := 0) (by decide +kernel) rfl ?_
      refine ex_iload_n (pc := 100) (k := 1) (by decide +kernel) rfl ?_
      refine ex_iload_n (pc := 101) (k := 2) (by decide +kernel) rfl ?_
      refine ex_callV (pc := 102) (as := [.int l1, .int l2]) (by decide +kernel) F_MM_follows (in_t6 (i := 174) rfl rfl) (hF.s (j := 78) rfl) rfl (by decide) rfl rfl (Nat.le_of_ble_eq_true rfl) (Nat.lt_succ_self _) ⟨Nat.zero_le _, Nat.zero_le _⟩ (KC_B (Con.mono h ?_))
      intro o M1 ⟨r1, e9, hF1, h⟩
      refine ⟨r1, e9, ?_⟩
      refine ey_ifeqB (pc := 105) (off := 22) (tgt := 127) (by decide +kernel) (by decide) (fun hc => ?_) (fun hc => ?_)
      · replace h := h.1 hc
        refine ex_iconst (pc := 127) (k := 1) (v := nI 1) (by decide +kernel) (by decide) ?_
        refine ex_goto (pc := 128) (off := 4) (tgt := 132) (by decide +kernel) (by decide) ?_
        exact ex_ireturn (pc := 132) (v := b2i true) (by decide +kernel) rfl (b2i_n _) h
      · replace h := h.2 hc
        exact h
theorem k_MM_doBar_108 {d bc bs : Nat} {l1 : Int32} {l2 : Int32} {l3 : Int32} {M : Mem} {Φ : Option Value → Mem → Prop} (hF : Fm M) (h : vp_in l2 6 ∧ (¬ (mi M 82 l2.toNatClampNeg) = l1 → Φ (some (.int (b2i false))) M) ∧ ((mi M 82 l2.toNatClampNeg) = l1 → Con d m_MM_follows 0 0 [.ref 78, .int l2, .int l1] M (PB fun r1 M1 => Fm M1 ∧ (r1 = true → Φ (some (.int (b2i false))) M1) ∧ (r1 = false → Φ (some (.int (b2i true))) M1)))) : Ex (d + 1) m_MM_doBar bc bs 108 [some (.ref 78), some (.int l1), some (.int l2), some (.int l3)] [] M Φ := by
  refine ex_aload_n (pc := 108) (k := 0) (by decide +kernel) rfl ?_
  refine ex_getR (pc := 109) (a := 82) (by decide +kernel) lf_MM_19 (hF.s (j := 78) rfl) (hF.r (j := 78) (k := 4) rfl rfl) ?_
  refine ex_iload_n (pc := 112) (k := 2) (by decide +kernel) rfl ?_
  obtain ⟨g1, h⟩ := h
  refine ey_iald (pc := 113) (v := mi M 82 l2.toNatClampNeg) (by decide +kernel) (hF.s (j := 82) rfl) g1 rfl rfl ?_
  refine ex_iload_n (pc := 114) (k := 1) (by decide +kernel) rfl ?_
  refine ex_icmp_ne (pc := 115) (off := 16) (tgt := 131) (by decide +kernel) (by decide) (fun hc => ?_) (fun hc => ?_)
  · replace h := h.1 hc
    refine ex_iconst (pc := 131) (k := 0) (v := nI 0) (by decide +kernel) (by decide) ?_
    exact ex_ireturn (pc := 132) (v := b2i false) (by decide +kernel) rfl (b2i_n _) h
  · replace h := h.2 hc
    refine ex_aload_n (pc := 118) (k := 0) (by decide +kernel) rfl ?_
    refine ex_iload_n (pc := 119) (k := 2) (by decide +kernel) rfl ?_
    refine ex_iload_n (pc := 120) (k := 1) (by decide +kernel) rfl ?_
    refine ex_callV (pc := 121) (as := [.int l2, .int l1]) (by decide +kernel) F_MM_follows (in_t6 (i := 174) rfl rfl) (hF.s (j := 78) rfl) rfl (by decide) rfl rfl (Nat.le_of_ble_eq_true rfl) (Nat.lt_succ_self _) ⟨Nat.zero_le _, Nat.zero_le _⟩ (KC_B (Con.mono h ?_))
    intro o M1 ⟨r1, e9, hF1, h⟩
    refine ⟨r1, e9, ?_⟩
    refine ey_ifneB (pc := 124) (off := 7) (tgt := 131) (by decide +kernel) (by decide) (fun hc => ?_) (fun hc => ?_)
    · replace h := h.1 hc
      refine ex_iconst (pc := 131) (k := 0) (v := nI 0) (by decide +kernel) (by decide) ?_
      exact ex_ireturn (pc := 132) (v := b2i false) (by decide +kernel) rfl (b2i_n _) h
    · replace h := h.2 hc
      refine ex_iconst (pc := 127) (k := 1) (v := nI 1) (by decide +kernel) (by decide) ?_
      refine ex_goto (pc := 128) (off := 4) (tgt := 132) (by decide +kernel) (by decide) ?_
      exact ex_ireturn (pc := 132) (v := b2i true) (by decide +kernel) rfl (b2i_n _) h
theorem k_MM_firstBar_0 {d bc bs : Nat}  {M : Mem} {Φ : Option Value → Mem → Prop} (hF : Fm M) (h : Ex (d + 1) m_MM_firstBar bc bs 2 [some (.ref 78), some (.int (nI 0)), none] [] M Φ) : Ex (d + 1) m_MM_firstBar bc bs 0 [some (.ref 78), none, none] [] M Φ := by
  refine ex_iconst (pc := 0) (k := 0) (v := nI 0) (by decide +kernel) (by decide) ?_
  refine ex_istore_n (pc := 1) (k := 1) (lo2 := [some (.ref 78), some (.int (nI 0)), none]) (by decide +kernel) (by decide) rfl ?_
  exact h
theorem k_MM_firstBar_2 {d bc bs : Nat} {l1 : Int32} {M : Mem} {Φ : Option Value → Mem → Prop} (hF : Fm M) (h : ((mi M 78 0) ≤ l1 → Φ (some (.int (-1))) M) ∧ (¬ (mi M 78 0) ≤ l1 → Ex (d + 1) m_MM_firstBar bc bs 12 [some (.ref 78), some (.int l1), some (.int l1)] [] M Φ)) : Ex (d + 1) m_MM_firstBar bc bs 2 [some (.ref 78), some (.int l1), none] [] M Φ := by
  refine ex_iload_n (pc := 2) (k := 1) (by decide +kernel) rfl ?_
  refine ex_aload_n (pc := 3) (k := 0) (by decide +kernel) rfl ?_
  refine ey_getI (pc := 4) (v := mi M 78 0) (by decide +kernel) lf_MM_151 (hF.s (j := 78) rfl) rfl ?_
  refine ex_icmp_ge (pc := 7) (off := 41) (tgt := 48) (by decide +kernel) (by decide) (fun hc => ?_) (fun hc => ?_)
  · replace h := h.1 hc
    refine ex_iconst (pc := 48) (k := -1) (v := -1) (by decide +kernel) (by decide) ?_
    exact ex_ireturn (pc := 49) (by decide +kernel) rfl rfl h
  · replace h := h.2 hc
    refine ex_iload_n (pc := 10) (k := 1) (by decide +kernel) rfl ?_
    refine ex_istore_n (pc := 11) (k := 2) (lo2 := [some (.ref 78), some (.int l1), some (.int l1)]) (by decide +kernel) (by decide) rfl ?_
    exact h
theorem k_MM_firstBar_12 {d bc bs : Nat} {l1 : Int32} {l2 : Int32} {M : Mem} {Φ : Option Value → Mem → Prop} (hF : Fm M) (h : ((mi M 78 0) ≤ l2 → Ex (d + 1) m_MM_firstBar bc bs 2 [some (.ref 78), some (.int (l1 + nI 1)), none] [] M Φ) ∧ (¬ (mi M 78 0) ≤ l2 → Con d m_MM_doBar 0 0 [.ref 78, .int l1, .int l2] M (PB fun r1 M1 => Fm M1 ∧ (r1 = false → Ex (d + 1) m_MM_firstBar bc bs 12 [some (.ref 78), some (.int l1), some (.int (l2 + nI 1))] [] M1 Φ) ∧ (r1 = true → Φ (some (.int (((nI 10) * l1) + l2))) M1)))) : Ex (d + 1) m_MM_firstBar bc bs 12 [some (.ref 78), some (.int l1), some (.int l2)] [] M Φ := by
  refine ex_iload_n (pc := 12) (k := 2) (by decide +kernel) rfl ?_
  refine ex_aload_n (pc := 13) (k := 0) (by decide +kernel) rfl ?_
  refine ey_getI (pc := 14) (v := mi M 78 0) (by decide +kernel) lf_MM_151 (hF.s (j := 78) rfl) rfl ?_
  refine ex_icmp_ge (pc := 17) (off := 25) (tgt := 42) (by decide +kernel) (by decide) (fun hc => ?_) (fun hc => ?_)
  · replace h := h.1 hc
    refine ex_iinc (pc := 42) (i := 1) (k := 1) (v := l1 + nI 1) (lo2 := [some (.ref 78), some (.int (l1 + nI 1)), some (.int l2)]) (by decide +kernel) (by decide) rfl rfl rfl ?_
    refine ex_goto (pc := 45) (off := -43) (tgt := 2) (by decide +kernel) (by decide) ?_
    exact Ex.msk [true, true, false] h
  · replace h := h.2 hc
    refine ex_aload_n (pc := 20) (k := 0) (by decide +kernel) rfl ?_
    refine ex_iload_n (pc := 21) (k := 1) (by decide +kernel) rfl ?_
    refine ex_iload_n (pc := 22) (k := 2) (by decide +kernel) rfl ?_
    refine ex_callV (pc := 23) (as := [.int l1, .int l2]) (by decide +kernel) F_MM_doBar (in_t6 (i := 170) rfl rfl) (hF.s (j := 78) rfl) rfl (by decide) rfl rfl (Nat.le_of_ble_eq_true rfl) (Nat.lt_succ_self _) ⟨Nat.zero_le _, Nat.zero_le _⟩ (KC_B (Con.mono h ?_))
    intro o M1 ⟨r1, e9, hF1, h⟩
    refine ⟨r1, e9, ?_⟩
    refine ey_ifeqB (pc := 26) (off := 10) (tgt := 36) (by decide +kernel) (by decide) (fun hc => ?_) (fun hc => ?_)
    · replace h := h.1 hc
      refine ex_iinc (pc := 36) (i := 2) (k := 1) (v := l2 + nI 1) (lo2 := [some (.ref 78), some (.int l1), some (.int (l2 + nI 1))]) (by decide +kernel) (by decide) rfl rfl rfl ?_
      refine ex_goto (pc := 39) (off := -27) (tgt := 12) (by decide +kernel) (by decide) ?_
      exact h
    · replace h := h.2 hc
      refine ex_bipush (pc := 29) (k := 10) (v := nI 10) (by decide +kernel) (by decide) ?_
      refine ex_iload_n (pc := 31) (k := 1) (by decide +kernel) rfl ?_
      refine ex_imul (pc := 32) (by decide +kernel) ?_
      refine ex_iload_n (pc := 33) (k := 2) (by decide +kernel) rfl ?_
      refine ex_iadd (pc := 34) (by decide +kernel) ?_
      exact ex_ireturn (pc := 35) (by decide +kernel) rfl rfl h
theorem k_MM_bar_0 {d bc bs : Nat} {l1 : Int32} {l2 : Int32} {M : Mem} {Φ : Option Value → Mem → Prop} (hF : Fm M) (h : Con d m_MM_isGiving 0 0 [.ref 78, .int l1] M (PB fun r1 M1 => Fm M1 ∧ (r1 = false → Φ (some (.int (-5))) M1) ∧ (r1 = true → Con d m_MM_isWeek 0 0 [.int l2] M1 (PB fun r2 M2 => Fm M2 ∧ (r2 = true → Con d m_MM_looks 0 0 [.ref 78] M2 (PV fun M3 => Fm M3 ∧ Con d m_MM_laysNow 0 0 [.ref 78, .int l1, .int l2] M3 (PV fun M4 => Fm M4 ∧ Con d m_MM_firstBar 0 0 [.ref 78] M4 (PI fun r3 M5 => Fm M5 ∧ Φ (some (.int r3)) M5)))) ∧ (r2 = false → Φ (some (.int (-5))) M2))))) : Ex (d + 1) m_MM_bar bc bs 0 [some (.ref 78), some (.int l1), some (.int l2)] [] M Φ := by
  refine ex_aload_n (pc := 0) (k := 0) (by decide +kernel) rfl ?_
  refine ex_iload_n (pc := 1) (k := 1) (by decide +kernel) rfl ?_
  refine ex_callV (pc := 2) (as := [.int l1]) (by decide +kernel) F_MM_isGiving (in_t6 (i := 142) rfl rfl) (hF.s (j := 78) rfl) rfl (by decide) rfl rfl (Nat.le_of_ble_eq_true rfl) (Nat.lt_succ_self _) ⟨Nat.zero_le _, Nat.zero_le _⟩ (KC_B (Con.mono h ?_))
  intro o M1 ⟨r1, e9, hF1, h⟩
  refine ⟨r1, e9, ?_⟩
  refine ey_ifeqB (pc := 5) (off := 10) (tgt := 15) (by decide +kernel) (by decide) (fun hc => ?_) (fun hc => ?_)
  · replace h := h.1 hc
    refine ex_bipush (pc := 15) (k := -5) (v := -5) (by decide +kernel) (by decide) ?_
    exact ex_ireturn (pc := 17) (by decide +kernel) rfl rfl h
  · replace h := h.2 hc
    refine ex_iload_n (pc := 8) (k := 2) (by decide +kernel) rfl ?_
    refine ex_callS (pc := 9) (as := [.int l2]) (by decide +kernel) F_MM_isWeek (in_t6 (i := 46) rfl rfl) rfl rfl (Nat.le_of_ble_eq_true rfl) (Nat.lt_succ_self _) ⟨Nat.zero_le _, Nat.zero_le _⟩ (KC_B (Con.mono h ?_))
    intro o M2 ⟨r2, e9, hF2, h⟩
    refine ⟨r2, e9, ?_⟩
    refine ey_ifneB (pc := 12) (off := 6) (tgt := 18) (by decide +kernel) (by decide) (fun hc => ?_) (fun hc => ?_)
    · replace h := h.1 hc
      refine ex_aload_n (pc := 18) (k := 0) (by decide +kernel) rfl ?_
      refine ex_callV (pc := 19) (as := []) (by decide +kernel) F_MM_looks (in_t6 (i := 158) rfl rfl) (hF2.s (j := 78) rfl) rfl (by decide) rfl rfl (Nat.le_of_ble_eq_true rfl) (Nat.lt_succ_self _) ⟨Nat.zero_le _, Nat.zero_le _⟩ (KC_V (Con.mono h ?_))
      intro o M3 ⟨e9, hF3, h⟩
      refine ⟨e9, ?_⟩
      refine ex_aload_n (pc := 22) (k := 0) (by decide +kernel) rfl ?_
      refine ex_iload_n (pc := 23) (k := 1) (by decide +kernel) rfl ?_
      refine ex_iload_n (pc := 24) (k := 2) (by decide +kernel) rfl ?_
      refine ex_callV (pc := 25) (as := [.int l1, .int l2]) (by decide +kernel) F_MM_laysNow (in_t6 (i := 162) rfl rfl) (hF3.s (j := 78) rfl) rfl (by decide) rfl rfl (Nat.le_of_ble_eq_true rfl) (Nat.lt_succ_self _) ⟨Nat.zero_le _, Nat.zero_le _⟩ (KC_V (Con.mono h ?_))
      intro o M4 ⟨e9, hF4, h⟩
      refine ⟨e9, ?_⟩
      refine ex_aload_n (pc := 28) (k := 0) (by decide +kernel) rfl ?_
      refine ex_callV (pc := 29) (as := []) (by decide +kernel) F_MM_firstBar (in_t6 (i := 166) rfl rfl) (hF4.s (j := 78) rfl) rfl (by decide) rfl rfl (Nat.le_of_ble_eq_true rfl) (Nat.lt_succ_self _) ⟨Nat.zero_le _, Nat.zero_le _⟩ (KC_I (Con.mono h ?_))
      intro o M5 ⟨r3, e9, hF5, h⟩
      refine ⟨r3, e9, ?_⟩
      exact ex_ireturn (pc := 32) (by decide +kernel) rfl rfl h
    · replace h := h.2 hc
      refine ex_bipush (pc := 15) (k := -5) (v := -5) (by decide +kernel) (by decide) ?_
      exact ex_ireturn (pc := 17) (by decide +kernel) rfl rfl h
theorem k_MM_lawful_0 {d bc bs : Nat} {l1 : Int32} {l2 : Int32} {M : Mem} {Φ : Option Value → Mem → Prop} (hF : Fm M) (h : Con d m_MM_isGiving 0 0 [.ref 78, .int l1] M (PB fun r1 M1 => Fm M1 ∧ (r1 = false → Φ (some (.int (-5))) M1) ∧ (r1 = true → Con d m_MM_isWeek 0 0 [.int l2] M1 (PB fun r2 M2 => Fm M2 ∧ (r2 = true → Con d m_MM_looks 0 0 [.ref 78] M2 (PV fun M3 => Fm M3 ∧ Ex (d + 1) m_MM_lawful bc bs 27 [some (.ref 78), some (.int l1), some (.int l2), some (.int (nI 0)), some (.int (nI 0))] [] M3 Φ)) ∧ (r2 = false → Φ (some (.int (-5))) M2))))) : Ex (d + 1) m_MM_lawful bc bs 0 [some (.ref 78), some (.int l1), some (.int l2), none, none] [] M Φ := by
  refine ex_aload_n (pc := 0) (k := 0) (by decide +kernel) rfl ?_
  refine ex_iload_n (pc := 1) (k := 1) (by decide +kernel) rfl ?_
  refine ex_callV (pc := 2) (as := [.int l1]) (by decide +kernel) F_MM_isGiving (in_t6 (i := 142) rfl rfl) (hF.s (j := 78) rfl) rfl (by decide) rfl rfl (Nat.le_of_ble_eq_true rfl) (Nat.lt_succ_self _) ⟨Nat.zero_le _, Nat.zero_le _⟩ (KC_B (Con.mono h ?_))
  intro o M1 ⟨r1, e9, hF1, h⟩
  refine ⟨r1, e9, ?_⟩
  refine ey_ifeqB (pc := 5) (off := 10) (tgt := 15) (by decide +kernel) (by decide) (fun hc => ?_) (fun hc => ?_)
  · replace h := h.1 hc
    refine ex_bipush (pc := 15) (k := -5) (v := -5) (by decide +kernel) (by decide) ?_
    exact ex_ireturn (pc := 17) (by decide +kernel) rfl rfl h
  · replace h := h.2 hc
    refine ex_iload_n (pc := 8) (k := 2) (by decide +kernel) rfl ?_
    refine ex_callS (pc := 9) (as := [.int l2]) (by decide +kernel) F_MM_isWeek (in_t6 (i := 46) rfl rfl) rfl rfl (Nat.le_of_ble_eq_true rfl) (Nat.lt_succ_self _) ⟨Nat.zero_le _, Nat.zero_le _⟩ (KC_B (Con.mono h ?_))
    intro o M2 ⟨r2, e9, hF2, h⟩
    refine ⟨r2, e9, ?_⟩
    refine ey_ifneB (pc := 12) (off := 6) (tgt := 18) (by decide +kernel) (by decide) (fun hc => ?_) (fun hc => ?_)
    · replace h := h.1 hc
      refine ex_aload_n (pc := 18) (k := 0) (by decide +kernel) rfl ?_
      refine ex_callV (pc := 19) (as := []) (by decide +kernel) F_MM_looks (in_t6 (i := 158) rfl rfl) (hF2.s (j := 78) rfl) rfl (by decide) rfl rfl (Nat.le_of_ble_eq_true rfl) (Nat.lt_succ_self _) ⟨Nat.zero_le _, Nat.zero_le _⟩ (KC_V (Con.mono h ?_))
      intro o M3 ⟨e9, hF3, h⟩
      refine ⟨e9, ?_⟩
      refine ex_iconst (pc := 22) (k := 0) (v := nI 0) (by decide +kernel) (by decide) ?_
      refine ex_istore_n (pc := 23) (k := 3) (lo2 := [some (.ref 78), some (.int l1), some (.int l2), some (.int (nI 0)), none]) (by decide +kernel) (by decide) rfl ?_
      refine ex_iconst (pc := 24) (k := 0) (v := nI 0) (by decide +kernel) (by decide) ?_
      refine ex_istore (pc := 25) (k := 4) (lo2 := [some (.ref 78), some (.int l1), some (.int l2), some (.int (nI 0)), some (.int (nI 0))]) (by decide +kernel) (by decide) rfl ?_
      exact h
    · replace h := h.2 hc
      refine ex_bipush (pc := 15) (k := -5) (v := -5) (by decide +kernel) (by decide) ?_
      exact ex_ireturn (pc := 17) (by decide +kernel) rfl rfl h
theorem k_MM_lawful_27 {d bc bs : Nat} {l1 : Int32} {l2 : Int32} {l3 : Int32} {l4 : Int32} {M : Mem} {Φ : Option Value → Mem → Prop} (hF : Fm M) (h : (l2 < l4 → Φ (some (.int l3)) M) ∧ (¬ l2 < l4 → Con d m_MM_laysNow 0 0 [.ref 78, .int l1, .int l4] M (PV fun M1 => Fm M1 ∧ Con d m_MM_firstBar 0 0 [.ref 78] M1 (PI fun r1 M2 => Fm M2 ∧ (¬ r1 = (-1) → Ex (d + 1) m_MM_lawful bc bs 27 [some (.ref 78), some (.int l1), some (.int l2), some (.int (l3 + (nI 0))), some (.int (l4 + nI 1))] [] M2 Φ) ∧ (r1 = (-1) → Ex (d + 1) m_MM_lawful bc bs 27 [some (.ref 78), some (.int l1), some (.int l2), some (.int (l3 + (nI 1))), some (.int (l4 + nI 1))] [] M2 Φ))))) : Ex (d + 1) m_MM_lawful bc bs 27 [some (.ref 78), some (.int l1), some (.int l2), some (.int l3), some (.int l4)] [] M Φ := by
  refine ex_iload (pc := 27) (k := 4) (by decide +kernel) rfl ?_
  refine ex_iload_n (pc := 29) (k := 2) (by decide +kernel) rfl ?_
  refine ex_icmp_gt (pc := 30) (off := 32) (tgt := 62) (by decide +kernel) (by decide) (fun hc => ?_) (fun hc => ?_)
  · replace h := h.1 hc
    refine ex_iload_n (pc := 62) (k := 3) (by decide +kernel) rfl ?_
    exact ex_ireturn (pc := 63) (by decide +kernel) rfl rfl h
  · replace h := h.2 hc
    refine ex_aload_n (pc := 33) (k := 0) (by decide +kernel) rfl ?_
    refine ex_iload_n (pc := 34) (k := 1) (by decide +kernel) rfl ?_
    refine ex_iload (pc := 35) (k := 4) (by decide +kernel) rfl ?_
    refine ex_callV (pc := 37) (as := [.int l1, .int l4]) (by decide +kernel) F_MM_laysNow (in_t6 (i := 162) rfl rfl) (hF.s (j := 78) rfl) rfl (by decide) rfl rfl (Nat.le_of_ble_eq_true rfl) (Nat.lt_succ_self _) ⟨Nat.zero_le _, Nat.zero_le _⟩ (KC_V (Con.mono h ?_))
    intro o M1 ⟨e9, hF1, h⟩
    refine ⟨e9, ?_⟩
    refine ex_iload_n (pc := 40) (k := 3) (by decide +kernel) rfl ?_
    refine ex_aload_n (pc := 41) (k := 0) (by decide +kernel) rfl ?_
    refine ex_callV (pc := 42) (as := []) (by decide +kernel) F_MM_firstBar (in_t6 (i := 166) rfl rfl) (hF1.s (j := 78) rfl) rfl (by decide) rfl rfl (Nat.le_of_ble_eq_true rfl) (Nat.lt_succ_self _) ⟨Nat.zero_le _, Nat.zero_le _⟩ (KC_I (Con.mono h ?_))
    intro o M2 ⟨r1, e9, hF2, h⟩
    refine ⟨r1, e9, ?_⟩
    refine ex_iconst (pc := 45) (k := -1) (v := -1) (by decide +kernel) (by decide) ?_
    refine ex_icmp_ne (pc := 46) (off := 7) (tgt := 53) (by decide +kernel) (by decide) (fun hc => ?_) (fun hc => ?_)
    · replace h := h.1 hc
      refine ex_iconst (pc := 53) (k := 0) (v := nI 0) (by decide +kernel) (by decide) ?_
      refine ex_iadd (pc := 54) (by decide +kernel) ?_
      refine ex_istore_n (pc := 55) (k := 3) (lo2 := [some (.ref 78), some (.int l1), some (.int l2), some (.int (l3 + (nI 0))), some (.int l4)]) (by decide +kernel) (by decide) rfl ?_
      refine ex_iinc (pc := 56) (i := 4) (k := 1) (v := l4 + nI 1) (lo2 := [some (.ref 78), some (.int l1), some (.int l2), some (.int (l3 + (nI 0))), some (.int (l4 + nI 1))]) (by decide +kernel) (by decide) rfl rfl rfl ?_
      refine ex_goto (pc := 59) (off := -32) (tgt := 27) (by decide +kernel) (by decide) ?_
      exact h
    · replace h := h.2 hc
      refine ex_iconst (pc := 49) (k := 1) (v := nI 1) (by decide +kernel) (by decide) ?_
      refine ex_goto (pc := 50) (off := 4) (tgt := 54) (by decide +kernel) (by decide) ?_
      refine ex_iadd (pc := 54) (by decide +kernel) ?_
      refine ex_istore_n (pc := 55) (k := 3) (lo2 := [some (.ref 78), some (.int l1), some (.int l2), some (.int (l3 + (nI 1))), some (.int l4)]) (by decide +kernel) (by decide) rfl ?_
      refine ex_iinc (pc := 56) (i := 4) (k := 1) (v := l4 + nI 1) (lo2 := [some (.ref 78), some (.int l1), some (.int l2), some (.int (l3 + (nI 1))), some (.int (l4 + nI 1))]) (by decide +kernel) (by decide) rfl rfl rfl ?_
      refine ex_goto (pc := 59) (off := -32) (tgt := 27) (by decide +kernel) (by decide) ?_
      exact h
theorem k_MM_worthNow_0 {d bc bs : Nat} {l1 : Int32} {M : Mem} {Φ : Option Value → Mem → Prop} (hF : Fm M) (h : Ex (d + 1) m_MM_worthNow bc bs 4 [some (.ref 78), some (.int l1), some (.int (nI 0)), some (.int (nI 0)), none, none, none, none] [] M Φ) : Ex (d + 1) m_MM_worthNow bc bs 0 [some (.ref 78), some (.int l1), none, none, none, none, none, none] [] M Φ := by
  refine ex_iconst (pc := 0) (k := 0) (v := nI 0) (by decide +kernel) (by decide) ?_
  refine ex_istore_n (pc := 1) (k := 2) (lo2 := [some (.ref 78), some (.int l1), some (.int (nI 0)), none, none, none, none, none]) (by decide +kernel) (by decide) rfl ?_
  refine ex_iconst (pc := 2) (k := 0) (v := nI 0) (by decide +kernel) (by decide) ?_
  refine ex_istore_n (pc := 3) (k := 3) (lo2 := [some (.ref 78), some (.int l1), some (.int (nI 0)), some (.int (nI 0)), none, none, none, none]) (by decide +kernel) (by decide) rfl ?_
  exact h
theorem k_MM_worthNow_4 {d bc bs : Nat} {l1 : Int32} {l2 : Int32} {l3 : Int32} {M : Mem} {Φ : Option Value → Mem → Prop} (hF : Fm M) (h : ((mi M 78 6) ≤ l3 → Φ (some (.int l2)) M) ∧ (¬ (mi M 78 6) ≤ l3 → vp_in l1 6 ∧ (¬ (((mi M 109 l1.toNatClampNeg) >>> (l3 &&& 31)) &&& (nI 1)) = (nI 1) → Ex (d + 1) m_MM_worthNow bc bs 4 [some (.ref 78), some (.int l1), some (.int l2), some (.int (l3 + nI 1)), none, none, none, none] [] M Φ) ∧ ((((mi M 109 l1.toNatClampNeg) >>> (l3 &&& 31)) &&& (nI 1)) = (nI 1) → Ex (d + 1) m_MM_worthNow bc bs 36 [some (.ref 78), some (.int l1), some (.int l2), some (.int l3), some (.int (nI 99)), some (.int (nI 0)), some (.int (nI 0)), none] [] M Φ))) : Ex (d + 1) m_MM_worthNow bc bs 4 [some (.ref 78), some (.int l1), some (.int l2), some (.int l3), none, none, none, none] [] M Φ := by
  refine ex_iload_n (pc := 4) (k := 3) (by decide +kernel) rfl ?_
  refine ex_aload_n (pc := 5) (k := 0) (by decide +kernel) rfl ?_
  refine ey_getI (pc := 6) (v := mi M 78 6) (by decide +kernel) lf_MM_25 (hF.s (j := 78) rfl) rfl ?_
  refine ex_icmp_ge (pc := 9) (off := 158) (tgt := 167) (by decide +kernel) (by decide) (fun hc => ?_) (fun hc => ?_)
  · replace h := h.1 hc
    refine ex_iload_n (pc := 167) (k := 2) (by decide +kernel) rfl ?_
    exact ex_ireturn (pc := 168) (by decide +kernel) rfl rfl h
  · replace h := h.2 hc
    refine ex_aload_n (pc := 12) (k := 0) (by decide +kernel) rfl ?_
    refine ex_getR (pc := 13) (a := 109) (by decide +kernel) lf_MM_131 (hF.s (j := 78) rfl) (hF.r (j := 78) (k := 52) rfl rfl) ?_
    refine ex_iload_n (pc := 16) (k := 1) (by decide +kernel) rfl ?_
    obtain ⟨g1, h⟩ := h
    refine ey_iald (pc := 17) (v := mi M 109 l1.toNatClampNeg) (by decide +kernel) (hF.s (j := 109) rfl) g1 rfl rfl ?_
    refine ex_iload_n (pc := 18) (k := 3) (by decide +kernel) rfl ?_
    refine ex_ishr (pc := 19) (by decide +kernel) ?_
    refine ex_iconst (pc := 20) (k := 1) (v := nI 1) (by decide +kernel) (by decide) ?_
    refine ex_iand (pc := 21) (by decide +kernel) ?_
    refine ex_iconst (pc := 22) (k := 1) (v := nI 1) (by decide +kernel) (by decide) ?_
    refine ex_icmp_ne (pc := 23) (off := 138) (tgt := 161) (by decide +kernel) (by decide) (fun hc => ?_) (fun hc => ?_)
    · replace h := h.1 hc
      refine ex_iinc (pc := 161) (i := 3) (k := 1) (v := l3 + nI 1) (lo2 := [some (.ref 78), some (.int l1), some (.int l2), some (.int (l3 + nI 1)), none, none, none, none]) (by decide +kernel) (by decide) rfl rfl rfl ?_
      refine ex_goto (pc := 164) (off := -160) (tgt := 4) (by decide +kernel) (by decide) ?_
      exact h
    · replace h := h.2 hc
      refine ex_bipush (pc := 26) (k := 99) (v := nI 99) (by decide +kernel) (by decide) ?_
      refine ex_istore (pc := 28) (k := 4) (lo2 := [some (.ref 78), some (.int l1), some (.int l2), some (.int l3), some (.int (nI 99)), none, none, none]) (by decide +kernel) (by decide) rfl ?_
      refine ex_iconst (pc := 30) (k := 0) (v := nI 0) (by decide +kernel) (by decide) ?_
      refine ex_istore (pc := 31) (k := 5) (lo2 := [some (.ref 78), some (.int l1), some (.int l2), some (.int l3), some (.int (nI 99)), some (.int (nI 0)), none, none]) (by decide +kernel) (by decide) rfl ?_
      refine ex_iconst (pc := 33) (k := 0) (v := nI 0) (by decide +kernel) (by decide) ?_
      refine ex_istore (pc := 34) (k := 6) (lo2 := [some (.ref 78), some (.int l1), some (.int l2), some (.int l3), some (.int (nI 99)), some (.int (nI 0)), some (.int (nI 0)), none]) (by decide +kernel) (by decide) rfl ?_
      exact h
theorem k_MM_worthNow_36 {d bc bs : Nat} {l1 : Int32} {l2 : Int32} {l3 : Int32} {l4 : Int32} {l5 : Int32} {l6 : Int32} {M : Mem} {Φ : Option Value → Mem → Prop} (hF : Fm M) (h : ((mi M 78 0) ≤ l6 → Con d m_MM_worthBy 0 0 [.ref 78, .int l1, .int l3, .int l4, .int l5] M (PI fun r1 M1 => Fm M1 ∧ Ex (d + 1) m_MM_worthNow bc bs 4 [some (.ref 78), some (.int l1), some (.int (l2 + r1)), some (.int (l3 + nI 1)), none, none, none, none] [] M1 Φ)) ∧ (¬ (mi M 78 0) ≤ l6 → (l6 = l1 → Ex (d + 1) m_MM_worthNow bc bs 36 [some (.ref 78), some (.int l1), some (.int l2), some (.int l3), some (.int l4), some (.int l5), some (.int (l6 + nI 1)), none] [] M Φ) ∧ (¬ l6 = l1 → vp_in l6 6 ∧ ¬ (mi M 78 6) = 0 ∧ (¬ (((mi M 109 l6.toNatClampNeg) >>> ((((l3 + (mi M 78 6)) - (nI 1)) % (mi M 78 6)) &&& 31)) &&& (nI 1)) = (nI 1) → ((nI 0) = 0 → Ex (d + 1) m_MM_worthNow bc bs 122 [some (.ref 78), some (.int l1), some (.int l2), some (.int l3), some (.int l4), some (.int l5), some (.int l6), some (.int (nI 0))] [] M Φ) ∧ (¬ (nI 0) = 0 → vp_in (((nI 6) * l1) + l6) 36 ∧ (l4 ≤ (mi M 103 ((((nI 6) * l1) + l6).toNatClampNeg)) → Ex (d + 1) m_MM_worthNow bc bs 122 [some (.ref 78), some (.int l1), some (.int l2), some (.int l3), some (.int l4), some (.int l5), some (.int l6), some (.int (nI 0))] [] M Φ) ∧ (¬ l4 ≤ (mi M 103 ((((nI 6) * l1) + l6).toNatClampNeg)) → vp_in (((nI 6) * l1) + l6) 36 ∧ vp_in l6 6 ∧ Ex (d + 1) m_MM_worthNow bc bs 36 [some (.ref 78), some (.int l1), some (.int l2), some (.int l3), some (.int (mi M 103 ((((nI 6) * l1) + l6).toNatClampNeg))), some (.int (l5 + (((mi M 109 l6.toNatClampNeg) >>> (l3 &&& 31)) &&& (nI 1)))), some (.int (l6 + nI 1)), none] [] M Φ))) ∧ ((((mi M 109 l6.toNatClampNeg) >>> ((((l3 + (mi M 78 6)) - (nI 1)) % (mi M 78 6)) &&& 31)) &&& (nI 1)) = (nI 1) → ((nI 1) = 0 → Ex (d + 1) m_MM_worthNow bc bs 122 [some (.ref 78), some (.int l1), some (.int l2), some (.int l3), some (.int l4), some (.int l5), some (.int l6), some (.int (nI 1))] [] M Φ) ∧ (¬ (nI 1) = 0 → vp_in (((nI 6) * l1) + l6) 36 ∧ (l4 ≤ (mi M 103 ((((nI 6) * l1) + l6).toNatClampNeg)) → Ex (d + 1) m_MM_worthNow bc bs 122 [some (.ref 78), some (.int l1), some (.int l2), some (.int l3), some (.int l4), some (.int l5), some (.int l6), some (.int (nI 1))] [] M Φ) ∧ (¬ l4 ≤ (mi M 103 ((((nI 6) * l1) + l6).toNatClampNeg)) → vp_in (((nI 6) * l1) + l6) 36 ∧ vp_in l6 6 ∧ Ex (d + 1) m_MM_worthNow bc bs 36 [some (.ref 78), some (.int l1), some (.int l2), some (.int l3), some (.int (mi M 103 ((((nI 6) * l1) + l6).toNatClampNeg))), some (.int (l5 + (((mi M 109 l6.toNatClampNeg) >>> (l3 &&& 31)) &&& (nI 1)))), some (.int (l6 + nI 1)), none] [] M Φ)))))) : Ex (d + 1) m_MM_worthNow bc bs 36 [some (.ref 78), some (.int l1), some (.int l2), some (.int l3), some (.int l4), some (.int l5), some (.int l6), none] [] M Φ := by
  refine ex_iload (pc := 36) (k := 6) (by decide +kernel) rfl ?_
  refine ex_aload_n (pc := 38) (k := 0) (by decide +kernel) rfl ?_
  refine ey_getI (pc := 39) (v := mi M 78 0) (by decide +kernel) lf_MM_151 (hF.s (j := 78) rfl) rfl ?_
  refine ex_icmp_ge (pc := 42) (off := 106) (tgt := 148) (by decide +kernel) (by decide) (fun hc => ?_) (fun hc => ?_)
  · replace h := h.1 hc
    refine ex_iload_n (pc := 148) (k := 2) (by decide +kernel) rfl ?_
    refine ex_aload_n (pc := 149) (k := 0) (by decide +kernel) rfl ?_
    refine ex_iload_n (pc := 150) (k := 1) (by decide +kernel) rfl ?_
    refine ex_iload_n (pc := 151) (k := 3) (by decide +kernel) rfl ?_
    refine ex_iload (pc := 152) (k := 4) (by decide +kernel) rfl ?_
    refine ex_iload (pc := 154) (k := 5) (by decide +kernel) rfl ?_
    refine ex_callV (pc := 156) (as := [.int l1, .int l3, .int l4, .int l5]) (by decide +kernel) F_MM_worthBy (in_t6 (i := 126) rfl rfl) (hF.s (j := 78) rfl) rfl (by decide) rfl rfl (Nat.le_of_ble_eq_true rfl) (Nat.lt_succ_self _) ⟨Nat.zero_le _, Nat.zero_le _⟩ (KC_I (Con.mono h ?_))
    intro o M1 ⟨r1, e9, hF1, h⟩
    refine ⟨r1, e9, ?_⟩
    refine ex_iadd (pc := 159) (by decide +kernel) ?_
    refine ex_istore_n (pc := 160) (k := 2) (lo2 := [some (.ref 78), some (.int l1), some (.int (l2 + r1)), some (.int l3), some (.int l4), some (.int l5), some (.int l6), none]) (by decide +kernel) (by decide) rfl ?_
    refine ex_iinc (pc := 161) (i := 3) (k := 1) (v := l3 + nI 1) (lo2 := [some (.ref 78), some (.int l1), some (.int (l2 + r1)), some (.int (l3 + nI 1)), some (.int l4), some (.int l5), some (.int l6), none]) (by decide +kernel) (by decide) rfl rfl rfl ?_
    refine ex_goto (pc := 164) (off := -160) (tgt := 4) (by decide +kernel) (by decide) ?_
    exact Ex.msk [true, true, true, true, false, false, false, true] h
  · replace h := h.2 hc
    refine ex_iload (pc := 45) (k := 6) (by decide +kernel) rfl ?_
    refine ex_iload_n (pc := 47) (k := 1) (by decide +kernel) rfl ?_
    refine ex_icmp_eq (pc := 48) (off := 94) (tgt := 142) (by decide +kernel) (by decide) (fun hc => ?_) (fun hc => ?_)
    · replace h := h.1 hc
      refine ex_iinc (pc := 142) (i := 6) (k := 1) (v := l6 + nI 1) (lo2 := [some (.ref 78), some (.int l1), some (.int l2), some (.int l3), some (.int l4), some (.int l5), some (.int (l6 + nI 1)), none]) (by decide +kernel) (by decide) rfl rfl rfl ?_
      refine ex_goto (pc := 145) (off := -109) (tgt := 36) (by decide +kernel) (by decide) ?_
      exact h
    · replace h := h.2 hc
      refine ex_aload_n (pc := 51) (k := 0) (by decide +kernel) rfl ?_
      refine ex_getR (pc := 52) (a := 109) (by decide +kernel) lf_MM_131 (hF.s (j := 78) rfl) (hF.r (j := 78) (k := 52) rfl rfl) ?_
      refine ex_iload (pc := 55) (k := 6) (by decide +kernel) rfl ?_
      obtain ⟨g1, h⟩ := h
      refine ey_iald (pc := 57) (v := mi M 109 l6.toNatClampNeg) (by decide +kernel) (hF.s (j := 109) rfl) g1 rfl rfl ?_
      refine ex_iload_n (pc := 58) (k := 3) (by decide +kernel) rfl ?_
      refine ex_aload_n (pc := 59) (k := 0) (by decide +kernel) rfl ?_
      refine ey_getI (pc := 60) (v := mi M 78 6) (by decide +kernel) lf_MM_25 (hF.s (j := 78) rfl) rfl ?_
      refine ex_iadd (pc := 63) (by decide +kernel) ?_
      refine ex_iconst (pc := 64) (k := 1) (v := nI 1) (by decide +kernel) (by decide) ?_
      refine ex_isub (pc := 65) (by decide +kernel) ?_
      refine ex_aload_n (pc := 66) (k := 0) (by decide +kernel) rfl ?_
      refine ey_getI (pc := 67) (v := mi M 78 6) (by decide +kernel) lf_MM_25 (hF.s (j := 78) rfl) rfl ?_
      obtain ⟨g2, h⟩ := h
      refine ex_irem (pc := 70) (by decide +kernel) g2 ?_
      refine ex_ishr (pc := 71) (by decide +kernel) ?_
      refine ex_iconst (pc := 72) (k := 1) (v := nI 1) (by decide +kernel) (by decide) ?_
      refine ex_iand (pc := 73) (by decide +kernel) ?_
      refine ex_iconst (pc := 74) (k := 1) (v := nI 1) (by decide +kernel) (by decide) ?_
      refine ex_icmp_ne (pc := 75) (off := 7) (tgt := 82) (by decide +kernel) (by decide) (fun hc => ?_) (fun hc => ?_)
      · replace h := h.1 hc
        refine ex_iconst (pc := 82) (k := 0) (v := nI 0) (by decide +kernel) (by decide) ?_
        refine ex_istore (pc := 83) (k := 7) (lo2 := [some (.ref 78), some (.int l1), some (.int l2), some (.int l3), some (.int l4), some (.int l5), some (.int l6), some (.int (nI 0))]) (by decide +kernel) (by decide) rfl ?_
        refine ex_iload (pc := 85) (k := 7) (by decide +kernel) rfl ?_
        refine ex_if_eq (pc := 87) (off := 35) (tgt := 122) (by decide +kernel) (by decide) (fun hc => ?_) (fun hc => ?_)
        · replace h := h.1 hc
          exact h
        · replace h := h.2 hc
          refine ex_aload_n (pc := 90) (k := 0) (by decide +kernel) rfl ?_
          refine ex_getR (pc := 91) (a := 103) (by decide +kernel) lf_MM_89 (hF.s (j := 78) rfl) (hF.r (j := 78) (k := 39) rfl rfl) ?_
          refine ex_bipush (pc := 94) (k := 6) (v := nI 6) (by decide +kernel) (by decide) ?_
          refine ex_iload_n (pc := 96) (k := 1) (by decide +kernel) rfl ?_
          refine ex_imul (pc := 97) (by decide +kernel) ?_
          refine ex_iload (pc := 98) (k := 6) (by decide +kernel) rfl ?_
          refine ex_iadd (pc := 100) (by decide +kernel) ?_
          obtain ⟨g3, h⟩ := h
          refine ey_iald (pc := 101) (v := mi M 103 ((((nI 6) * l1) + l6).toNatClampNeg)) (by decide +kernel) (hF.s (j := 103) rfl) g3 rfl rfl ?_
          refine ex_iload (pc := 102) (k := 4) (by decide +kernel) rfl ?_
          refine ex_icmp_ge (pc := 104) (off := 18) (tgt := 122) (by decide +kernel) (by decide) (fun hc => ?_) (fun hc => ?_)
          · replace h := h.1 hc
            exact h
          · replace h := h.2 hc
            refine ex_aload_n (pc := 107) (k := 0) (by decide +kernel) rfl ?_
            refine ex_getR (pc := 108) (a := 103) (by decide +kernel) lf_MM_89 (hF.s (j := 78) rfl) (hF.r (j := 78) (k := 39) rfl rfl) ?_
            refine ex_bipush (pc := 111) (k := 6) (v := nI 6) (by decide +kernel) (by decide) ?_
            refine ex_iload_n (pc := 113) (k := 1) (by decide +kernel) rfl ?_
            refine ex_imul (pc := 114) (by decide +kernel) ?_
            refine ex_iload (pc := 115) (k := 6) (by decide +kernel) rfl ?_
            refine ex_iadd (pc := 117) (by decide +kernel) ?_
            obtain ⟨g4, h⟩ := h
            refine ey_iald (pc := 118) (v := mi M 103 ((((nI 6) * l1) + l6).toNatClampNeg)) (by decide +kernel) (hF.s (j := 103) rfl) g4 rfl rfl ?_
            refine ex_goto (pc := 119) (off := 5) (tgt := 124) (by decide +kernel) (by decide) ?_
            refine ex_istore (pc := 124) (k := 4) (lo2 := [some (.ref 78), some (.int l1), some (.int l2), some (.int l3), some (.int (mi M 103 ((((nI 6) * l1) + l6).toNatClampNeg))), some (.int l5), some (.int l6), some (.int (nI 0))]) (by decide +kernel) (by decide) rfl ?_
            refine ex_iload (pc := 126) (k := 5) (by decide +kernel) rfl ?_
            refine ex_aload_n (pc := 128) (k := 0) (by decide +kernel) rfl ?_
            refine ex_getR (pc := 129) (a := 109) (by decide +kernel) lf_MM_131 (hF.s (j := 78) rfl) (hF.r (j := 78) (k := 52) rfl rfl) ?_
            refine ex_iload (pc := 132) (k := 6) (by decide +kernel) rfl ?_
            obtain ⟨g5, h⟩ := h
            refine ey_iald (pc := 134) (v := mi M 109 l6.toNatClampNeg) (by decide +kernel) (hF.s (j := 109) rfl) g5 rfl rfl ?_
            refine ex_iload_n (pc := 135) (k := 3) (by decide +kernel) rfl ?_
            refine ex_ishr (pc := 136) (by decide +kernel) ?_
            refine ex_iconst (pc := 137) (k := 1) (v := nI 1) (by decide +kernel) (by decide) ?_
            refine ex_iand (pc := 138) (by decide +kernel) ?_
            refine ex_iadd (pc := 139) (by decide +kernel) ?_
            refine ex_istore (pc := 140) (k := 5) (lo2 := [some (.ref 78), some (.int l1), some (.int l2), some (.int l3), some (.int (mi M 103 ((((nI 6) * l1) + l6).toNatClampNeg))), some (.int (l5 + (((mi M 109 l6.toNatClampNeg) >>> (l3 &&& 31)) &&& (nI 1)))), some (.int l6), some (.int (nI 0))]) (by decide +kernel) (by decide) rfl ?_
            refine ex_iinc (pc := 142) (i := 6) (k := 1) (v := l6 + nI 1) (lo2 := [some (.ref 78), some (.int l1), some (.int l2), some (.int l3), some (.int (mi M 103 ((((nI 6) * l1) + l6).toNatClampNeg))), some (.int (l5 + (((mi M 109 l6.toNatClampNeg) >>> (l3 &&& 31)) &&& (nI 1)))), some (.int (l6 + nI 1)), some (.int (nI 0))]) (by decide +kernel) (by decide) rfl rfl rfl ?_
            refine ex_goto (pc := 145) (off := -109) (tgt := 36) (by decide +kernel) (by decide) ?_
            exact Ex.msk [true, true, true, true, true, true, true, false] h
      · replace h := h.2 hc
        refine ex_iconst (pc := 78) (k := 1) (v := nI 1) (by decide +kernel) (by decide) ?_
        refine ex_goto (pc := 79) (off := 4) (tgt := 83) (by decide +kernel) (by decide) ?_
        refine ex_istore (pc := 83) (k := 7) (lo2 := [some (.ref 78), some (.int l1), some (.int l2), some (.int l3), some (.int l4), some (.int l5), some (.int l6), some (.int (nI 1))]) (by decide +kernel) (by decide) rfl ?_
        refine ex_iload (pc := 85) (k := 7) (by decide +kernel) rfl ?_
        refine ex_if_eq (pc := 87) (off := 35) (tgt := 122) (by decide +kernel) (by decide) (fun hc => ?_) (fun hc => ?_)
        · replace h := h.1 hc
          exact h
        · replace h := h.2 hc
          refine ex_aload_n (pc := 90) (k := 0) (by decide +kernel) rfl ?_
          refine ex_getR (pc := 91) (a := 103) (by decide +kernel) lf_MM_89 (hF.s (j := 78) rfl) (hF.r (j := 78) (k := 39) rfl rfl) ?_
          refine ex_bipush (pc := 94) (k := 6) (v := nI 6) (by decide +kernel) (by decide) ?_
          refine ex_iload_n (pc := 96) (k := 1) (by decide +kernel) rfl ?_
          refine ex_imul (pc := 97) (by decide +kernel) ?_
          refine ex_iload (pc := 98) (k := 6) (by decide +kernel) rfl ?_
          refine ex_iadd (pc := 100) (by decide +kernel) ?_
          obtain ⟨g6, h⟩ := h
          refine ey_iald (pc := 101) (v := mi M 103 ((((nI 6) * l1) + l6).toNatClampNeg)) (by decide +kernel) (hF.s (j := 103) rfl) g6 rfl rfl ?_
          refine ex_iload (pc := 102) (k := 4) (by decide +kernel) rfl ?_
          refine ex_icmp_ge (pc := 104) (off := 18) (tgt := 122) (by decide +kernel) (by decide) (fun hc => ?_) (fun hc => ?_)
          · replace h := h.1 hc
            exact h
          · replace h := h.2 hc
            refine ex_aload_n (pc := 107) (k := 0) (by decide +kernel) rfl ?_
            refine ex_getR (pc := 108) (a := 103) (by decide +kernel) lf_MM_89 (hF.s (j := 78) rfl) (hF.r (j := 78) (k := 39) rfl rfl) ?_
            refine ex_bipush (pc := 111) (k := 6) (v := nI 6) (by decide +kernel) (by decide) ?_
            refine ex_iload_n (pc := 113) (k := 1) (by decide +kernel) rfl ?_
            refine ex_imul (pc := 114) (by decide +kernel) ?_
            refine ex_iload (pc := 115) (k := 6) (by decide +kernel) rfl ?_
            refine ex_iadd (pc := 117) (by decide +kernel) ?_
            obtain ⟨g7, h⟩ := h
            refine ey_iald (pc := 118) (v := mi M 103 ((((nI 6) * l1) + l6).toNatClampNeg)) (by decide +kernel) (hF.s (j := 103) rfl) g7 rfl rfl ?_
            refine ex_goto (pc := 119) (off := 5) (tgt := 124) (by decide +kernel) (by decide) ?_
            refine ex_istore (pc := 124) (k := 4) (lo2 := [some (.ref 78), some (.int l1), some (.int l2), some (.int l3), some (.int (mi M 103 ((((nI 6) * l1) + l6).toNatClampNeg))), some (.int l5), some (.int l6), some (.int (nI 1))]) (by decide +kernel) (by decide) rfl ?_
            refine ex_iload (pc := 126) (k := 5) (by decide +kernel) rfl ?_
            refine ex_aload_n (pc := 128) (k := 0) (by decide +kernel) rfl ?_
            refine ex_getR (pc := 129) (a := 109) (by decide +kernel) lf_MM_131 (hF.s (j := 78) rfl) (hF.r (j := 78) (k := 52) rfl rfl) ?_
            refine ex_iload (pc := 132) (k := 6) (by decide +kernel) rfl ?_
            obtain ⟨g8, h⟩ := h
            refine ey_iald (pc := 134) (v := mi M 109 l6.toNatClampNeg) (by decide +kernel) (hF.s (j := 109) rfl) g8 rfl rfl ?_
            refine ex_iload_n (pc := 135) (k := 3) (by decide +kernel) rfl ?_
            refine ex_ishr (pc := 136) (by decide +kernel) ?_
            refine ex_iconst (pc := 137) (k := 1) (v := nI 1) (by decide +kernel) (by decide) ?_
            refine ex_iand (pc := 138) (by decide +kernel) ?_
            refine ex_iadd (pc := 139) (by decide +kernel) ?_
            refine ex_istore (pc := 140) (k := 5) (lo2 := [some (.ref 78), some (.int l1), some (.int l2), some (.int l3), some (.int (mi M 103 ((((nI 6) * l1) + l6).toNatClampNeg))), some (.int (l5 + (((mi M 109 l6.toNatClampNeg) >>> (l3 &&& 31)) &&& (nI 1)))), some (.int l6), some (.int (nI 1))]) (by decide +kernel) (by decide) rfl ?_
            refine ex_iinc (pc := 142) (i := 6) (k := 1) (v := l6 + nI 1) (lo2 := [some (.ref 78), some (.int l1), some (.int l2), some (.int l3), some (.int (mi M 103 ((((nI 6) * l1) + l6).toNatClampNeg))), some (.int (l5 + (((mi M 109 l6.toNatClampNeg) >>> (l3 &&& 31)) &&& (nI 1)))), some (.int (l6 + nI 1)), some (.int (nI 1))]) (by decide +kernel) (by decide) rfl rfl rfl ?_
            refine ex_goto (pc := 145) (off := -109) (tgt := 36) (by decide +kernel) (by decide) ?_
            exact Ex.msk [true, true, true, true, true, true, true, false] h
theorem k_MM_worthNow_122 {d bc bs : Nat} {l1 : Int32} {l2 : Int32} {l3 : Int32} {l4 : Int32} {l5 : Int32} {l6 : Int32} {l7 : Int32} {M : Mem} {Φ : Option Value → Mem → Prop} (hF : Fm M) (h : vp_in l6 6 ∧ Ex (d + 1) m_MM_worthNow bc bs 36 [some (.ref 78), some (.int l1), some (.int l2), some (.int l3), some (.int l4), some (.int (l5 + (((mi M 109 l6.toNatClampNeg) >>> (l3 &&& 31)) &&& (nI 1)))), some (.int (l6 + nI 1)), none] [] M Φ) : Ex (d + 1) m_MM_worthNow bc bs 122 [some (.ref 78), some (.int l1), some (.int l2), some (.int l3), some (.int l4), some (.int l5), some (.int l6), some (.int l7)] [] M Φ := by
  refine ex_iload (pc := 122) (k := 4) (by decide +kernel) rfl ?_
  refine ex_istore (pc := 124) (k := 4) (lo2 := [some (.ref 78), some (.int l1), some (.int l2), some (.int l3), some (.int l4), some (.int l5), some (.int l6), some (.int l7)]) (by decide +kernel) (by decide) rfl ?_
  refine ex_iload (pc := 126) (k := 5) (by decide +kernel) rfl ?_
  refine ex_aload_n (pc := 128) (k := 0) (by decide +kernel) rfl ?_
  refine ex_getR (pc := 129) (a := 109) (by decide +kernel) lf_MM_131 (hF.s (j := 78) rfl) (hF.r (j := 78) (k := 52) rfl rfl) ?_
  refine ex_iload (pc := 132) (k := 6) (by decide +kernel) rfl ?_
  obtain ⟨g1, h⟩ := h
  refine ey_iald (pc := 134) (v := mi M 109 l6.toNatClampNeg) (by decide +kernel) (hF.s (j := 109) rfl) g1 rfl rfl ?_
  refine ex_iload_n (pc := 135) (k := 3) (by decide +kernel) rfl ?_
  refine ex_ishr (pc := 136) (by decide +kernel) ?_
  refine ex_iconst (pc := 137) (k := 1) (v := nI 1) (by decide +kernel) (by decide) ?_
  refine ex_iand (pc := 138) (by decide +kernel) ?_
  refine ex_iadd (pc := 139) (by decide +kernel) ?_
  refine ex_istore (pc := 140) (k := 5) (lo2 := [some (.ref 78), some (.int l1), some (.int l2), some (.int l3), some (.int l4), some (.int (l5 + (((mi M 109 l6.toNatClampNeg) >>> (l3 &&& 31)) &&& (nI 1)))), some (.int l6), some (.int l7)]) (by decide +kernel) (by decide) rfl ?_
  refine ex_iinc (pc := 142) (i := 6) (k := 1) (v := l6 + nI 1) (lo2 := [some (.ref 78), some (.int l1), some (.int l2), some (.int l3), some (.int l4), some (.int (l5 + (((mi M 109 l6.toNatClampNeg) >>> (l3 &&& 31)) &&& (nI 1)))), some (.int (l6 + nI 1)), some (.int l7)]) (by decide +kernel) (by decide) rfl rfl rfl ?_
  refine ex_goto (pc := 145) (off := -109) (tgt := 36) (by decide +kernel) (by decide) ?_
  exact Ex.msk [true, true, true, true, true, true, true, false] h
theorem k_MM_worthIn_0 {d bc bs : Nat} {l1 : Int32} {l2 : Int32} {M : Mem} {Φ : Option Value → Mem → Prop} (hF : Fm M) (h : vp_in l2 6 ∧ (¬ (mi M 109 l2.toNatClampNeg) = 0 → Ex (d + 1) m_MM_worthIn bc bs 23 [some (.ref 78), some (.int l1), some (.int l2), none] [] M Φ) ∧ ((mi M 109 l2.toNatClampNeg) = 0 → (l1 = (nI 1) → (¬ l1 = (nI 2) → (l1 = (nI 3) → Φ (some (.int ((-1) - (nI 2)))) M) ∧ (¬ l1 = (nI 3) → (¬ l1 = (nI 4) → (¬ l1 = (nI 5) → Φ (some (.int (-1))) M) ∧ (l1 = (nI 5) → Φ (some (.int ((-1) + (nI 1)))) M)) ∧ (l1 = (nI 4) → Φ (some (.int ((-1) - (nI 2)))) M))) ∧ (l1 = (nI 2) → Φ (some (.int ((-1) / (nI 2)))) M)) ∧ (¬ l1 = (nI 1) → (¬ l1 = (nI 5) → Ex (d + 1) m_MM_worthIn bc bs 23 [some (.ref 78), some (.int l1), some (.int l2), none] [] M Φ) ∧ (l1 = (nI 5) → (¬ l1 = (nI 2) → (l1 = (nI 3) → Φ (some (.int ((-1) - (nI 2)))) M) ∧ (¬ l1 = (nI 3) → (¬ l1 = (nI 4) → (¬ l1 = (nI 5) → Φ (some (.int (-1))) M) ∧ (l1 = (nI 5) → Φ (some (.int ((-1) + (nI 1)))) M)) ∧ (l1 = (nI 4) → Φ (some (.int ((-1) - (nI 2)))) M))) ∧ (l1 = (nI 2) → Φ (some (.int ((-1) / (nI 2)))) M))))) : Ex (d + 1) m_MM_worthIn bc bs 0 [some (.ref 78), some (.int l1), some (.int l2), none] [] M Φ := by
  refine ex_aload_n (pc := 0) (k := 0) (by decide +kernel) rfl ?_
  refine ex_getR (pc := 1) (a := 109) (by decide +kernel) lf_MM_131 (hF.s (j := 78) rfl) (hF.r (j := 78) (k := 52) rfl rfl) ?_
  refine ex_iload_n (pc := 4) (k := 2) (by decide +kernel) rfl ?_
  obtain ⟨g1, h⟩ := h
  refine ey_iald (pc := 5) (v := mi M 109 l2.toNatClampNeg) (by decide +kernel) (hF.s (j := 109) rfl) g1 rfl rfl ?_
  refine ex_if_ne (pc := 6) (off := 17) (tgt := 23) (by decide +kernel) (by decide) (fun hc => ?_) (fun hc => ?_)
  · replace h := h.1 hc
    exact h
  · replace h := h.2 hc
    refine ex_iload_n (pc := 9) (k := 1) (by decide +kernel) rfl ?_
    refine ex_iconst (pc := 10) (k := 1) (v := nI 1) (by decide +kernel) (by decide) ?_
    refine ex_icmp_eq (pc := 11) (off := 8) (tgt := 19) (by decide +kernel) (by decide) (fun hc => ?_) (fun hc => ?_)
    · replace h := h.1 hc
      refine ex_iconst (pc := 19) (k := -1) (v := -1) (by decide +kernel) (by decide) ?_
      refine ex_goto (pc := 20) (off := 8) (tgt := 28) (by decide +kernel) (by decide) ?_
      refine ex_istore_n (pc := 28) (k := 3) (lo2 := [some (.ref 78), some (.int l1), some (.int l2), some (.int (-1))]) (by decide +kernel) (by decide) rfl ?_
      refine ex_iload_n (pc := 29) (k := 1) (by decide +kernel) rfl ?_
      refine ex_iconst (pc := 30) (k := 2) (v := nI 2) (by decide +kernel) (by decide) ?_
      refine ex_icmp_ne (pc := 31) (off := 9) (tgt := 40) (by decide +kernel) (by decide) (fun hc => ?_) (fun hc => ?_)
      · replace h := h.1 hc
        refine ex_iload_n (pc := 40) (k := 1) (by decide +kernel) rfl ?_
        refine ex_iconst (pc := 41) (k := 3) (v := nI 3) (by decide +kernel) (by decide) ?_
        refine ex_icmp_eq (pc := 42) (off := 8) (tgt := 50) (by decide +kernel) (by decide) (fun hc => ?_) (fun hc => ?_)
        · replace h := h.1 hc
          refine ex_iload_n (pc := 50) (k := 3) (by decide +kernel) rfl ?_
          refine ex_iconst (pc := 51) (k := 2) (v := nI 2) (by decide +kernel) (by decide) ?_
          refine ex_isub (pc := 52) (by decide +kernel) ?_
          refine ex_goto (pc := 53) (off := 15) (tgt := 68) (by decide +kernel) (by decide) ?_
          exact ex_ireturn (pc := 68) (by decide +kernel) rfl rfl h
        · replace h := h.2 hc
          refine ex_iload_n (pc := 45) (k := 1) (by decide +kernel) rfl ?_
          refine ex_iconst (pc := 46) (k := 4) (v := nI 4) (by decide +kernel) (by decide) ?_
          refine ex_icmp_ne (pc := 47) (off := 9) (tgt := 56) (by decide +kernel) (by decide) (fun hc => ?_) (fun hc => ?_)
          · replace h := h.1 hc
            refine ex_iload_n (pc := 56) (k := 1) (by decide +kernel) rfl ?_
            refine ex_iconst (pc := 57) (k := 5) (v := nI 5) (by decide +kernel) (by decide) ?_
            refine ex_icmp_ne (pc := 58) (off := 9) (tgt := 67) (by decide +kernel) (by decide) (fun hc => ?_) (fun hc => ?_)
            · replace h := h.1 hc
              refine ex_iload_n (pc := 67) (k := 3) (by decide +kernel) rfl ?_
              exact ex_ireturn (pc := 68) (by decide +kernel) rfl rfl h
            · replace h := h.2 hc
              refine ex_iload_n (pc := 61) (k := 3) (by decide +kernel) rfl ?_
              refine ex_iconst (pc := 62) (k := 1) (v := nI 1) (by decide +kernel) (by decide) ?_
              refine ex_iadd (pc := 63) (by decide +kernel) ?_
              refine ex_goto (pc := 64) (off := 4) (tgt := 68) (by decide +kernel) (by decide) ?_
              exact ex_ireturn (pc := 68) (by decide +kernel) rfl rfl h
          · replace h := h.2 hc
            refine ex_iload_n (pc := 50) (k := 3) (by decide +kernel) rfl ?_
            refine ex_iconst (pc := 51) (k := 2) (v := nI 2) (by decide +kernel) (by decide) ?_
            refine ex_isub (pc := 52) (by decide +kernel) ?_
            refine ex_goto (pc := 53) (off := 15) (tgt := 68) (by decide +kernel) (by decide) ?_
            exact ex_ireturn (pc := 68) (by decide +kernel) rfl rfl h
      · replace h := h.2 hc
        refine ex_iload_n (pc := 34) (k := 3) (by decide +kernel) rfl ?_
        refine ex_iconst (pc := 35) (k := 2) (v := nI 2) (by decide +kernel) (by decide) ?_
        refine ex_idiv (pc := 36) (by decide +kernel) (by decide) ?_
        refine ex_goto (pc := 37) (off := 31) (tgt := 68) (by decide +kernel) (by decide) ?_
        exact ex_ireturn (pc := 68) (by decide +kernel) rfl rfl h
    · replace h := h.2 hc
      refine ex_iload_n (pc := 14) (k := 1) (by decide +kernel) rfl ?_
      refine ex_iconst (pc := 15) (k := 5) (v := nI 5) (by decide +kernel) (by decide) ?_
      refine ex_icmp_ne (pc := 16) (off := 7) (tgt := 23) (by decide +kernel) (by decide) (fun hc => ?_) (fun hc => ?_)
      · replace h := h.1 hc
        exact h
      · replace h := h.2 hc
        refine ex_iconst (pc := 19) (k := -1) (v := -1) (by decide +kernel) (by decide) ?_
        refine ex_goto (pc := 20) (off := 8) (tgt := 28) (by decide +kernel) (by decide) ?_
        refine ex_istore_n (pc := 28) (k := 3) (lo2 := [some (.ref 78), some (.int l1), some (.int l2), some (.int (-1))]) (by decide +kernel) (by decide) rfl ?_
        refine ex_iload_n (pc := 29) (k := 1) (by decide +kernel) rfl ?_
        refine ex_iconst (pc := 30) (k := 2) (v := nI 2) (by decide +kernel) (by decide) ?_
        refine ex_icmp_ne (pc := 31) (off := 9) (tgt := 40) (by decide +kernel) (by decide) (fun hc => ?_) (fun hc => ?_)
        · replace h := h.1 hc
          refine ex_iload_n (pc := 40) (k := 1) (by decide +kernel) rfl ?_
          refine ex_iconst (pc := 41) (k := 3) (v := nI 3) (by decide +kernel) (by decide) ?_
          refine ex_icmp_eq (pc := 42) (off := 8) (tgt := 50) (by decide +kernel) (by decide) (fun hc => ?_) (fun hc => ?_)
          · replace h := h.1 hc
            refine ex_iload_n (pc := 50) (k := 3) (by decide +kernel) rfl ?_
            refine ex_iconst (pc := 51) (k := 2) (v := nI 2) (by decide +kernel) (by decide) ?_
            refine ex_isub (pc := 52) (by decide +kernel) ?_
            refine ex_goto (pc := 53) (off := 15) (tgt := 68) (by decide +kernel) (by decide) ?_
            exact ex_ireturn (pc := 68) (by decide +kernel) rfl rfl h
          · replace h := h.2 hc
            refine ex_iload_n (pc := 45) (k := 1) (by decide +kernel) rfl ?_
            refine ex_iconst (pc := 46) (k := 4) (v := nI 4) (by decide +kernel) (by decide) ?_
            refine ex_icmp_ne (pc := 47) (off := 9) (tgt := 56) (by decide +kernel) (by decide) (fun hc => ?_) (fun hc => ?_)
            · replace h := h.1 hc
              refine ex_iload_n (pc := 56) (k := 1) (by decide +kernel) rfl ?_
              refine ex_iconst (pc := 57) (k := 5) (v := nI 5) (by decide +kernel) (by decide) ?_
              refine ex_icmp_ne (pc := 58) (off := 9) (tgt := 67) (by decide +kernel) (by decide) (fun hc => ?_) (fun hc => ?_)
              · replace h := h.1 hc
                refine ex_iload_n (pc := 67) (k := 3) (by decide +kernel) rfl ?_
                exact ex_ireturn (pc := 68) (by decide +kernel) rfl rfl h
              · replace h := h.2 hc
                refine ex_iload_n (pc := 61) (k := 3) (by decide +kernel) rfl ?_
                refine ex_iconst (pc := 62) (k := 1) (v := nI 1) (by decide +kernel) (by decide) ?_
                refine ex_iadd (pc := 63) (by decide +kernel) ?_
                refine ex_goto (pc := 64) (off := 4) (tgt := 68) (by decide +kernel) (by decide) ?_
                exact ex_ireturn (pc := 68) (by decide +kernel) rfl rfl h
            · replace h := h.2 hc
              refine ex_iload_n (pc := 50) (k := 3) (by decide +kernel) rfl ?_
              refine ex_iconst (pc := 51) (k := 2) (v := nI 2) (by decide +kernel) (by decide) ?_
              refine ex_isub (pc := 52) (by decide +kernel) ?_
              refine ex_goto (pc := 53) (off := 15) (tgt := 68) (by decide +kernel) (by decide) ?_
              exact ex_ireturn (pc := 68) (by decide +kernel) rfl rfl h
        · replace h := h.2 hc
          refine ex_iload_n (pc := 34) (k := 3) (by decide +kernel) rfl ?_
          refine ex_iconst (pc := 35) (k := 2) (v := nI 2) (by decide +kernel) (by decide) ?_
          refine ex_idiv (pc := 36) (by decide +kernel) (by decide) ?_
          refine ex_goto (pc := 37) (off := 31) (tgt := 68) (by decide +kernel) (by decide) ?_
          exact ex_ireturn (pc := 68) (by decide +kernel) rfl rfl h
theorem k_MM_worthIn_23 {d bc bs : Nat} {l1 : Int32} {l2 : Int32} {M : Mem} {Φ : Option Value → Mem → Prop} (hF : Fm M) (h : Con d m_MM_worthNow 0 0 [.ref 78, .int l2] M (PI fun r1 M1 => Fm M1 ∧ (¬ l1 = (nI 2) → (l1 = (nI 3) → Φ (some (.int (r1 - (nI 2)))) M1) ∧ (¬ l1 = (nI 3) → (¬ l1 = (nI 4) → (¬ l1 = (nI 5) → Φ (some (.int r1)) M1) ∧ (l1 = (nI 5) → Φ (some (.int (r1 + (nI 1)))) M1)) ∧ (l1 = (nI 4) → Φ (some (.int (r1 - (nI 2)))) M1))) ∧ (l1 = (nI 2) → Φ (some (.int (r1 / (nI 2)))) M1))) : Ex (d + 1) m_MM_worthIn bc bs 23 [some (.ref 78), some (.int l1), some (.int l2), none] [] M Φ := by
  refine ex_aload_n (pc := 23) (k := 0) (by decide +kernel) rfl ?_
  refine ex_iload_n (pc := 24) (k := 2) (by decide +kernel) rfl ?_
  refine ex_callV (pc := 25) (as := [.int l2]) (by decide +kernel) F_MM_worthNow (in_t6 (i := 194) rfl rfl) (hF.s (j := 78) rfl) rfl (by decide) rfl rfl (Nat.le_of_ble_eq_true rfl) (Nat.lt_succ_self _) ⟨Nat.zero_le _, Nat.zero_le _⟩ (KC_I (Con.mono h ?_))
  intro o M1 ⟨r1, e9, hF1, h⟩
  refine ⟨r1, e9, ?_⟩
  refine ex_istore_n (pc := 28) (k := 3) (lo2 := [some (.ref 78), some (.int l1), some (.int l2), some (.int r1)]) (by decide +kernel) (by decide) rfl ?_
  refine ex_iload_n (pc := 29) (k := 1) (by decide +kernel) rfl ?_
  refine ex_iconst (pc := 30) (k := 2) (v := nI 2) (by decide +kernel) (by decide) ?_
  refine ex_icmp_ne (pc := 31) (off := 9) (tgt := 40) (by decide +kernel) (by decide) (fun hc => ?_) (fun hc => ?_)
  · replace h := h.1 hc
    refine ex_iload_n (pc := 40) (k := 1) (by decide +kernel) rfl ?_
    refine ex_iconst (pc := 41) (k := 3) (v := nI 3) (by decide +kernel) (by decide) ?_
    refine ex_icmp_eq (pc := 42) (off := 8) (tgt := 50) (by decide +kernel) (by decide) (fun hc => ?_) (fun hc => ?_)
    · replace h := h.1 hc
      refine ex_iload_n (pc := 50) (k := 3) (by decide +kernel) rfl ?_
      refine ex_iconst (pc := 51) (k := 2) (v := nI 2) (by decide +kernel) (by decide) ?_
      refine ex_isub (pc := 52) (by decide +kernel) ?_
      refine ex_goto (pc := 53) (off := 15) (tgt := 68) (by decide +kernel) (by decide) ?_
      exact ex_ireturn (pc := 68) (by decide +kernel) rfl rfl h
    · replace h := h.2 hc
      refine ex_iload_n (pc := 45) (k := 1) (by decide +kernel) rfl ?_
      refine ex_iconst (pc := 46) (k := 4) (v := nI 4) (by decide +kernel) (by decide) ?_
      refine ex_icmp_ne (pc := 47) (off := 9) (tgt := 56) (by decide +kernel) (by decide) (fun hc => ?_) (fun hc => ?_)
      · replace h := h.1 hc
        refine ex_iload_n (pc := 56) (k := 1) (by decide +kernel) rfl ?_
        refine ex_iconst (pc := 57) (k := 5) (v := nI 5) (by decide +kernel) (by decide) ?_
        refine ex_icmp_ne (pc := 58) (off := 9) (tgt := 67) (by decide +kernel) (by decide) (fun hc => ?_) (fun hc => ?_)
        · replace h := h.1 hc
          refine ex_iload_n (pc := 67) (k := 3) (by decide +kernel) rfl ?_
          exact ex_ireturn (pc := 68) (by decide +kernel) rfl rfl h
        · replace h := h.2 hc
          refine ex_iload_n (pc := 61) (k := 3) (by decide +kernel) rfl ?_
          refine ex_iconst (pc := 62) (k := 1) (v := nI 1) (by decide +kernel) (by decide) ?_
          refine ex_iadd (pc := 63) (by decide +kernel) ?_
          refine ex_goto (pc := 64) (off := 4) (tgt := 68) (by decide +kernel) (by decide) ?_
          exact ex_ireturn (pc := 68) (by decide +kernel) rfl rfl h
      · replace h := h.2 hc
        refine ex_iload_n (pc := 50) (k := 3) (by decide +kernel) rfl ?_
        refine ex_iconst (pc := 51) (k := 2) (v := nI 2) (by decide +kernel) (by decide) ?_
        refine ex_isub (pc := 52) (by decide +kernel) ?_
        refine ex_goto (pc := 53) (off := 15) (tgt := 68) (by decide +kernel) (by decide) ?_
        exact ex_ireturn (pc := 68) (by decide +kernel) rfl rfl h
  · replace h := h.2 hc
    refine ex_iload_n (pc := 34) (k := 3) (by decide +kernel) rfl ?_
    refine ex_iconst (pc := 35) (k := 2) (v := nI 2) (by decide +kernel) (by decide) ?_
    refine ex_idiv (pc := 36) (by decide +kernel) (by decide) ?_
    refine ex_goto (pc := 37) (off := 31) (tgt := 68) (by decide +kernel) (by decide) ?_
    exact ex_ireturn (pc := 68) (by decide +kernel) rfl rfl h
theorem k_MM_worthAll_0 {d bc bs : Nat} {l1 : Int32} {l2 : Int32} {M : Mem} {Φ : Option Value → Mem → Prop} (hF : Fm M) (h : Ex (d + 1) m_MM_worthAll bc bs 5 [some (.ref 78), some (.int l1), some (.int l2), some (.int (nI 0)), some (.int (nI 0))] [] M Φ) : Ex (d + 1) m_MM_worthAll bc bs 0 [some (.ref 78), some (.int l1), some (.int l2), none, none] [] M Φ := by
  refine ex_iconst (pc := 0) (k := 0) (v := nI 0) (by decide +kernel) (by decide) ?_
  refine ex_istore_n (pc := 1) (k := 3) (lo2 := [some (.ref 78), some (.int l1), some (.int l2), some (.int (nI 0)), none]) (by decide +kernel) (by decide) rfl ?_
  refine ex_iconst (pc := 2) (k := 0) (v := nI 0) (by decide +kernel) (by decide) ?_
  refine ex_istore (pc := 3) (k := 4) (lo2 := [some (.ref 78), some (.int l1), some (.int l2), some (.int (nI 0)), some (.int (nI 0))]) (by decide +kernel) (by decide) rfl ?_
  exact h
theorem k_MM_worthAll_5 {d bc bs : Nat} {l1 : Int32} {l2 : Int32} {l3 : Int32} {l4 : Int32} {M : Mem} {Φ : Option Value → Mem → Prop} (hF : Fm M) (h : ((mi M 78 0) ≤ l4 → Φ (some (.int l3)) M) ∧ (¬ (mi M 78 0) ≤ l4 → (¬ l4 = l2 → Con d m_MM_worthIn 0 0 [.ref 78, .int l1, .int l4] M (PI fun r1 M1 => Fm M1 ∧ Ex (d + 1) m_MM_worthAll bc bs 5 [some (.ref 78), some (.int l1), some (.int l2), some (.int (l3 + r1)), some (.int (l4 + nI 1))] [] M1 Φ)) ∧ (l4 = l2 → Ex (d + 1) m_MM_worthAll bc bs 5 [some (.ref 78), some (.int l1), some (.int l2), some (.int (l3 + (nI 0))), some (.int (l4 + nI 1))] [] M Φ))) : Ex (d + 1) m_MM_worthAll bc bs 5 [some (.ref 78), some (.int l1), some (.int l2), some (.int l3), some (.int l4)] [] M Φ := by
  refine ex_iload (pc := 5) (k := 4) (by decide +kernel) rfl ?_
  refine ex_aload_n (pc := 7) (k := 0) (by decide +kernel) rfl ?_
  refine ey_getI (pc := 8) (v := mi M 78 0) (by decide +kernel) lf_MM_151 (hF.s (j := 78) rfl) rfl ?_
  refine ex_icmp_ge (pc := 11) (off := 29) (tgt := 40) (by decide +kernel) (by decide) (fun hc => ?_) (fun hc => ?_)
  · replace h := h.1 hc
    refine ex_iload_n (pc := 40) (k := 3) (by decide +kernel) rfl ?_
    exact ex_ireturn (pc := 41) (by decide +kernel) rfl rfl h
  · replace h := h.2 hc
    refine ex_iload_n (pc := 14) (k := 3) (by decide +kernel) rfl ?_
    refine ex_iload (pc := 15) (k := 4) (by decide +kernel) rfl ?_
    refine ex_iload_n (pc := 17) (k := 2) (by decide +kernel) rfl ?_
    refine ex_icmp_ne (pc := 18) (off := 7) (tgt := 25) (by decide +kernel) (by decide) (fun hc => ?_) (fun hc => ?_)
    · replace h := h.1 hc
      refine ex_aload_n (pc := 25) (k := 0) (by decide +kernel) rfl ?_
      refine ex_iload_n (pc := 26) (k := 1) (by decide +kernel) rfl ?_
      refine ex_iload (pc := 27) (k := 4) (by decide +kernel) rfl ?_
      refine ex_callV (pc := 29) (as := [.int l1, .int l4]) (by decide +kernel) F_MM_worthIn (in_t6 (i := 190) rfl rfl) (hF.s (j := 78) rfl) rfl (by decide) rfl rfl (Nat.le_of_ble_eq_true rfl) (Nat.lt_succ_self _) ⟨Nat.zero_le _, Nat.zero_le _⟩ (KC_I (Con.mono h ?_))
      intro o M1 ⟨r1, e9, hF1, h⟩
      refine ⟨r1, e9, ?_⟩
      refine ex_iadd (pc := 32) (by decide +kernel) ?_
      refine ex_istore_n (pc := 33) (k := 3) (lo2 := [some (.ref 78), some (.int l1), some (.int l2), some (.int (l3 + r1)), some (.int l4)]) (by decide +kernel) (by decide) rfl ?_
      refine ex_iinc (pc := 34) (i := 4) (k := 1) (v := l4 + nI 1) (lo2 := [some (.ref 78), some (.int l1), some (.int l2), some (.int (l3 + r1)), some (.int (l4 + nI 1))]) (by decide +kernel) (by decide) rfl rfl rfl ?_
      refine ex_goto (pc := 37) (off := -32) (tgt := 5) (by decide +kernel) (by decide) ?_
      exact h
    · replace h := h.2 hc
      refine ex_iconst (pc := 21) (k := 0) (v := nI 0) (by decide +kernel) (by decide) ?_
      refine ex_goto (pc := 22) (off := 10) (tgt := 32) (by decide +kernel) (by decide) ?_
      refine ex_iadd (pc := 32) (by decide +kernel) ?_
      refine ex_istore_n (pc := 33) (k := 3) (lo2 := [some (.ref 78), some (.int l1), some (.int l2), some (.int (l3 + (nI 0))), some (.int l4)]) (by decide +kernel) (by decide) rfl ?_
      refine ex_iinc (pc := 34) (i := 4) (k := 1) (v := l4 + nI 1) (lo2 := [some (.ref 78), some (.int l1), some (.int l2), some (.int (l3 + (nI 0))), some (.int (l4 + nI 1))]) (by decide +kernel) (by decide) rfl rfl rfl ?_
      refine ex_goto (pc := 37) (off := -32) (tgt := 5) (by decide +kernel) (by decide) ?_
      exact h
theorem k_MM_judge_0 {d bc bs : Nat} {l1 : Int32} {l2 : Int32} {l3 : Int32} {M : Mem} {Φ : Option Value → Mem → Prop} (hF : Fm M) (h : Con d m_MM_isGiving 0 0 [.ref 78, .int l1] M (PB fun r1 M1 => Fm M1 ∧ (r1 = false → Φ (some (.long (-4611686018427387904))) M1) ∧ (r1 = true → Con d m_MM_isWeek 0 0 [.int l2] M1 (PB fun r2 M2 => Fm M2 ∧ (r2 = false → Φ (some (.long (-4611686018427387904))) M2) ∧ (r2 = true → (l3 = (-1) → Ex (d + 1) m_MM_judge bc bs 32 [some (.ref 78), some (.int l1), some (.int l2), some (.int l3)] [] M2 Φ) ∧ (¬ l3 = (-1) → Con d m_MM_isTown 0 0 [.ref 78, .int l3] M2 (PB fun r3 M3 => Fm M3 ∧ (r3 = true → Ex (d + 1) m_MM_judge bc bs 32 [some (.ref 78), some (.int l1), some (.int l2), some (.int l3)] [] M3 Φ) ∧ (r3 = false → Φ (some (.long (-4611686018427387904))) M3)))))))) : Ex (d + 1) m_MM_judge bc bs 0 [some (.ref 78), some (.int l1), some (.int l2), some (.int l3)] [] M Φ := by
  refine ex_aload_n (pc := 0) (k := 0) (by decide +kernel) rfl ?_
  refine ex_iload_n (pc := 1) (k := 1) (by decide +kernel) rfl ?_
  refine ex_callV (pc := 2) (as := [.int l1]) (by decide +kernel) F_MM_isGiving (in_t6 (i := 142) rfl rfl) (hF.s (j := 78) rfl) rfl (by decide) rfl rfl (Nat.le_of_ble_eq_true rfl) (Nat.lt_succ_self _) ⟨Nat.zero_le _, Nat.zero_le _⟩ (KC_B (Con.mono h ?_))
  intro o M1 ⟨r1, e9, hF1, h⟩
  refine ⟨r1, e9, ?_⟩
  refine ey_ifeqB (pc := 5) (off := 23) (tgt := 28) (by decide +kernel) (by decide) (fun hc => ?_) (fun hc => ?_)
  · replace h := h.1 hc
    refine ex_ldc2 (pc := 28) (v := -4611686018427387904) (by decide +kernel) (in_t6 (i := 106) rfl rfl) ?_
    exact ex_lreturn (pc := 31) (by decide +kernel) rfl h
  · replace h := h.2 hc
    refine ex_iload_n (pc := 8) (k := 2) (by decide +kernel) rfl ?_
    refine ex_callS (pc := 9) (as := [.int l2]) (by decide +kernel) F_MM_isWeek (in_t6 (i := 46) rfl rfl) rfl rfl (Nat.le_of_ble_eq_true rfl) (Nat.lt_succ_self _) ⟨Nat.zero_le _, Nat.zero_le _⟩ (KC_B (Con.mono h ?_))
    intro o M2 ⟨r2, e9, hF2, h⟩
    refine ⟨r2, e9, ?_⟩
    refine ey_ifeqB (pc := 12) (off := 16) (tgt := 28) (by decide +kernel) (by decide) (fun hc => ?_) (fun hc => ?_)
    · replace h := h.1 hc
      refine ex_ldc2 (pc := 28) (v := -4611686018427387904) (by decide +kernel) (in_t6 (i := 106) rfl rfl) ?_
      exact ex_lreturn (pc := 31) (by decide +kernel) rfl h
    · replace h := h.2 hc
      refine ex_iload_n (pc := 15) (k := 3) (by decide +kernel) rfl ?_
      refine ex_iconst (pc := 16) (k := -1) (v := -1) (by decide +kernel) (by decide) ?_
      refine ex_icmp_eq (pc := 17) (off := 15) (tgt := 32) (by decide +kernel) (by decide) (fun hc => ?_) (fun hc => ?_)
      · replace h := h.1 hc
        exact h
      · replace h := h.2 hc
        refine ex_aload_n (pc := 20) (k := 0) (by decide +kernel) rfl ?_
        refine ex_iload_n (pc := 21) (k := 3) (by decide +kernel) rfl ?_
        refine ex_callV (pc := 22) (as := [.int l3]) (by decide +kernel) F_MM_isTown (in_t6 (i := 18) rfl rfl) (hF2.s (j := 78) rfl) rfl (by decide) rfl rfl (Nat.le_of_ble_eq_true rfl) (Nat.lt_succ_self _) ⟨Nat.zero_le _, Nat.zero_le _⟩ (KC_B (Con.mono h ?_))
        intro o M3 ⟨r3, e9, hF3, h⟩
        refine ⟨r3, e9, ?_⟩
        refine ey_ifneB (pc := 25) (off := 7) (tgt := 32) (by decide +kernel) (by decide) (fun hc => ?_) (fun hc => ?_)
        · replace h := h.1 hc
          exact h
        · replace h := h.2 hc
          refine ex_ldc2 (pc := 28) (v := -4611686018427387904) (by decide +kernel) (in_t6 (i := 106) rfl rfl) ?_
          exact ex_lreturn (pc := 31) (by decide +kernel) rfl h
theorem k_MM_judge_32 {d bc bs : Nat} {l1 : Int32} {l2 : Int32} {l3 : Int32} {M : Mem} {Φ : Option Value → Mem → Prop} (hF : Fm M) (h : Con d m_MM_spreads 0 0 [.ref 78] M (PV fun M1 => Fm M1 ∧ Con d m_MM_laysNow 0 0 [.ref 78, .int l1, .int l2] M1 (PV fun M2 => Fm M2 ∧ (¬ l3 = (-1) → vp_in l1 12 ∧ Con d m_MM_worthIn 0 0 [.ref 78, .int (mi M2 89 l1.toNatClampNeg), .int l3] M2 (PI fun r1 M3 => Fm M3 ∧ Φ (some (.long (Int32.toInt64 r1))) M3)) ∧ (l3 = (-1) → vp_in l1 12 ∧ Con d m_MM_worthAll 0 0 [.ref 78, .int (mi M2 89 l1.toNatClampNeg), .int (-1)] M2 (PI fun r2 M4 => Fm M4 ∧ Φ (some (.long (Int32.toInt64 r2))) M4))))) : Ex (d + 1) m_MM_judge bc bs 32 [some (.ref 78), some (.int l1), some (.int l2), some (.int l3)] [] M Φ := by
  refine ex_aload_n (pc := 32) (k := 0) (by decide +kernel) rfl ?_
  refine ex_callV (pc := 33) (as := []) (by decide +kernel) F_MM_spreads (in_t6 (i := 26) rfl rfl) (hF.s (j := 78) rfl) rfl (by decide) rfl rfl (Nat.le_of_ble_eq_true rfl) (Nat.lt_succ_self _) ⟨Nat.zero_le _, Nat.zero_le _⟩ (KC_V (Con.mono h ?_))
  intro o M1 ⟨e9, hF1, h⟩
  refine ⟨e9, ?_⟩
  refine ex_aload_n (pc := 36) (k := 0) (by decide +kernel) rfl ?_
  refine ex_iload_n (pc := 37) (k := 1) (by decide +kernel) rfl ?_
  refine ex_iload_n (pc := 38) (k := 2) (by decide +kernel) rfl ?_
  refine ex_callV (pc := 39) (as := [.int l1, .int l2]) (by decide +kernel) F_MM_laysNow (in_t6 (i := 162) rfl rfl) (hF1.s (j := 78) rfl) rfl (by decide) rfl rfl (Nat.le_of_ble_eq_true rfl) (Nat.lt_succ_self _) ⟨Nat.zero_le _, Nat.zero_le _⟩ (KC_V (Con.mono h ?_))
  intro o M2 ⟨e9, hF2, h⟩
  refine ⟨e9, ?_⟩
  refine ex_iload_n (pc := 42) (k := 3) (by decide +kernel) rfl ?_
  refine ex_iconst (pc := 43) (k := -1) (v := -1) (by decide +kernel) (by decide) ?_
  refine ex_icmp_ne (pc := 44) (off := 18) (tgt := 62) (by decide +kernel) (by decide) (fun hc => ?_) (fun hc => ?_)
  · replace h := h.1 hc
    refine ex_aload_n (pc := 62) (k := 0) (by decide +kernel) rfl ?_
    refine ex_aload_n (pc := 63) (k := 0) (by decide +kernel) rfl ?_
    refine ex_getR (pc := 64) (a := 89) (by decide +kernel) lf_MM_47 (hF2.s (j := 78) rfl) (hF2.r (j := 78) (k := 17) rfl rfl) ?_
    refine ex_iload_n (pc := 67) (k := 1) (by decide +kernel) rfl ?_
    obtain ⟨g1, h⟩ := h
    refine ey_iald (pc := 68) (v := mi M2 89 l1.toNatClampNeg) (by decide +kernel) (hF2.s (j := 89) rfl) g1 rfl rfl ?_
    refine ex_iload_n (pc := 69) (k := 3) (by decide +kernel) rfl ?_
    refine ex_callV (pc := 70) (as := [.int (mi M2 89 l1.toNatClampNeg), .int l3]) (by decide +kernel) F_MM_worthIn (in_t6 (i := 190) rfl rfl) (hF2.s (j := 78) rfl) rfl (by decide) rfl rfl (Nat.le_of_ble_eq_true rfl) (Nat.lt_succ_self _) ⟨Nat.zero_le _, Nat.zero_le _⟩ (KC_I (Con.mono h ?_))
    intro o M3 ⟨r1, e9, hF3, h⟩
    refine ⟨r1, e9, ?_⟩
    refine ex_i2l (pc := 73) (by decide +kernel) ?_
    exact ex_lreturn (pc := 74) (by decide +kernel) rfl h
  · replace h := h.2 hc
    refine ex_aload_n (pc := 47) (k := 0) (by decide +kernel) rfl ?_
    refine ex_aload_n (pc := 48) (k := 0) (by decide +kernel) rfl ?_
    refine ex_getR (pc := 49) (a := 89) (by decide +kernel) lf_MM_47 (hF2.s (j := 78) rfl) (hF2.r (j := 78) (k := 17) rfl rfl) ?_
    refine ex_iload_n (pc := 52) (k := 1) (by decide +kernel) rfl ?_
    obtain ⟨g2, h⟩ := h
    refine ey_iald (pc := 53) (v := mi M2 89 l1.toNatClampNeg) (by decide +kernel) (hF2.s (j := 89) rfl) g2 rfl rfl ?_
    refine ex_iconst (pc := 54) (k := -1) (v := -1) (by decide +kernel) (by decide) ?_
    refine ex_callV (pc := 55) (as := [.int (mi M2 89 l1.toNatClampNeg), .int (-1)]) (by decide +kernel) F_MM_worthAll (in_t6 (i := 186) rfl rfl) (hF2.s (j := 78) rfl) rfl (by decide) rfl rfl (Nat.le_of_ble_eq_true rfl) (Nat.lt_succ_self _) ⟨Nat.zero_le _, Nat.zero_le _⟩ (KC_I (Con.mono h ?_))
    intro o M4 ⟨r2, e9, hF4, h⟩
    refine ⟨r2, e9, ?_⟩
    refine ex_i2l (pc := 58) (by decide +kernel) ?_
    refine ex_goto (pc := 59) (off := 15) (tgt := 74) (by decide +kernel) (by decide) ?_
    exact ex_lreturn (pc := 74) (by decide +kernel) rfl h
theorem k_MM_givingTold_0 {d bc bs : Nat} {l1 : Int32} {l2 : Int32} {M : Mem} {Φ : Option Value → Mem → Prop} (hF : Fm M) (h : Con d m_MM_isGiving 0 0 [.ref 78, .int l1] M (PB fun r1 M1 => Fm M1 ∧ (r1 = true → (¬ l2 = 0 → (¬ l2 = (nI 1) → (¬ l2 = (nI 2) → Φ (some (.int (-7))) M1) ∧ (l2 = (nI 2) → vp_in l1 12 ∧ (¬ (mi M1 89 l1.toNatClampNeg) = (nI 5) → Φ (some (.int (nI 1))) M1) ∧ ((mi M1 89 l1.toNatClampNeg) = (nI 5) → Φ (some (.int (nI 0))) M1))) ∧ (l2 = (nI 1) → vp_in l1 12 ∧ Φ (some (.int (mi M1 90 l1.toNatClampNeg))) M1)) ∧ (l2 = 0 → vp_in l1 12 ∧ Φ (some (.int (mi M1 89 l1.toNatClampNeg))) M1)) ∧ (r1 = false → Φ (some (.int (-5))) M1))) : Ex (d + 1) m_MM_givingTold bc bs 0 [some (.ref 78), some (.int l1), some (.int l2)] [] M Φ := by
  refine ex_aload_n (pc := 0) (k := 0) (by decide +kernel) rfl ?_
  refine ex_iload_n (pc := 1) (k := 1) (by decide +kernel) rfl ?_
  refine ex_callV (pc := 2) (as := [.int l1]) (by decide +kernel) F_MM_isGiving (in_t6 (i := 142) rfl rfl) (hF.s (j := 78) rfl) rfl (by decide) rfl rfl (Nat.le_of_ble_eq_true rfl) (Nat.lt_succ_self _) ⟨Nat.zero_le _, Nat.zero_le _⟩ (KC_B (Con.mono h ?_))
  intro o M1 ⟨r1, e9, hF1, h⟩
  refine ⟨r1, e9, ?_⟩
  refine ey_ifneB (pc := 5) (off := 6) (tgt := 11) (by decide +kernel) (by decide) (fun hc => ?_) (fun hc => ?_)
  · replace h := h.1 hc
    refine ex_iload_n (pc := 11) (k := 2) (by decide +kernel) rfl ?_
    refine ex_if_ne (pc := 12) (off := 12) (tgt := 24) (by decide +kernel) (by decide) (fun hc => ?_) (fun hc => ?_)
    · replace h := h.1 hc
      refine ex_iload_n (pc := 24) (k := 2) (by decide +kernel) rfl ?_
      refine ex_iconst (pc := 25) (k := 1) (v := nI 1) (by decide +kernel) (by decide) ?_
      refine ex_icmp_ne (pc := 26) (off := 12) (tgt := 38) (by decide +kernel) (by decide) (fun hc => ?_) (fun hc => ?_)
      · replace h := h.1 hc
        refine ex_iload_n (pc := 38) (k := 2) (by decide +kernel) rfl ?_
        refine ex_iconst (pc := 39) (k := 2) (v := nI 2) (by decide +kernel) (by decide) ?_
        refine ex_icmp_ne (pc := 40) (off := 21) (tgt := 61) (by decide +kernel) (by decide) (fun hc => ?_) (fun hc => ?_)
        · replace h := h.1 hc
          refine ex_bipush (pc := 61) (k := -7) (v := -7) (by decide +kernel) (by decide) ?_
          exact ex_ireturn (pc := 63) (by decide +kernel) rfl rfl h
        · replace h := h.2 hc
          refine ex_aload_n (pc := 43) (k := 0) (by decide +kernel) rfl ?_
          refine ex_getR (pc := 44) (a := 89) (by decide +kernel) lf_MM_47 (hF1.s (j := 78) rfl) (hF1.r (j := 78) (k := 17) rfl rfl) ?_
          refine ex_iload_n (pc := 47) (k := 1) (by decide +kernel) rfl ?_
          obtain ⟨g1, h⟩ := h
          refine ey_iald (pc := 48) (v := mi M1 89 l1.toNatClampNeg) (by decide +kernel) (hF1.s (j := 89) rfl) g1 rfl rfl ?_
          refine ex_iconst (pc := 49) (k := 5) (v := nI 5) (by decide +kernel) (by decide) ?_
          refine ex_icmp_ne (pc := 50) (off := 7) (tgt := 57) (by decide +kernel) (by decide) (fun hc => ?_) (fun hc => ?_)
          · replace h := h.1 hc
            refine ex_iconst (pc := 57) (k := 1) (v := nI 1) (by decide +kernel) (by decide) ?_
            refine ex_goto (pc := 58) (off := 5) (tgt := 63) (by decide +kernel) (by decide) ?_
            exact ex_ireturn (pc := 63) (by decide +kernel) rfl rfl h
          · replace h := h.2 hc
            refine ex_iconst (pc := 53) (k := 0) (v := nI 0) (by decide +kernel) (by decide) ?_
            refine ex_goto (pc := 54) (off := 9) (tgt := 63) (by decide +kernel) (by decide) ?_
            exact ex_ireturn (pc := 63) (by decide +kernel) rfl rfl h
      · replace h := h.2 hc
        refine ex_aload_n (pc := 29) (k := 0) (by decide +kernel) rfl ?_
        refine ex_getR (pc := 30) (a := 90) (by decide +kernel) lf_MM_50 (hF1.s (j := 78) rfl) (hF1.r (j := 78) (k := 18) rfl rfl) ?_
        refine ex_iload_n (pc := 33) (k := 1) (by decide +kernel) rfl ?_
        obtain ⟨g2, h⟩ := h
        refine ey_iald (pc := 34) (v := mi M1 90 l1.toNatClampNeg) (by decide +kernel) (hF1.s (j := 90) rfl) g2 rfl rfl ?_
        refine ex_goto (pc := 35) (off := 28) (tgt := 63) (by decide +kernel) (by decide) ?_
        exact ex_ireturn (pc := 63) (by decide +kernel) rfl rfl h
    · replace h := h.2 hc
      refine ex_aload_n (pc := 15) (k := 0) (by decide +kernel) rfl ?_
      refine ex_getR (pc := 16) (a := 89) (by decide +kernel) lf_MM_47 (hF1.s (j := 78) rfl) (hF1.r (j := 78) (k := 17) rfl rfl) ?_
      refine ex_iload_n (pc := 19) (k := 1) (by decide +kernel) rfl ?_
      obtain ⟨g3, h⟩ := h
      refine ey_iald (pc := 20) (v := mi M1 89 l1.toNatClampNeg) (by decide +kernel) (hF1.s (j := 89) rfl) g3 rfl rfl ?_
      refine ex_goto (pc := 21) (off := 42) (tgt := 63) (by decide +kernel) (by decide) ?_
      exact ex_ireturn (pc := 63) (by decide +kernel) rfl rfl h
  · replace h := h.2 hc
    refine ex_bipush (pc := 8) (k := -5) (v := -5) (by decide +kernel) (by decide) ?_
    exact ex_ireturn (pc := 10) (by decide +kernel) rfl rfl h
theorem k_MM_isFree_0 {d bc bs : Nat} {l1 : Int32} {M : Mem} {Φ : Option Value → Mem → Prop} (hF : Fm M) (h : Ex (d + 1) m_MM_isFree bc bs 2 [some (.ref 78), some (.int l1), some (.int (nI 0))] [] M Φ) : Ex (d + 1) m_MM_isFree bc bs 0 [some (.ref 78), some (.int l1), none] [] M Φ := by
  refine ex_iconst (pc := 0) (k := 0) (v := nI 0) (by decide +kernel) (by decide) ?_
  refine ex_istore_n (pc := 1) (k := 2) (lo2 := [some (.ref 78), some (.int l1), some (.int (nI 0))]) (by decide +kernel) (by decide) rfl ?_
  exact h
theorem k_MM_isFree_2 {d bc bs : Nat} {l1 : Int32} {l2 : Int32} {M : Mem} {Φ : Option Value → Mem → Prop} (hF : Fm M) (h : (l1 < l2 → Φ (some (.int (b2i true))) M) ∧ (¬ l1 < l2 → Con d m_MM_doBar 0 0 [.ref 78, .int l2, .int l1] M (PB fun r1 M1 => Fm M1 ∧ (r1 = false → Ex (d + 1) m_MM_isFree bc bs 2 [some (.ref 78), some (.int l1), some (.int (l2 + nI 1))] [] M1 Φ) ∧ (r1 = true → Φ (some (.int (b2i false))) M1)))) : Ex (d + 1) m_MM_isFree bc bs 2 [some (.ref 78), some (.int l1), some (.int l2)] [] M Φ := by
  refine ex_iload_n (pc := 2) (k := 2) (by decide +kernel) rfl ?_
  refine ex_iload_n (pc := 3) (k := 1) (by decide +kernel) rfl ?_
  refine ex_icmp_gt (pc := 4) (off := 20) (tgt := 24) (by decide +kernel) (by decide) (fun hc => ?_) (fun hc => ?_)
  · replace h := h.1 hc
    refine ex_iconst (pc := 24) (k := 1) (v := nI 1) (by decide +kernel) (by decide) ?_
    exact ex_ireturn (pc := 25) (v := b2i true) (by decide +kernel) rfl (b2i_n _) h
  · replace h := h.2 hc
    refine ex_aload_n (pc := 7) (k := 0) (by decide +kernel) rfl ?_
    refine ex_iload_n (pc := 8) (k := 2) (by decide +kernel) rfl ?_
    refine ex_iload_n (pc := 9) (k := 1) (by decide +kernel) rfl ?_
    refine ex_callV (pc := 10) (as := [.int l2, .int l1]) (by decide +kernel) F_MM_doBar (in_t6 (i := 170) rfl rfl) (hF.s (j := 78) rfl) rfl (by decide) rfl rfl (Nat.le_of_ble_eq_true rfl) (Nat.lt_succ_self _) ⟨Nat.zero_le _, Nat.zero_le _⟩ (KC_B (Con.mono h ?_))
    intro o M1 ⟨r1, e9, hF1, h⟩
    refine ⟨r1, e9, ?_⟩
    refine ey_ifeqB (pc := 13) (off := 5) (tgt := 18) (by decide +kernel) (by decide) (fun hc => ?_) (fun hc => ?_)
    · replace h := h.1 hc
      refine ex_iinc (pc := 18) (i := 2) (k := 1) (v := l2 + nI 1) (lo2 := [some (.ref 78), some (.int l1), some (.int (l2 + nI 1))]) (by decide +kernel) (by decide) rfl rfl rfl ?_
      refine ex_goto (pc := 21) (off := -19) (tgt := 2) (by decide +kernel) (by decide) ?_
      exact h
    · replace h := h.2 hc
      refine ex_iconst (pc := 16) (k := 0) (v := nI 0) (by decide +kernel) (by decide) ?_
      exact ex_ireturn (pc := 17) (v := b2i false) (by decide +kernel) rfl (b2i_n _) h
theorem k_MM_nextWay_0 {d bc bs : Nat} {l1 : Int32} {l2 : Int32} {M : Mem} {Φ : Option Value → Mem → Prop} (hF : Fm M) (h : (l2 = 0 → (l2 = 0 → Ex (d + 1) m_MM_nextWay bc bs 48 [some (.ref 78), some (.int l1), some (.int l2), some (.int ((mi M 78 0) - (nI 1))), some (.int l2), none] [] M Φ) ∧ (¬ l2 = 0 → Ex (d + 1) m_MM_nextWay bc bs 25 [some (.ref 78), some (.int l1), some (.int l2), some (.int ((mi M 78 0) - (nI 1))), some (.int l2), some (.int (nI 0))] [] M Φ)) ∧ (¬ l2 = 0 → (l2 = 0 → Ex (d + 1) m_MM_nextWay bc bs 48 [some (.ref 78), some (.int l1), some (.int l2), some (.int (nI 0)), some (.int l2), none] [] M Φ) ∧ (¬ l2 = 0 → Ex (d + 1) m_MM_nextWay bc bs 25 [some (.ref 78), some (.int l1), some (.int l2), some (.int (nI 0)), some (.int l2), some (.int (nI 0))] [] M Φ))) : Ex (d + 1) m_MM_nextWay bc bs 0 [some (.ref 78), some (.int l1), some (.int l2), none, none, none] [] M Φ := by
  refine ex_iload_n (pc := 0) (k := 2) (by decide +kernel) rfl ?_
  refine ex_if_eq (pc := 1) (off := 7) (tgt := 8) (by decide +kernel) (by decide) (fun hc => ?_) (fun hc => ?_)
  · replace h := h.1 hc
    refine ex_aload_n (pc := 8) (k := 0) (by decide +kernel) rfl ?_
    refine ey_getI (pc := 9) (v := mi M 78 0) (by decide +kernel) lf_MM_151 (hF.s (j := 78) rfl) rfl ?_
    refine ex_iconst (pc := 12) (k := 1) (v := nI 1) (by decide +kernel) (by decide) ?_
    refine ex_isub (pc := 13) (by decide +kernel) ?_
    refine ex_istore_n (pc := 14) (k := 3) (lo2 := [some (.ref 78), some (.int l1), some (.int l2), some (.int ((mi M 78 0) - (nI 1))), none, none]) (by decide +kernel) (by decide) rfl ?_
    refine ex_iload_n (pc := 15) (k := 2) (by decide +kernel) rfl ?_
    refine ex_istore (pc := 16) (k := 4) (lo2 := [some (.ref 78), some (.int l1), some (.int l2), some (.int ((mi M 78 0) - (nI 1))), some (.int l2), none]) (by decide +kernel) (by decide) rfl ?_
    refine ex_iload_n (pc := 18) (k := 2) (by decide +kernel) rfl ?_
    refine ex_if_eq (pc := 19) (off := 29) (tgt := 48) (by decide +kernel) (by decide) (fun hc => ?_) (fun hc => ?_)
    · replace h := h.1 hc
      exact h
    · replace h := h.2 hc
      refine ex_iconst (pc := 22) (k := 0) (v := nI 0) (by decide +kernel) (by decide) ?_
      refine ex_istore (pc := 23) (k := 5) (lo2 := [some (.ref 78), some (.int l1), some (.int l2), some (.int ((mi M 78 0) - (nI 1))), some (.int l2), some (.int (nI 0))]) (by decide +kernel) (by decide) rfl ?_
      exact h
  · replace h := h.2 hc
    refine ex_iconst (pc := 4) (k := 0) (v := nI 0) (by decide +kernel) (by decide) ?_
    refine ex_goto (pc := 5) (off := 9) (tgt := 14) (by decide +kernel) (by decide) ?_
    refine ex_istore_n (pc := 14) (k := 3) (lo2 := [some (.ref 78), some (.int l1), some (.int l2), some (.int (nI 0)), none, none]) (by decide +kernel) (by decide) rfl ?_
    refine ex_iload_n (pc := 15) (k := 2) (by decide +kernel) rfl ?_
    refine ex_istore (pc := 16) (k := 4) (lo2 := [some (.ref 78), some (.int l1), some (.int l2), some (.int (nI 0)), some (.int l2), none]) (by decide +kernel) (by decide) rfl ?_
    refine ex_iload_n (pc := 18) (k := 2) (by decide +kernel) rfl ?_
    refine ex_if_eq (pc := 19) (off := 29) (tgt := 48) (by decide +kernel) (by decide) (fun hc => ?_) (fun hc => ?_)
    · replace h := h.1 hc
      exact h
    · replace h := h.2 hc
      refine ex_iconst (pc := 22) (k := 0) (v := nI 0) (by decide +kernel) (by decide) ?_
      refine ex_istore (pc := 23) (k := 5) (lo2 := [some (.ref 78), some (.int l1), some (.int l2), some (.int (nI 0)), some (.int l2), some (.int (nI 0))]) (by decide +kernel) (by decide) rfl ?_
      exact h
theorem k_MM_nextWay_25 {d bc bs : Nat} {l1 : Int32} {l2 : Int32} {l3 : Int32} {l4 : Int32} {l5 : Int32} {M : Mem} {Φ : Option Value → Mem → Prop} (hF : Fm M) (h : ((mi M 78 0) ≤ l5 → Ex (d + 1) m_MM_nextWay bc bs 48 [some (.ref 78), some (.int l1), some (.int l2), some (.int l3), some (.int l4), none] [] M Φ) ∧ (¬ (mi M 78 0) ≤ l5 → vp_in l5 6 ∧ Ex (d + 1) m_MM_nextWay bc bs 25 [some (.ref 78), some (.int l1), some (.int l2), some (.int l3), some (.int l4), some (.int (l5 + nI 1))] [] (wi M 109 l5.toNatClampNeg (nI 0)) Φ)) : Ex (d + 1) m_MM_nextWay bc bs 25 [some (.ref 78), some (.int l1), some (.int l2), some (.int l3), some (.int l4), some (.int l5)] [] M Φ := by
  refine ex_iload (pc := 25) (k := 5) (by decide +kernel) rfl ?_
  refine ex_aload_n (pc := 27) (k := 0) (by decide +kernel) rfl ?_
  refine ey_getI (pc := 28) (v := mi M 78 0) (by decide +kernel) lf_MM_151 (hF.s (j := 78) rfl) rfl ?_
  refine ex_icmp_ge (pc := 31) (off := 17) (tgt := 48) (by decide +kernel) (by decide) (fun hc => ?_) (fun hc => ?_)
  · replace h := h.1 hc
    exact Ex.msk [true, true, true, true, true, false] h
  · replace h := h.2 hc
    refine ex_aload_n (pc := 34) (k := 0) (by decide +kernel) rfl ?_
    refine ex_getR (pc := 35) (a := 109) (by decide +kernel) lf_MM_131 (hF.s (j := 78) rfl) (hF.r (j := 78) (k := 52) rfl rfl) ?_
    refine ex_iload (pc := 38) (k := 5) (by decide +kernel) rfl ?_
    refine ex_iconst (pc := 40) (k := 0) (v := nI 0) (by decide +kernel) (by decide) ?_
    obtain ⟨g1, h⟩ := h
    refine ey_iast (pc := 41) (by decide +kernel) (hF.s (j := 109) rfl) g1 rfl ?_
    refine ex_iinc (pc := 42) (i := 5) (k := 1) (v := l5 + nI 1) (lo2 := [some (.ref 78), some (.int l1), some (.int l2), some (.int l3), some (.int l4), some (.int (l5 + nI 1))]) (by decide +kernel) (by decide) rfl rfl rfl ?_
    refine ex_goto (pc := 45) (off := -20) (tgt := 25) (by decide +kernel) (by decide) ?_
    exact h
theorem k_MM_nextWay_48 {d bc bs : Nat} {l1 : Int32} {l2 : Int32} {l3 : Int32} {l4 : Int32} {M : Mem} {Φ : Option Value → Mem → Prop} (hF : Fm M) (h : (l3 < 0 → Ex (d + 1) m_MM_nextWay bc bs 213 [some (.ref 78), some (.int l1), some (.int l2), some (.int l3), some (.int l4), none] [] M Φ) ∧ (¬ l3 < 0 → ((mi M 78 0) ≤ l3 → Ex (d + 1) m_MM_nextWay bc bs 213 [some (.ref 78), some (.int l1), some (.int l2), some (.int l3), some (.int l4), none] [] M Φ) ∧ (¬ (mi M 78 0) ≤ l3 → (¬ ((l1 >>> (l3 &&& 31)) &&& (nI 1)) = 0 → vp_in l3 6 ∧ (¬ (mi M 109 l3.toNatClampNeg) = 0 → vp_in l3 6 ∧ vp_in l3 6 ∧ Ex (d + 1) m_MM_nextWay bc bs 118 [some (.ref 78), some (.int l1), some (.int l2), some (.int l3), some (.int l4), none] [] (wi M 109 l3.toNatClampNeg ((mi M 109 l3.toNatClampNeg) <<< ((nI 1) &&& 31))) Φ) ∧ ((mi M 109 l3.toNatClampNeg) = 0 → vp_in l3 6 ∧ Ex (d + 1) m_MM_nextWay bc bs 118 [some (.ref 78), some (.int l1), some (.int l2), some (.int l3), some (.int l4), none] [] (wi M 109 l3.toNatClampNeg (nI 1)) Φ)) ∧ (((l1 >>> (l3 &&& 31)) &&& (nI 1)) = 0 → vp_in l3 6 ∧ (l4 = 0 → Ex (d + 1) m_MM_nextWay bc bs 48 [some (.ref 78), some (.int l1), some (.int l2), some (.int (l3 + (-1))), some (.int l4), none] [] (wi M 109 l3.toNatClampNeg (nI 0)) Φ) ∧ (¬ l4 = 0 → Ex (d + 1) m_MM_nextWay bc bs 48 [some (.ref 78), some (.int l1), some (.int l2), some (.int (l3 + (nI 1))), some (.int l4), none] [] (wi M 109 l3.toNatClampNeg (nI 0)) Φ))))) : Ex (d + 1) m_MM_nextWay bc bs 48 [some (.ref 78), some (.int l1), some (.int l2), some (.int l3), some (.int l4), none] [] M Φ := by
  refine ex_iload_n (pc := 48) (k := 3) (by decide +kernel) rfl ?_
  refine ex_if_lt (pc := 49) (off := 164) (tgt := 213) (by decide +kernel) (by decide) (fun hc => ?_) (fun hc => ?_)
  · replace h := h.1 hc
    exact h
  · replace h := h.2 hc
    refine ex_iload_n (pc := 52) (k := 3) (by decide +kernel) rfl ?_
    refine ex_aload_n (pc := 53) (k := 0) (by decide +kernel) rfl ?_
    refine ey_getI (pc := 54) (v := mi M 78 0) (by decide +kernel) lf_MM_151 (hF.s (j := 78) rfl) rfl ?_
    refine ex_icmp_ge (pc := 57) (off := 156) (tgt := 213) (by decide +kernel) (by decide) (fun hc => ?_) (fun hc => ?_)
    · replace h := h.1 hc
      exact h
    · replace h := h.2 hc
      refine ex_iload_n (pc := 60) (k := 1) (by decide +kernel) rfl ?_
      refine ex_iload_n (pc := 61) (k := 3) (by decide +kernel) rfl ?_
      refine ex_ishr (pc := 62) (by decide +kernel) ?_
      refine ex_iconst (pc := 63) (k := 1) (v := nI 1) (by decide +kernel) (by decide) ?_
      refine ex_iand (pc := 64) (by decide +kernel) ?_
      refine ex_if_ne (pc := 65) (off := 26) (tgt := 91) (by decide +kernel) (by decide) (fun hc => ?_) (fun hc => ?_)
      · replace h := h.1 hc
        refine ex_aload_n (pc := 91) (k := 0) (by decide +kernel) rfl ?_
        refine ex_getR (pc := 92) (a := 109) (by decide +kernel) lf_MM_131 (hF.s (j := 78) rfl) (hF.r (j := 78) (k := 52) rfl rfl) ?_
        refine ex_iload_n (pc := 95) (k := 3) (by decide +kernel) rfl ?_
        refine ex_aload_n (pc := 96) (k := 0) (by decide +kernel) rfl ?_
        refine ex_getR (pc := 97) (a := 109) (by decide +kernel) lf_MM_131 (hF.s (j := 78) rfl) (hF.r (j := 78) (k := 52) rfl rfl) ?_
        refine ex_iload_n (pc := 100) (k := 3) (by decide +kernel) rfl ?_
        obtain ⟨g1, h⟩ := h
        refine ey_iald (pc := 101) (v := mi M 109 l3.toNatClampNeg) (by decide +kernel) (hF.s (j := 109) rfl) g1 rfl rfl ?_
        refine ex_if_ne (pc := 102) (off := 7) (tgt := 109) (by decide +kernel) (by decide) (fun hc => ?_) (fun hc => ?_)
        · replace h := h.1 hc
          refine ex_aload_n (pc := 109) (k := 0) (by decide +kernel) rfl ?_
          refine ex_getR (pc := 110) (a := 109) (by decide +kernel) lf_MM_131 (hF.s (j := 78) rfl) (hF.r (j := 78) (k := 52) rfl rfl) ?_
          refine ex_iload_n (pc := 113) (k := 3) (by decide +kernel) rfl ?_
          obtain ⟨g2, h⟩ := h
          refine ey_iald (pc := 114) (v := mi M 109 l3.toNatClampNeg) (by decide +kernel) (hF.s (j := 109) rfl) g2 rfl rfl ?_
          refine ex_iconst (pc := 115) (k := 1) (v := nI 1) (by decide +kernel) (by decide) ?_
          refine ex_ishl (pc := 116) (by decide +kernel) ?_
          obtain ⟨g3, h⟩ := h
          refine ey_iast (pc := 117) (by decide +kernel) (hF.s (j := 109) rfl) g3 rfl ?_
          exact h
        · replace h := h.2 hc
          refine ex_iconst (pc := 105) (k := 1) (v := nI 1) (by decide +kernel) (by decide) ?_
          refine ex_goto (pc := 106) (off := 11) (tgt := 117) (by decide +kernel) (by decide) ?_
          obtain ⟨g4, h⟩ := h
          refine ey_iast (pc := 117) (by decide +kernel) (hF.s (j := 109) rfl) g4 rfl ?_
          exact h
      · replace h := h.2 hc
        refine ex_aload_n (pc := 68) (k := 0) (by decide +kernel) rfl ?_
        refine ex_getR (pc := 69) (a := 109) (by decide +kernel) lf_MM_131 (hF.s (j := 78) rfl) (hF.r (j := 78) (k := 52) rfl rfl) ?_
        refine ex_iload_n (pc := 72) (k := 3) (by decide +kernel) rfl ?_
        refine ex_iconst (pc := 73) (k := 0) (v := nI 0) (by decide +kernel) (by decide) ?_
        obtain ⟨g5, h⟩ := h
        refine ey_iast (pc := 74) (by decide +kernel) (hF.s (j := 109) rfl) g5 rfl ?_
        refine ex_iload_n (pc := 75) (k := 3) (by decide +kernel) rfl ?_
        refine ex_iload (pc := 76) (k := 4) (by decide +kernel) rfl ?_
        refine ex_if_eq (pc := 78) (off := 7) (tgt := 85) (by decide +kernel) (by decide) (fun hc => ?_) (fun hc => ?_)
        · replace h := h.1 hc
          refine ex_iconst (pc := 85) (k := -1) (v := -1) (by decide +kernel) (by decide) ?_
          refine ex_iadd (pc := 86) (by decide +kernel) ?_
          refine ex_istore_n (pc := 87) (k := 3) (lo2 := [some (.ref 78), some (.int l1), some (.int l2), some (.int (l3 + (-1))), some (.int l4), none]) (by decide +kernel) (by decide) rfl ?_
          refine ex_goto (pc := 88) (off := -40) (tgt := 48) (by decide +kernel) (by decide) ?_
          exact h
        · replace h := h.2 hc
          refine ex_iconst (pc := 81) (k := 1) (v := nI 1) (by decide +kernel) (by decide) ?_
          refine ex_goto (pc := 82) (off := 4) (tgt := 86) (by decide +kernel) (by decide) ?_
          refine ex_iadd (pc := 86) (by decide +kernel) ?_
          refine ex_istore_n (pc := 87) (k := 3) (lo2 := [some (.ref 78), some (.int l1), some (.int l2), some (.int (l3 + (nI 1))), some (.int l4), none]) (by decide +kernel) (by decide) rfl ?_
          refine ex_goto (pc := 88) (off := -40) (tgt := 48) (by decide +kernel) (by decide) ?_
          exact h
theorem k_MM_nextWay_118 {d bc bs : Nat} {l1 : Int32} {l2 : Int32} {l3 : Int32} {l4 : Int32} {M : Mem} {Φ : Option Value → Mem → Prop} (hF : Fm M) (h : vp_in l3 6 ∧ (((nI 1) <<< ((mi M 78 6) &&& 31)) ≤ (mi M 109 l3.toNatClampNeg) → Ex (d + 1) m_MM_nextWay bc bs 154 [some (.ref 78), some (.int l1), some (.int l2), some (.int l3), some (.int l4), none] [] M Φ) ∧ (¬ ((nI 1) <<< ((mi M 78 6) &&& 31)) ≤ (mi M 109 l3.toNatClampNeg) → Con d m_MM_isFree 0 0 [.ref 78, .int l3] M (PB fun r1 M1 => Fm M1 ∧ (r1 = true → Ex (d + 1) m_MM_nextWay bc bs 154 [some (.ref 78), some (.int l1), some (.int l2), some (.int l3), some (.int l4), none] [] M1 Φ) ∧ (r1 = false → vp_in l3 6 ∧ vp_in l3 6 ∧ Ex (d + 1) m_MM_nextWay bc bs 118 [some (.ref 78), some (.int l1), some (.int l2), some (.int l3), some (.int l4), none] [] (wi M1 109 l3.toNatClampNeg ((mi M1 109 l3.toNatClampNeg) <<< ((nI 1) &&& 31))) Φ)))) : Ex (d + 1) m_MM_nextWay bc bs 118 [some (.ref 78), some (.int l1), some (.int l2), some (.int l3), some (.int l4), none] [] M Φ := by
  refine ex_aload_n (pc := 118) (k := 0) (by decide +kernel) rfl ?_
  refine ex_getR (pc := 119) (a := 109) (by decide +kernel) lf_MM_131 (hF.s (j := 78) rfl) (hF.r (j := 78) (k := 52) rfl rfl) ?_
  refine ex_iload_n (pc := 122) (k := 3) (by decide +kernel) rfl ?_
  obtain ⟨g1, h⟩ := h
  refine ey_iald (pc := 123) (v := mi M 109 l3.toNatClampNeg) (by decide +kernel) (hF.s (j := 109) rfl) g1 rfl rfl ?_
  refine ex_iconst (pc := 124) (k := 1) (v := nI 1) (by decide +kernel) (by decide) ?_
  refine ex_aload_n (pc := 125) (k := 0) (by decide +kernel) rfl ?_
  refine ey_getI (pc := 126) (v := mi M 78 6) (by decide +kernel) lf_MM_25 (hF.s (j := 78) rfl) rfl ?_
  refine ex_ishl (pc := 129) (by decide +kernel) ?_
  refine ex_icmp_ge (pc := 130) (off := 24) (tgt := 154) (by decide +kernel) (by decide) (fun hc => ?_) (fun hc => ?_)
  · replace h := h.1 hc
    exact h
  · replace h := h.2 hc
    refine ex_aload_n (pc := 133) (k := 0) (by decide +kernel) rfl ?_
    refine ex_iload_n (pc := 134) (k := 3) (by decide +kernel) rfl ?_
    refine ex_callV (pc := 135) (as := [.int l3]) (by decide +kernel) F_MM_isFree (in_t6 (i := 214) rfl rfl) (hF.s (j := 78) rfl) rfl (by decide) rfl rfl (Nat.le_of_ble_eq_true rfl) (Nat.lt_succ_self _) ⟨Nat.zero_le _, Nat.zero_le _⟩ (KC_B (Con.mono h ?_))
    intro o M1 ⟨r1, e9, hF1, h⟩
    refine ⟨r1, e9, ?_⟩
    refine ey_ifneB (pc := 138) (off := 16) (tgt := 154) (by decide +kernel) (by decide) (fun hc => ?_) (fun hc => ?_)
    · replace h := h.1 hc
      exact h
    · replace h := h.2 hc
      refine ex_aload_n (pc := 141) (k := 0) (by decide +kernel) rfl ?_
      refine ex_getR (pc := 142) (a := 109) (by decide +kernel) lf_MM_131 (hF1.s (j := 78) rfl) (hF1.r (j := 78) (k := 52) rfl rfl) ?_
      refine ex_iload_n (pc := 145) (k := 3) (by decide +kernel) rfl ?_
      refine ex_dup2 (pc := 146) (by decide +kernel) rfl rfl ?_
      obtain ⟨g2, h⟩ := h
      refine ey_iald (pc := 147) (v := mi M1 109 l3.toNatClampNeg) (by decide +kernel) (hF1.s (j := 109) rfl) g2 rfl rfl ?_
      refine ex_iconst (pc := 148) (k := 1) (v := nI 1) (by decide +kernel) (by decide) ?_
      refine ex_ishl (pc := 149) (by decide +kernel) ?_
      obtain ⟨g3, h⟩ := h
      refine ey_iast (pc := 150) (by decide +kernel) (hF1.s (j := 109) rfl) g3 rfl ?_
      refine ex_goto (pc := 151) (off := -33) (tgt := 118) (by decide +kernel) (by decide) ?_
      exact h
theorem k_MM_nextWay_154 {d bc bs : Nat} {l1 : Int32} {l2 : Int32} {l3 : Int32} {l4 : Int32} {M : Mem} {Φ : Option Value → Mem → Prop} (hF : Fm M) (h : vp_in l3 6 ∧ (((nI 1) <<< ((mi M 78 6) &&& 31)) ≤ (mi M 109 l3.toNatClampNeg) → ((nI 0) = 0 → vp_in l3 6 ∧ ((nI 0) = 0 → Ex (d + 1) m_MM_nextWay bc bs 48 [some (.ref 78), some (.int l1), some (.int l2), some (.int (l3 + (-1))), some (.int (nI 0)), none] [] (wi M 109 l3.toNatClampNeg (nI 0)) Φ) ∧ (¬ (nI 0) = 0 → Ex (d + 1) m_MM_nextWay bc bs 48 [some (.ref 78), some (.int l1), some (.int l2), some (.int (l3 + (nI 1))), some (.int (nI 0)), none] [] (wi M 109 l3.toNatClampNeg (nI 0)) Φ)) ∧ (¬ (nI 0) = 0 → vp_in l3 6 ∧ vp_in l3 6 ∧ ((nI 0) = 0 → Ex (d + 1) m_MM_nextWay bc bs 48 [some (.ref 78), some (.int l1), some (.int l2), some (.int (l3 + (-1))), some (.int (nI 0)), none] [] (wi M 109 l3.toNatClampNeg (mi M 109 l3.toNatClampNeg)) Φ) ∧ (¬ (nI 0) = 0 → Ex (d + 1) m_MM_nextWay bc bs 48 [some (.ref 78), some (.int l1), some (.int l2), some (.int (l3 + (nI 1))), some (.int (nI 0)), none] [] (wi M 109 l3.toNatClampNeg (mi M 109 l3.toNatClampNeg)) Φ))) ∧ (¬ ((nI 1) <<< ((mi M 78 6) &&& 31)) ≤ (mi M 109 l3.toNatClampNeg) → ((nI 1) = 0 → vp_in l3 6 ∧ ((nI 1) = 0 → Ex (d + 1) m_MM_nextWay bc bs 48 [some (.ref 78), some (.int l1), some (.int l2), some (.int (l3 + (-1))), some (.int (nI 1)), none] [] (wi M 109 l3.toNatClampNeg (nI 0)) Φ) ∧ (¬ (nI 1) = 0 → Ex (d + 1) m_MM_nextWay bc bs 48 [some (.ref 78), some (.int l1), some (.int l2), some (.int (l3 + (nI 1))), some (.int (nI 1)), none] [] (wi M 109 l3.toNatClampNeg (nI 0)) Φ)) ∧ (¬ (nI 1) = 0 → vp_in l3 6 ∧ vp_in l3 6 ∧ ((nI 1) = 0 → Ex (d + 1) m_MM_nextWay bc bs 48 [some (.ref 78), some (.int l1), some (.int l2), some (.int (l3 + (-1))), some (.int (nI 1)), none] [] (wi M 109 l3.toNatClampNeg (mi M 109 l3.toNatClampNeg)) Φ) ∧ (¬ (nI 1) = 0 → Ex (d + 1) m_MM_nextWay bc bs 48 [some (.ref 78), some (.int l1), some (.int l2), some (.int (l3 + (nI 1))), some (.int (nI 1)), none] [] (wi M 109 l3.toNatClampNeg (mi M 109 l3.toNatClampNeg)) Φ)))) : Ex (d + 1) m_MM_nextWay bc bs 154 [some (.ref 78), some (.int l1), some (.int l2), some (.int l3), some (.int l4), none] [] M Φ := by
  refine ex_aload_n (pc := 154) (k := 0) (by decide +kernel) rfl ?_
  refine ex_getR (pc := 155) (a := 109) (by decide +kernel) lf_MM_131 (hF.s (j := 78) rfl) (hF.r (j := 78) (k := 52) rfl rfl) ?_
  refine ex_iload_n (pc := 158) (k := 3) (by decide +kernel) rfl ?_
  obtain ⟨g1, h⟩ := h
  refine ey_iald (pc := 159) (v := mi M 109 l3.toNatClampNeg) (by decide +kernel) (hF.s (j := 109) rfl) g1 rfl rfl ?_
  refine ex_iconst (pc := 160) (k := 1) (v := nI 1) (by decide +kernel) (by decide) ?_
  refine ex_aload_n (pc := 161) (k := 0) (by decide +kernel) rfl ?_
  refine ey_getI (pc := 162) (v := mi M 78 6) (by decide +kernel) lf_MM_25 (hF.s (j := 78) rfl) rfl ?_
  refine ex_ishl (pc := 165) (by decide +kernel) ?_
  refine ex_icmp_ge (pc := 166) (off := 7) (tgt := 173) (by decide +kernel) (by decide) (fun hc => ?_) (fun hc => ?_)
  · replace h := h.1 hc
    refine ex_iconst (pc := 173) (k := 0) (v := nI 0) (by decide +kernel) (by decide) ?_
    refine ex_istore (pc := 174) (k := 4) (lo2 := [some (.ref 78), some (.int l1), some (.int l2), some (.int l3), some (.int (nI 0)), none]) (by decide +kernel) (by decide) rfl ?_
    refine ex_aload_n (pc := 176) (k := 0) (by decide +kernel) rfl ?_
    refine ex_getR (pc := 177) (a := 109) (by decide +kernel) lf_MM_131 (hF.s (j := 78) rfl) (hF.r (j := 78) (k := 52) rfl rfl) ?_
    refine ex_iload_n (pc := 180) (k := 3) (by decide +kernel) rfl ?_
    refine ex_iload (pc := 181) (k := 4) (by decide +kernel) rfl ?_
    refine ex_if_eq (pc := 183) (off := 12) (tgt := 195) (by decide +kernel) (by decide) (fun hc => ?_) (fun hc => ?_)
    · replace h := h.1 hc
      refine ex_iconst (pc := 195) (k := 0) (v := nI 0) (by decide +kernel) (by decide) ?_
      obtain ⟨g2, h⟩ := h
      refine ey_iast (pc := 196) (by decide +kernel) (hF.s (j := 109) rfl) g2 rfl ?_
      refine ex_iload_n (pc := 197) (k := 3) (by decide +kernel) rfl ?_
      refine ex_iload (pc := 198) (k := 4) (by decide +kernel) rfl ?_
      refine ex_if_eq (pc := 200) (off := 7) (tgt := 207) (by decide +kernel) (by decide) (fun hc => ?_) (fun hc => ?_)
      · replace h := h.1 hc
        refine ex_iconst (pc := 207) (k := -1) (v := -1) (by decide +kernel) (by decide) ?_
        refine ex_iadd (pc := 208) (by decide +kernel) ?_
        refine ex_istore_n (pc := 209) (k := 3) (lo2 := [some (.ref 78), some (.int l1), some (.int l2), some (.int (l3 + (-1))), some (.int (nI 0)), none]) (by decide +kernel) (by decide) rfl ?_
        refine ex_goto (pc := 210) (off := -162) (tgt := 48) (by decide +kernel) (by decide) ?_
        exact h
      · replace h := h.2 hc
        refine ex_iconst (pc := 203) (k := 1) (v := nI 1) (by decide +kernel) (by decide) ?_
        refine ex_goto (pc := 204) (off := 4) (tgt := 208) (by decide +kernel) (by decide) ?_
        refine ex_iadd (pc := 208) (by decide +kernel) ?_
        refine ex_istore_n (pc := 209) (k := 3) (lo2 := [some (.ref 78), some (.int l1), some (.int l2), some (.int (l3 + (nI 1))), some (.int (nI 0)), none]) (by decide +kernel) (by decide) rfl ?_
        refine ex_goto (pc := 210) (off := -162) (tgt := 48) (by decide +kernel) (by decide) ?_
        exact h
    · replace h := h.2 hc
      refine ex_aload_n (pc := 186) (k := 0) (by decide +kernel) rfl ?_
      refine ex_getR (pc := 187) (a := 109) (by decide +kernel) lf_MM_131 (hF.s (j := 78) rfl) (hF.r (j := 78) (k := 52) rfl rfl) ?_
      refine ex_iload_n (pc := 190) (k := 3) (by decide +kernel) rfl ?_
      obtain ⟨g3, h⟩ := h
      refine ey_iald (pc := 191) (v := mi M 109 l3.toNatClampNeg) (by decide +kernel) (hF.s (j := 109) rfl) g3 rfl rfl ?_
      refine ex_goto (pc := 192) (off := 4) (tgt := 196) (by decide +kernel) (by decide) ?_
      obtain ⟨g4, h⟩ := h
      refine ey_iast (pc := 196) (by decide +kernel) (hF.s (j := 109) rfl) g4 rfl ?_
      refine ex_iload_n (pc := 197) (k := 3) (by decide +kernel) rfl ?_
      refine ex_iload (pc := 198) (k := 4) (by decide +kernel) rfl ?_
      refine ex_if_eq (pc := 200) (off := 7) (tgt := 207) (by decide +kernel) (by decide) (fun hc => ?_) (fun hc => ?_)
      · replace h := h.1 hc
        refine ex_iconst (pc := 207) (k := -1) (v := -1) (by decide +kernel) (by decide) ?_
        refine ex_iadd (pc := 208) (by decide +kernel) ?_
        refine ex_istore_n (pc := 209) (k := 3) (lo2 := [some (.ref 78), some (.int l1), some (.int l2), some (.int (l3 + (-1))), some (.int (nI 0)), none]) (by decide +kernel) (by decide) rfl ?_
        refine ex_goto (pc := 210) (off := -162) (tgt := 48) (by decide +kernel) (by decide) ?_
        exact h
      · replace h := h.2 hc
        refine ex_iconst (pc := 203) (k := 1) (v := nI 1) (by decide +kernel) (by decide) ?_
        refine ex_goto (pc := 204) (off := 4) (tgt := 208) (by decide +kernel) (by decide) ?_
        refine ex_iadd (pc := 208) (by decide +kernel) ?_
        refine ex_istore_n (pc := 209) (k := 3) (lo2 := [some (.ref 78), some (.int l1), some (.int l2), some (.int (l3 + (nI 1))), some (.int (nI 0)), none]) (by decide +kernel) (by decide) rfl ?_
        refine ex_goto (pc := 210) (off := -162) (tgt := 48) (by decide +kernel) (by decide) ?_
        exact h
  · replace h := h.2 hc
    refine ex_iconst (pc := 169) (k := 1) (v := nI 1) (by decide +kernel) (by decide) ?_
    refine ex_goto (pc := 170) (off := 4) (tgt := 174) (by decide +kernel) (by decide) ?_
    refine ex_istore (pc := 174) (k := 4) (lo2 := [some (.ref 78), some (.int l1), some (.int l2), some (.int l3), some (.int (nI 1)), none]) (by decide +kernel) (by decide) rfl ?_
    refine ex_aload_n (pc := 176) (k := 0) (by decide +kernel) rfl ?_
    refine ex_getR (pc := 177) (a := 109) (by decide +kernel) lf_MM_131 (hF.s (j := 78) rfl) (hF.r (j := 78) (k := 52) rfl rfl) ?_
    refine ex_iload_n (pc := 180) (k := 3) (by decide +kernel) rfl ?_
    refine ex_iload (pc := 181) (k := 4) (by decide +kernel) rfl ?_
    refine ex_if_eq (pc := 183) (off := 12) (tgt := 195) (by decide +kernel) (by decide) (fun hc => ?_) (fun hc => ?_)
    · replace h := h.1 hc
      refine ex_iconst (pc := 195) (k := 0) (v := nI 0) (by decide +kernel) (by decide) ?_
      obtain ⟨g5, h⟩ := h
      refine ey_iast (pc := 196) (by decide +kernel) (hF.s (j := 109) rfl) g5 rfl ?_
      refine ex_iload_n (pc := 197) (k := 3) (by decide +kernel) rfl ?_
      refine ex_iload (pc := 198) (k := 4) (by decide +kernel) rfl ?_
      refine ex_if_eq (pc := 200) (off := 7) (tgt := 207) (by decide +kernel) (by decide) (fun hc => ?_) (fun hc => ?_)
      · replace h := h.1 hc
        refine ex_iconst (pc := 207) (k := -1) (v := -1) (by decide +kernel) (by decide) ?_
        refine ex_iadd (pc := 208) (by decide +kernel) ?_
        refine ex_istore_n (pc := 209) (k := 3) (lo2 := [some (.ref 78), some (.int l1), some (.int l2), some (.int (l3 + (-1))), some (.int (nI 1)), none]) (by decide +kernel) (by decide) rfl ?_
        refine ex_goto (pc := 210) (off := -162) (tgt := 48) (by decide +kernel) (by decide) ?_
        exact h
      · replace h := h.2 hc
        refine ex_iconst (pc := 203) (k := 1) (v := nI 1) (by decide +kernel) (by decide) ?_
        refine ex_goto (pc := 204) (off := 4) (tgt := 208) (by decide +kernel) (by decide) ?_
        refine ex_iadd (pc := 208) (by decide +kernel) ?_
        refine ex_istore_n (pc := 209) (k := 3) (lo2 := [some (.ref 78), some (.int l1), some (.int l2), some (.int (l3 + (nI 1))), some (.int (nI 1)), none]) (by decide +kernel) (by decide) rfl ?_
        refine ex_goto (pc := 210) (off := -162) (tgt := 48) (by decide +kernel) (by decide) ?_
        exact h
    · replace h := h.2 hc
      refine ex_aload_n (pc := 186) (k := 0) (by decide +kernel) rfl ?_
      refine ex_getR (pc := 187) (a := 109) (by decide +kernel) lf_MM_131 (hF.s (j := 78) rfl) (hF.r (j := 78) (k := 52) rfl rfl) ?_
      refine ex_iload_n (pc := 190) (k := 3) (by decide +kernel) rfl ?_
      obtain ⟨g6, h⟩ := h
      refine ey_iald (pc := 191) (v := mi M 109 l3.toNatClampNeg) (by decide +kernel) (hF.s (j := 109) rfl) g6 rfl rfl ?_
      refine ex_goto (pc := 192) (off := 4) (tgt := 196) (by decide +kernel) (by decide) ?_
      obtain ⟨g7, h⟩ := h
      refine ey_iast (pc := 196) (by decide +kernel) (hF.s (j := 109) rfl) g7 rfl ?_
      refine ex_iload_n (pc := 197) (k := 3) (by decide +kernel) rfl ?_
      refine ex_iload (pc := 198) (k := 4) (by decide +kernel) rfl ?_
      refine ex_if_eq (pc := 200) (off := 7) (tgt := 207) (by decide +kernel) (by decide) (fun hc => ?_) (fun hc => ?_)
      · replace h := h.1 hc
        refine ex_iconst (pc := 207) (k := -1) (v := -1) (by decide +kernel) (by decide) ?_
        refine ex_iadd (pc := 208) (by decide +kernel) ?_
        refine ex_istore_n (pc := 209) (k := 3) (lo2 := [some (.ref 78), some (.int l1), some (.int l2), some (.int (l3 + (-1))), some (.int (nI 1)), none]) (by decide +kernel) (by decide) rfl ?_
        refine ex_goto (pc := 210) (off := -162) (tgt := 48) (by decide +kernel) (by decide) ?_
        exact h
      · replace h := h.2 hc
        refine ex_iconst (pc := 203) (k := 1) (v := nI 1) (by decide +kernel) (by decide) ?_
        refine ex_goto (pc := 204) (off := 4) (tgt := 208) (by decide +kernel) (by decide) ?_
        refine ex_iadd (pc := 208) (by decide +kernel) ?_
        refine ex_istore_n (pc := 209) (k := 3) (lo2 := [some (.ref 78), some (.int l1), some (.int l2), some (.int (l3 + (nI 1))), some (.int (nI 1)), none]) (by decide +kernel) (by decide) rfl ?_
        refine ex_goto (pc := 210) (off := -162) (tgt := 48) (by decide +kernel) (by decide) ?_
        exact h
theorem k_MM_nextWay_213 {d bc bs : Nat} {l1 : Int32} {l2 : Int32} {l3 : Int32} {l4 : Int32} {M : Mem} {Φ : Option Value → Mem → Prop} (hF : Fm M) (h : (¬ l3 = (mi M 78 0) → Φ (some (.int (b2i false))) M) ∧ (l3 = (mi M 78 0) → Φ (some (.int (b2i true))) M)) : Ex (d + 1) m_MM_nextWay bc bs 213 [some (.ref 78), some (.int l1), some (.int l2), some (.int l3), some (.int l4), none] [] M Φ := by
  refine ex_iload_n (pc := 213) (k := 3) (by decide +kernel) rfl ?_
  refine ex_aload_n (pc := 214) (k := 0) (by decide +kernel) rfl ?_
  refine ey_getI (pc := 215) (v := mi M 78 0) (by decide +kernel) lf_MM_151 (hF.s (j := 78) rfl) rfl ?_
  refine ex_icmp_ne (pc := 218) (off := 7) (tgt := 225) (by decide +kernel) (by decide) (fun hc => ?_) (fun hc => ?_)
  · replace h := h.1 hc
    refine ex_iconst (pc := 225) (k := 0) (v := nI 0) (by decide +kernel) (by decide) ?_
    exact ex_ireturn (pc := 226) (v := b2i false) (by decide +kernel) rfl (b2i_n _) h
  · replace h := h.2 hc
    refine ex_iconst (pc := 221) (k := 1) (v := nI 1) (by decide +kernel) (by decide) ?_
    refine ex_goto (pc := 222) (off := 4) (tgt := 226) (by decide +kernel) (by decide) ?_
    exact ex_ireturn (pc := 226) (v := b2i true) (by decide +kernel) rfl (b2i_n _) h
theorem k_MM_all_0 {d bc bs : Nat}  {M : Mem} {Φ : Option Value → Mem → Prop} (hF : Fm M) (h : Φ (some (.int (((nI 1) <<< ((mi M 78 0) &&& 31)) - (nI 1)))) M) : Ex (d + 1) m_MM_all bc bs 0 [some (.ref 78)] [] M Φ := by
  refine ex_iconst (pc := 0) (k := 1) (v := nI 1) (by decide +kernel) (by decide) ?_
  refine ex_aload_n (pc := 1) (k := 0) (by decide +kernel) rfl ?_
  refine ey_getI (pc := 2) (v := mi M 78 0) (by decide +kernel) lf_MM_151 (hF.s (j := 78) rfl) rfl ?_
  refine ex_ishl (pc := 5) (by decide +kernel) ?_
  refine ex_iconst (pc := 6) (k := 1) (v := nI 1) (by decide +kernel) (by decide) ?_
  refine ex_isub (pc := 7) (by decide +kernel) ?_
  exact ex_ireturn (pc := 8) (by decide +kernel) rfl rfl h
theorem k_MM_can_0 {d bc bs : Nat}  {M : Mem} {Φ : Option Value → Mem → Prop} (hF : Fm M) (h : Con d m_MM_looks 0 0 [.ref 78] M (PV fun M1 => Fm M1 ∧ Con d m_MM_all 0 0 [.ref 78] M1 (PI fun r1 M2 => Fm M2 ∧ Con d m_MM_nextWay 0 0 [.ref 78, .int r1, .int (nI 1)] M2 (PB fun r2 M3 => Fm M3 ∧ Ex (d + 1) m_MM_can bc bs 16 [some (.ref 78), some (.int (nI 0)), some (.int (b2i r2))] [] M3 Φ)))) : Ex (d + 1) m_MM_can bc bs 0 [some (.ref 78), none, none] [] M Φ := by
  refine ex_aload_n (pc := 0) (k := 0) (by decide +kernel) rfl ?_
  refine ex_callV (pc := 1) (as := []) (by decide +kernel) F_MM_looks (in_t6 (i := 158) rfl rfl) (hF.s (j := 78) rfl) rfl (by decide) rfl rfl (Nat.le_of_ble_eq_true rfl) (Nat.lt_succ_self _) ⟨Nat.zero_le _, Nat.zero_le _⟩ (KC_V (Con.mono h ?_))
  intro o M1 ⟨e9, hF1, h⟩
  refine ⟨e9, ?_⟩
  refine ex_iconst (pc := 4) (k := 0) (v := nI 0) (by decide +kernel) (by decide) ?_
  refine ex_istore_n (pc := 5) (k := 1) (lo2 := [some (.ref 78), some (.int (nI 0)), none]) (by decide +kernel) (by decide) rfl ?_
  refine ex_aload_n (pc := 6) (k := 0) (by decide +kernel) rfl ?_
  refine ex_aload_n (pc := 7) (k := 0) (by decide +kernel) rfl ?_
  refine ex_callV (pc := 8) (as := []) (by decide +kernel) F_MM_all (in_t6 (i := 206) rfl rfl) (hF1.s (j := 78) rfl) rfl (by decide) rfl rfl (Nat.le_of_ble_eq_true rfl) (Nat.lt_succ_self _) ⟨Nat.zero_le _, Nat.zero_le _⟩ (KC_I (Con.mono h ?_))
  intro o M2 ⟨r1, e9, hF2, h⟩
  refine ⟨r1, e9, ?_⟩
  refine ex_iconst (pc := 11) (k := 1) (v := nI 1) (by decide +kernel) (by decide) ?_
  refine ex_callV (pc := 12) (as := [.int r1, .int (nI 1)]) (by decide +kernel) F_MM_nextWay (in_t6 (i := 210) rfl rfl) (hF2.s (j := 78) rfl) rfl (by decide) rfl rfl (Nat.le_of_ble_eq_true rfl) (Nat.lt_succ_self _) ⟨Nat.zero_le _, Nat.zero_le _⟩ (KC_B (Con.mono h ?_))
  intro o M3 ⟨r2, e9, hF3, h⟩
  refine ⟨r2, e9, ?_⟩
  refine ex_istore_n (pc := 15) (k := 2) (lo2 := [some (.ref 78), some (.int (nI 0)), some (.int (b2i r2))]) (by decide +kernel) (by decide) rfl ?_
  exact h
theorem k_MM_can_16 {d bc bs : Nat} {l1 : Int32} {l2 : Int32} {M : Mem} {Φ : Option Value → Mem → Prop} (hF : Fm M) (h : (l2 = 0 → Φ (some (.int l1)) M) ∧ (¬ l2 = 0 → ((nI 100000) ≤ l1 → Φ (some (.int l1)) M) ∧ (¬ (nI 100000) ≤ l1 → Con d m_MM_all 0 0 [.ref 78] M (PI fun r1 M1 => Fm M1 ∧ Con d m_MM_nextWay 0 0 [.ref 78, .int r1, .int (nI 0)] M1 (PB fun r2 M2 => Fm M2 ∧ Ex (d + 1) m_MM_can bc bs 16 [some (.ref 78), some (.int (l1 + nI 1)), some (.int (b2i r2))] [] M2 Φ))))) : Ex (d + 1) m_MM_can bc bs 16 [some (.ref 78), some (.int l1), some (.int l2)] [] M Φ := by
  refine ex_iload_n (pc := 16) (k := 2) (by decide +kernel) rfl ?_
  refine ex_if_eq (pc := 17) (off := 25) (tgt := 42) (by decide +kernel) (by decide) (fun hc => ?_) (fun hc => ?_)
  · replace h := h.1 hc
    refine ex_iload_n (pc := 42) (k := 1) (by decide +kernel) rfl ?_
    exact ex_ireturn (pc := 43) (by decide +kernel) rfl rfl h
  · replace h := h.2 hc
    refine ex_iload_n (pc := 20) (k := 1) (by decide +kernel) rfl ?_
    refine ex_ldc (pc := 21) (v := nI 100000) (by decide +kernel) (in_t6 (i := 70) rfl rfl) ?_
    refine ex_icmp_ge (pc := 23) (off := 19) (tgt := 42) (by decide +kernel) (by decide) (fun hc => ?_) (fun hc => ?_)
    · replace h := h.1 hc
      refine ex_iload_n (pc := 42) (k := 1) (by decide +kernel) rfl ?_
      exact ex_ireturn (pc := 43) (by decide +kernel) rfl rfl h
    · replace h := h.2 hc
      refine ex_iinc (pc := 26) (i := 1) (k := 1) (v := l1 + nI 1) (lo2 := [some (.ref 78), some (.int (l1 + nI 1)), some (.int l2)]) (by decide +kernel) (by decide) rfl rfl rfl ?_
      refine ex_aload_n (pc := 29) (k := 0) (by decide +kernel) rfl ?_
      refine ex_aload_n (pc := 30) (k := 0) (by decide +kernel) rfl ?_
      refine ex_callV (pc := 31) (as := []) (by decide +kernel) F_MM_all (in_t6 (i := 206) rfl rfl) (hF.s (j := 78) rfl) rfl (by decide) rfl rfl (Nat.le_of_ble_eq_true rfl) (Nat.lt_succ_self _) ⟨Nat.zero_le _, Nat.zero_le _⟩ (KC_I (Con.mono h ?_))
      intro o M1 ⟨r1, e9, hF1, h⟩
      refine ⟨r1, e9, ?_⟩
      refine ex_iconst (pc := 34) (k := 0) (v := nI 0) (by decide +kernel) (by decide) ?_
      refine ex_callV (pc := 35) (as := [.int r1, .int (nI 0)]) (by decide +kernel) F_MM_nextWay (in_t6 (i := 210) rfl rfl) (hF1.s (j := 78) rfl) rfl (by decide) rfl rfl (Nat.le_of_ble_eq_true rfl) (Nat.lt_succ_self _) ⟨Nat.zero_le _, Nat.zero_le _⟩ (KC_B (Con.mono h ?_))
      intro o M2 ⟨r2, e9, hF2, h⟩
      refine ⟨r2, e9, ?_⟩
      refine ex_istore_n (pc := 38) (k := 2) (lo2 := [some (.ref 78), some (.int (l1 + nI 1)), some (.int (b2i r2))]) (by decide +kernel) (by decide) rfl ?_
      refine ex_goto (pc := 39) (off := -23) (tgt := 16) (by decide +kernel) (by decide) ?_
      exact h
theorem k_MM_dayIn_0 {d bc bs : Nat} {l0 : Int32} {M : Mem} {Φ : Option Value → Mem → Prop} (hF : Fm M) (h : Ex (d + 1) m_MM_dayIn bc bs 2 [some (.int l0), some (.int (nI 0))] [] M Φ) : Ex (d + 1) m_MM_dayIn bc bs 0 [some (.int l0), none] [] M Φ := by
  refine ex_iconst (pc := 0) (k := 0) (v := nI 0) (by decide +kernel) (by decide) ?_
  refine ex_istore_n (pc := 1) (k := 1) (lo2 := [some (.int l0), some (.int (nI 0))]) (by decide +kernel) (by decide) rfl ?_
  exact h
theorem k_MM_dayIn_2 {d bc bs : Nat} {l0 : Int32} {l1 : Int32} {M : Mem} {Φ : Option Value → Mem → Prop} (hF : Fm M) (h : ((l0 >>> (l1 &&& 31)) = (nI 1) → Φ (some (.int l1)) M) ∧ (¬ (l0 >>> (l1 &&& 31)) = (nI 1) → Ex (d + 1) m_MM_dayIn bc bs 2 [some (.int l0), some (.int (l1 + nI 1))] [] M Φ)) : Ex (d + 1) m_MM_dayIn bc bs 2 [some (.int l0), some (.int l1)] [] M Φ := by
  refine ex_iload_n (pc := 2) (k := 0) (by decide +kernel) rfl ?_
  refine ex_iload_n (pc := 3) (k := 1) (by decide +kernel) rfl ?_
  refine ex_ishr (pc := 4) (by decide +kernel) ?_
  refine ex_iconst (pc := 5) (k := 1) (v := nI 1) (by decide +kernel) (by decide) ?_
  refine ex_icmp_eq (pc := 6) (off := 9) (tgt := 15) (by decide +kernel) (by decide) (fun hc => ?_) (fun hc => ?_)
  · replace h := h.1 hc
    refine ex_iload_n (pc := 15) (k := 1) (by decide +kernel) rfl ?_
    exact ex_ireturn (pc := 16) (by decide +kernel) rfl rfl h
  · replace h := h.2 hc
    refine ex_iinc (pc := 9) (i := 1) (k := 1) (v := l1 + nI 1) (lo2 := [some (.int l0), some (.int (l1 + nI 1))]) (by decide +kernel) (by decide) rfl rfl rfl ?_
    refine ex_goto (pc := 12) (off := -10) (tgt := 2) (by decide +kernel) (by decide) ?_
    exact h
theorem k_MM_others_0 {d bc bs : Nat} {l1 : Int32} {M : Mem} {Φ : Option Value → Mem → Prop} (hF : Fm M) (h : Ex (d + 1) m_MM_others bc bs 4 [some (.ref 78), some (.int l1), some (.int (nI 0)), some (.int (nI 0))] [] M Φ) : Ex (d + 1) m_MM_others bc bs 0 [some (.ref 78), some (.int l1), none, none] [] M Φ := by
  refine ex_iconst (pc := 0) (k := 0) (v := nI 0) (by decide +kernel) (by decide) ?_
  refine ex_istore_n (pc := 1) (k := 2) (lo2 := [some (.ref 78), some (.int l1), some (.int (nI 0)), none]) (by decide +kernel) (by decide) rfl ?_
  refine ex_iconst (pc := 2) (k := 0) (v := nI 0) (by decide +kernel) (by decide) ?_
  refine ex_istore_n (pc := 3) (k := 3) (lo2 := [some (.ref 78), some (.int l1), some (.int (nI 0)), some (.int (nI 0))]) (by decide +kernel) (by decide) rfl ?_
  exact h
