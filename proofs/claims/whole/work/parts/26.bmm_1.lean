/-! printed blocks: MarketDaysModel -/
theorem k_MM_first_0 {d bc bs : Nat} {l1 : Int32} {l2 : Int32} {l3 : Int32} {l4 : Int32} {l5 : Int32} {M : Mem} {Φ : Option Value → Mem → Prop} (hF : Fm M) (h : vp_in l1 1200 ∧ vp_in (l1 + (nI 1)) 1200 ∧ vp_in (l1 + (nI 2)) 1200 ∧ vp_in (l1 + (nI 3)) 1200 ∧ Φ none (wi (wi (wi (wi M 87 l1.toNatClampNeg l2) 87 ((l1 + (nI 1)).toNatClampNeg) l3) 87 ((l1 + (nI 2)).toNatClampNeg) l4) 87 ((l1 + (nI 3)).toNatClampNeg) l5)) : Ex (d + 1) m_MM_first bc bs 0 [some (.ref 78), some (.int l1), some (.int l2), some (.int l3), some (.int l4), some (.int l5)] [] M Φ := by
  refine ex_aload_n (pc := 0) (k := 0) (by decide +kernel) rfl ?_
  refine ex_getR (pc := 1) (a := 87) (by decide +kernel) lf_MM_38 (hF.s (j := 78) rfl) (hF.r (j := 78) (k := 12) rfl rfl) ?_
  refine ex_iload_n (pc := 4) (k := 1) (by decide +kernel) rfl ?_
  refine ex_iload_n (pc := 5) (k := 2) (by decide +kernel) rfl ?_
  obtain ⟨g1, h⟩ := h
  refine ey_iast (pc := 6) (by decide +kernel) (hF.s (j := 87) rfl) g1 rfl ?_
  refine ex_aload_n (pc := 7) (k := 0) (by decide +kernel) rfl ?_
  refine ex_getR (pc := 8) (a := 87) (by decide +kernel) lf_MM_38 (hF.s (j := 78) rfl) (hF.r (j := 78) (k := 12) rfl rfl) ?_
  refine ex_iload_n (pc := 11) (k := 1) (by decide +kernel) rfl ?_
  refine ex_iconst (pc := 12) (k := 1) (v := nI 1) (by decide +kernel) (by decide) ?_
  refine ex_iadd (pc := 13) (by decide +kernel) ?_
  refine ex_iload_n (pc := 14) (k := 3) (by decide +kernel) rfl ?_
  obtain ⟨g2, h⟩ := h
  refine ey_iast (pc := 15) (by decide +kernel) (hF.s (j := 87) rfl) g2 rfl ?_
  refine ex_aload_n (pc := 16) (k := 0) (by decide +kernel) rfl ?_
  refine ex_getR (pc := 17) (a := 87) (by decide +kernel) lf_MM_38 (hF.s (j := 78) rfl) (hF.r (j := 78) (k := 12) rfl rfl) ?_
  refine ex_iload_n (pc := 20) (k := 1) (by decide +kernel) rfl ?_
  refine ex_iconst (pc := 21) (k := 2) (v := nI 2) (by decide +kernel) (by decide) ?_
  refine ex_iadd (pc := 22) (by decide +kernel) ?_
  refine ex_iload (pc := 23) (k := 4) (by decide +kernel) rfl ?_
  obtain ⟨g3, h⟩ := h
  refine ey_iast (pc := 25) (by decide +kernel) (hF.s (j := 87) rfl) g3 rfl ?_
  refine ex_aload_n (pc := 26) (k := 0) (by decide +kernel) rfl ?_
  refine ex_getR (pc := 27) (a := 87) (by decide +kernel) lf_MM_38 (hF.s (j := 78) rfl) (hF.r (j := 78) (k := 12) rfl rfl) ?_
  refine ex_iload_n (pc := 30) (k := 1) (by decide +kernel) rfl ?_
  refine ex_iconst (pc := 31) (k := 3) (v := nI 3) (by decide +kernel) (by decide) ?_
  refine ex_iadd (pc := 32) (by decide +kernel) ?_
  refine ex_iload (pc := 33) (k := 5) (by decide +kernel) rfl ?_
  obtain ⟨g4, h⟩ := h
  refine ey_iast (pc := 35) (by decide +kernel) (hF.s (j := 87) rfl) g4 rfl ?_
  exact ex_return (pc := 36) (by decide +kernel) rfl h
theorem k_MM_in_0 {d bc bs : Nat} {l0 : Int32} {l1 : Int32} {l2 : Int32} {M : Mem} {Φ : Option Value → Mem → Prop} (hF : Fm M) (h : (l0 < l1 → Φ (some (.int (b2i false))) M) ∧ (¬ l0 < l1 → (l2 < l0 → Φ (some (.int (b2i false))) M) ∧ (¬ l2 < l0 → Φ (some (.int (b2i true))) M))) : Ex (d + 1) m_MM_in bc bs 0 [some (.int l0), some (.int l1), some (.int l2)] [] M Φ := by
  refine ex_iload_n (pc := 0) (k := 0) (by decide +kernel) rfl ?_
  refine ex_iload_n (pc := 1) (k := 1) (by decide +kernel) rfl ?_
  refine ex_icmp_lt (pc := 2) (off := 12) (tgt := 14) (by decide +kernel) (by decide) (fun hc => ?_) (fun hc => ?_)
  · replace h := h.1 hc
    refine ex_iconst (pc := 14) (k := 0) (v := nI 0) (by decide +kernel) (by decide) ?_
    exact ex_ireturn (pc := 15) (v := b2i false) (by decide +kernel) rfl (b2i_n _) h
  · replace h := h.2 hc
    refine ex_iload_n (pc := 5) (k := 0) (by decide +kernel) rfl ?_
    refine ex_iload_n (pc := 6) (k := 2) (by decide +kernel) rfl ?_
    refine ex_icmp_gt (pc := 7) (off := 7) (tgt := 14) (by decide +kernel) (by decide) (fun hc => ?_) (fun hc => ?_)
    · replace h := h.1 hc
      refine ex_iconst (pc := 14) (k := 0) (v := nI 0) (by decide +kernel) (by decide) ?_
      exact ex_ireturn (pc := 15) (v := b2i false) (by decide +kernel) rfl (b2i_n _) h
    · replace h := h.2 hc
      refine ex_iconst (pc := 10) (k := 1) (v := nI 1) (by decide +kernel) (by decide) ?_
      refine ex_goto (pc := 11) (off := 4) (tgt := 15) (by decide +kernel) (by decide) ?_
      exact ex_ireturn (pc := 15) (v := b2i true) (by decide +kernel) rfl (b2i_n _) h
theorem k_MM_isTown_0 {d bc bs : Nat} {l1 : Int32} {M : Mem} {Φ : Option Value → Mem → Prop} (hF : Fm M) (h : Con d m_MM_in 0 0 [.int l1, .int (nI 0), .int ((mi M 78 0) - (nI 1))] M (PB fun r1 M1 => Fm M1 ∧ Φ (some (.int (b2i r1))) M1)) : Ex (d + 1) m_MM_isTown bc bs 0 [some (.ref 78), some (.int l1)] [] M Φ := by
  refine ex_iload_n (pc := 0) (k := 1) (by decide +kernel) rfl ?_
  refine ex_iconst (pc := 1) (k := 0) (v := nI 0) (by decide +kernel) (by decide) ?_
  refine ex_aload_n (pc := 2) (k := 0) (by decide +kernel) rfl ?_
  refine ey_getI (pc := 3) (v := mi M 78 0) (by decide +kernel) lf_MM_151 (hF.s (j := 78) rfl) rfl ?_
  refine ex_iconst (pc := 6) (k := 1) (v := nI 1) (by decide +kernel) (by decide) ?_
  refine ex_isub (pc := 7) (by decide +kernel) ?_
  refine ex_callS (pc := 8) (as := [.int l1, .int (nI 0), .int ((mi M 78 0) - (nI 1))]) (by decide +kernel) F_MM_in (in_t6 (i := 11) rfl rfl) rfl rfl (Nat.le_of_ble_eq_true rfl) (Nat.lt_succ_self _) ⟨Nat.zero_le _, Nat.zero_le _⟩ (KC_B (Con.mono h ?_))
  intro o M1 ⟨r1, e9, hF1, h⟩
  refine ⟨r1, e9, ?_⟩
  exact ex_ireturn (pc := 11) (v := b2i r1) (by decide +kernel) rfl (b2i_n _) h
theorem k_MM_isWeek_0 {d bc bs : Nat} {l0 : Int32} {M : Mem} {Φ : Option Value → Mem → Prop} (hF : Fm M) (h : Con d m_MM_in 0 0 [.int l0, .int (nI 0), .int (nI 99)] M (PB fun r1 M1 => Fm M1 ∧ Φ (some (.int (b2i r1))) M1)) : Ex (d + 1) m_MM_isWeek bc bs 0 [some (.int l0)] [] M Φ := by
  refine ex_iload_n (pc := 0) (k := 0) (by decide +kernel) rfl ?_
  refine ex_iconst (pc := 1) (k := 0) (v := nI 0) (by decide +kernel) (by decide) ?_
  refine ex_bipush (pc := 2) (k := 99) (v := nI 99) (by decide +kernel) (by decide) ?_
  refine ex_callS (pc := 4) (as := [.int l0, .int (nI 0), .int (nI 99)]) (by decide +kernel) F_MM_in (in_t6 (i := 11) rfl rfl) rfl rfl (Nat.le_of_ble_eq_true rfl) (Nat.lt_succ_self _) ⟨Nat.zero_le _, Nat.zero_le _⟩ (KC_B (Con.mono h ?_))
  intro o M1 ⟨r1, e9, hF1, h⟩
  refine ⟨r1, e9, ?_⟩
  exact ex_ireturn (pc := 7) (v := b2i r1) (by decide +kernel) rfl (b2i_n _) h
theorem k_MM_town_0 {d bc bs : Nat} {l1 : Int32} {M : Mem} {Φ : Option Value → Mem → Prop} (hF : Fm M) (h : Con d m_MM_in 0 0 [.int l1, .int (nI 0), .int (nI 99)] M (PB fun r1 M1 => Fm M1 ∧ (r1 = true → (¬ (mi M1 78 0) = (nI 6) → vp_in (mi M1 78 0) 6 ∧ vp_in (mi M1 78 0) 6 ∧ vp_in (mi M1 78 0) 6 ∧ vp_in (mi M1 78 0) 6 ∧ Φ (some (.int (((mi M1 78 0) + (nI 1)) - (nI 1)))) (wi (wi (wi (wi (wi M1 79 ((mi M1 78 0).toNatClampNeg) l1) 80 ((mi M1 78 0).toNatClampNeg) (nI 127)) 81 ((mi M1 78 0).toNatClampNeg) (-1)) 82 ((mi M1 78 0).toNatClampNeg) (-1)) 78 0 ((mi M1 78 0) + (nI 1)))) ∧ ((mi M1 78 0) = (nI 6) → Φ (some (.int (-4))) M1)) ∧ (r1 = false → Φ (some (.int (-2))) M1))) : Ex (d + 1) m_MM_town bc bs 0 [some (.ref 78), some (.int l1)] [] M Φ := by
  refine ex_iload_n (pc := 0) (k := 1) (by decide +kernel) rfl ?_
  refine ex_iconst (pc := 1) (k := 0) (v := nI 0) (by decide +kernel) (by decide) ?_
  refine ex_bipush (pc := 2) (k := 99) (v := nI 99) (by decide +kernel) (by decide) ?_
  refine ex_callS (pc := 4) (as := [.int l1, .int (nI 0), .int (nI 99)]) (by decide +kernel) F_MM_in (in_t6 (i := 11) rfl rfl) rfl rfl (Nat.le_of_ble_eq_true rfl) (Nat.lt_succ_self _) ⟨Nat.zero_le _, Nat.zero_le _⟩ (KC_B (Con.mono h ?_))
  intro o M1 ⟨r1, e9, hF1, h⟩
  refine ⟨r1, e9, ?_⟩
  refine ey_ifneB (pc := 7) (off := 6) (tgt := 13) (by decide +kernel) (by decide) (fun hc => ?_) (fun hc => ?_)
  · replace h := h.1 hc
    refine ex_aload_n (pc := 13) (k := 0) (by decide +kernel) rfl ?_
    refine ey_getI (pc := 14) (v := mi M1 78 0) (by decide +kernel) lf_MM_151 (hF1.s (j := 78) rfl) rfl ?_
    refine ex_bipush (pc := 17) (k := 6) (v := nI 6) (by decide +kernel) (by decide) ?_
    refine ex_icmp_ne (pc := 19) (off := 6) (tgt := 25) (by decide +kernel) (by decide) (fun hc => ?_) (fun hc => ?_)
    · replace h := h.1 hc
      refine ex_aload_n (pc := 25) (k := 0) (by decide +kernel) rfl ?_
      refine ex_getR (pc := 26) (a := 79) (by decide +kernel) lf_MM_7 (hF1.s (j := 78) rfl) (hF1.r (j := 78) (k := 1) rfl rfl) ?_
      refine ex_aload_n (pc := 29) (k := 0) (by decide +kernel) rfl ?_
      refine ey_getI (pc := 30) (v := mi M1 78 0) (by decide +kernel) lf_MM_151 (hF1.s (j := 78) rfl) rfl ?_
      refine ex_iload_n (pc := 33) (k := 1) (by decide +kernel) rfl ?_
      obtain ⟨g1, h⟩ := h
      refine ey_iast (pc := 34) (by decide +kernel) (hF1.s (j := 79) rfl) g1 rfl ?_
      refine ex_aload_n (pc := 35) (k := 0) (by decide +kernel) rfl ?_
      refine ex_getR (pc := 36) (a := 80) (by decide +kernel) lf_MM_13 (hF1.s (j := 78) rfl) (hF1.r (j := 78) (k := 2) rfl rfl) ?_
      refine ex_aload_n (pc := 39) (k := 0) (by decide +kernel) rfl ?_
      refine ey_getI (pc := 40) (v := mi M1 78 0) (by decide +kernel) lf_MM_151 (hF1.s (j := 78) rfl) rfl ?_
      refine ex_bipush (pc := 43) (k := 127) (v := nI 127) (by decide +kernel) (by decide) ?_
      obtain ⟨g2, h⟩ := h
      refine ey_iast (pc := 45) (by decide +kernel) (hF1.s (j := 80) rfl) g2 rfl ?_
      refine ex_aload_n (pc := 46) (k := 0) (by decide +kernel) rfl ?_
      refine ex_getR (pc := 47) (a := 81) (by decide +kernel) lf_MM_16 (hF1.s (j := 78) rfl) (hF1.r (j := 78) (k := 3) rfl rfl) ?_
      refine ex_aload_n (pc := 50) (k := 0) (by decide +kernel) rfl ?_
      refine ey_getI (pc := 51) (v := mi M1 78 0) (by decide +kernel) lf_MM_151 (hF1.s (j := 78) rfl) rfl ?_
      refine ex_iconst (pc := 54) (k := -1) (v := -1) (by decide +kernel) (by decide) ?_
      obtain ⟨g3, h⟩ := h
      refine ey_iast (pc := 55) (by decide +kernel) (hF1.s (j := 81) rfl) g3 rfl ?_
      refine ex_aload_n (pc := 56) (k := 0) (by decide +kernel) rfl ?_
      refine ex_getR (pc := 57) (a := 82) (by decide +kernel) lf_MM_19 (hF1.s (j := 78) rfl) (hF1.r (j := 78) (k := 4) rfl rfl) ?_
      refine ex_aload_n (pc := 60) (k := 0) (by decide +kernel) rfl ?_
      refine ey_getI (pc := 61) (v := mi M1 78 0) (by decide +kernel) lf_MM_151 (hF1.s (j := 78) rfl) rfl ?_
      refine ex_iconst (pc := 64) (k := -1) (v := -1) (by decide +kernel) (by decide) ?_
      obtain ⟨g4, h⟩ := h
      refine ey_iast (pc := 65) (by decide +kernel) (hF1.s (j := 82) rfl) g4 rfl ?_
      refine ex_aload_n (pc := 66) (k := 0) (by decide +kernel) rfl ?_
      refine ex_dup (pc := 67) (by decide +kernel) rfl ?_
      refine ey_getI (pc := 68) (v := mi M1 78 0) (by decide +kernel) lf_MM_151 (hF1.s (j := 78) rfl) rfl ?_
      refine ex_iconst (pc := 71) (k := 1) (v := nI 1) (by decide +kernel) (by decide) ?_
      refine ex_iadd (pc := 72) (by decide +kernel) ?_
      refine ex_putI (pc := 73) (index := 151) (ci := 11) (k := 0) (fin := false) (by decide +kernel) ⟨_, _, _, _, cf_MM, by decide, in_t5 (i := 76) rfl rfl, rfl, (fun h => by cases h), rfl, rfl⟩ rfl (fun h => by cases h) (hF1.s (j := 78) rfl) ?_
      refine ex_aload_n (pc := 76) (k := 0) (by decide +kernel) rfl ?_
      refine ey_getI (pc := 77) (v := (mi M1 78 0) + (nI 1)) (by decide +kernel) lf_MM_151 (hF1.s (j := 78) rfl) rfl ?_
      refine ex_iconst (pc := 80) (k := 1) (v := nI 1) (by decide +kernel) (by decide) ?_
      refine ex_isub (pc := 81) (by decide +kernel) ?_
      exact ex_ireturn (pc := 82) (by decide +kernel) rfl rfl h
    · replace h := h.2 hc
      refine ex_bipush (pc := 22) (k := -4) (v := -4) (by decide +kernel) (by decide) ?_
      exact ex_ireturn (pc := 24) (by decide +kernel) rfl rfl h
  · replace h := h.2 hc
    refine ex_bipush (pc := 10) (k := -2) (v := -2) (by decide +kernel) (by decide) ?_
    exact ex_ireturn (pc := 12) (by decide +kernel) rfl rfl h
theorem k_MM_road_0 {d bc bs : Nat} {l1 : Int32} {l2 : Int32} {l3 : Int32} {M : Mem} {Φ : Option Value → Mem → Prop} (hF : Fm M) (h : Con d m_MM_isTown 0 0 [.ref 78, .int l1] M (PB fun r1 M1 => Fm M1 ∧ (r1 = false → Φ (some (.int (-1))) M1) ∧ (r1 = true → Con d m_MM_isTown 0 0 [.ref 78, .int l2] M1 (PB fun r2 M2 => Fm M2 ∧ (r2 = true → (l1 = l2 → Φ (some (.int (-2))) M2) ∧ (¬ l1 = l2 → Con d m_MM_in 0 0 [.int l3, .int (nI 0), .int (nI 50)] M2 (PB fun r3 M3 => Fm M3 ∧ (r3 = true → vp_in (((nI 6) * l1) + l2) 36 ∧ vp_in (((nI 6) * l1) + l2) 36 ∧ vp_in (((nI 6) * l2) + l1) 36 ∧ Φ (some (.int (mi M3 83 ((((nI 6) * l1) + l2).toNatClampNeg)))) (wi (wi M3 83 ((((nI 6) * l1) + l2).toNatClampNeg) l3) 83 ((((nI 6) * l2) + l1).toNatClampNeg) l3)) ∧ (r3 = false → Φ (some (.int (-2))) M3)))) ∧ (r2 = false → Φ (some (.int (-1))) M2))))) : Ex (d + 1) m_MM_road bc bs 0 [some (.ref 78), some (.int l1), some (.int l2), some (.int l3), none] [] M Φ := by
  refine ex_aload_n (pc := 0) (k := 0) (by decide +kernel) rfl ?_
  refine ex_iload_n (pc := 1) (k := 1) (by decide +kernel) rfl ?_
  refine ex_callV (pc := 2) (as := [.int l1]) (by decide +kernel) F_MM_isTown (in_t6 (i := 18) rfl rfl) (hF.s (j := 78) rfl) rfl (by decide) rfl rfl (Nat.le_of_ble_eq_true rfl) (Nat.lt_succ_self _) ⟨Nat.zero_le _, Nat.zero_le _⟩ (KC_B (Con.mono h ?_))
  intro o M1 ⟨r1, e9, hF1, h⟩
  refine ⟨r1, e9, ?_⟩
  refine ey_ifeqB (pc := 5) (off := 11) (tgt := 16) (by decide +kernel) (by decide) (fun hc => ?_) (fun hc => ?_)
  · replace h := h.1 hc
    refine ex_iconst (pc := 16) (k := -1) (v := -1) (by decide +kernel) (by decide) ?_
    exact ex_ireturn (pc := 17) (by decide +kernel) rfl rfl h
  · replace h := h.2 hc
    refine ex_aload_n (pc := 8) (k := 0) (by decide +kernel) rfl ?_
    refine ex_iload_n (pc := 9) (k := 2) (by decide +kernel) rfl ?_
    refine ex_callV (pc := 10) (as := [.int l2]) (by decide +kernel) F_MM_isTown (in_t6 (i := 18) rfl rfl) (hF1.s (j := 78) rfl) rfl (by decide) rfl rfl (Nat.le_of_ble_eq_true rfl) (Nat.lt_succ_self _) ⟨Nat.zero_le _, Nat.zero_le _⟩ (KC_B (Con.mono h ?_))
    intro o M2 ⟨r2, e9, hF2, h⟩
    refine ⟨r2, e9, ?_⟩
    refine ey_ifneB (pc := 13) (off := 5) (tgt := 18) (by decide +kernel) (by decide) (fun hc => ?_) (fun hc => ?_)
    · replace h := h.1 hc
      refine ex_iload_n (pc := 18) (k := 1) (by decide +kernel) rfl ?_
      refine ex_iload_n (pc := 19) (k := 2) (by decide +kernel) rfl ?_
      refine ex_icmp_eq (pc := 20) (off := 13) (tgt := 33) (by decide +kernel) (by decide) (fun hc => ?_) (fun hc => ?_)
      · replace h := h.1 hc
        refine ex_bipush (pc := 33) (k := -2) (v := -2) (by decide +kernel) (by decide) ?_
        exact ex_ireturn (pc := 35) (by decide +kernel) rfl rfl h
      · replace h := h.2 hc
        refine ex_iload_n (pc := 23) (k := 3) (by decide +kernel) rfl ?_
        refine ex_iconst (pc := 24) (k := 0) (v := nI 0) (by decide +kernel) (by decide) ?_
        refine ex_bipush (pc := 25) (k := 50) (v := nI 50) (by decide +kernel) (by decide) ?_
        refine ex_callS (pc := 27) (as := [.int l3, .int (nI 0), .int (nI 50)]) (by decide +kernel) F_MM_in (in_t6 (i := 11) rfl rfl) rfl rfl (Nat.le_of_ble_eq_true rfl) (Nat.lt_succ_self _) ⟨Nat.zero_le _, Nat.zero_le _⟩ (KC_B (Con.mono h ?_))
        intro o M3 ⟨r3, e9, hF3, h⟩
        refine ⟨r3, e9, ?_⟩
        refine ey_ifneB (pc := 30) (off := 6) (tgt := 36) (by decide +kernel) (by decide) (fun hc => ?_) (fun hc => ?_)
        · replace h := h.1 hc
          refine ex_aload_n (pc := 36) (k := 0) (by decide +kernel) rfl ?_
          refine ex_getR (pc := 37) (a := 83) (by decide +kernel) lf_MM_22 (hF3.s (j := 78) rfl) (hF3.r (j := 78) (k := 5) rfl rfl) ?_
          refine ex_bipush (pc := 40) (k := 6) (v := nI 6) (by decide +kernel) (by decide) ?_
          refine ex_iload_n (pc := 42) (k := 1) (by decide +kernel) rfl ?_
          refine ex_imul (pc := 43) (by decide +kernel) ?_
          refine ex_iload_n (pc := 44) (k := 2) (by decide +kernel) rfl ?_
          refine ex_iadd (pc := 45) (by decide +kernel) ?_
          obtain ⟨g1, h⟩ := h
          refine ey_iald (pc := 46) (v := mi M3 83 ((((nI 6) * l1) + l2).toNatClampNeg)) (by decide +kernel) (hF3.s (j := 83) rfl) g1 rfl rfl ?_
          refine ex_istore (pc := 47) (k := 4) (lo2 := [some (.ref 78), some (.int l1), some (.int l2), some (.int l3), some (.int (mi M3 83 ((((nI 6) * l1) + l2).toNatClampNeg)))]) (by decide +kernel) (by decide) rfl ?_
          refine ex_aload_n (pc := 49) (k := 0) (by decide +kernel) rfl ?_
          refine ex_getR (pc := 50) (a := 83) (by decide +kernel) lf_MM_22 (hF3.s (j := 78) rfl) (hF3.r (j := 78) (k := 5) rfl rfl) ?_
          refine ex_bipush (pc := 53) (k := 6) (v := nI 6) (by decide +kernel) (by decide) ?_
          refine ex_iload_n (pc := 55) (k := 1) (by decide +kernel) rfl ?_
          refine ex_imul (pc := 56) (by decide +kernel) ?_
          refine ex_iload_n (pc := 57) (k := 2) (by decide +kernel) rfl ?_
          refine ex_iadd (pc := 58) (by decide +kernel) ?_
          refine ex_iload_n (pc := 59) (k := 3) (by decide +kernel) rfl ?_
          obtain ⟨g2, h⟩ := h
          refine ey_iast (pc := 60) (by decide +kernel) (hF3.s (j := 83) rfl) g2 rfl ?_
          refine ex_aload_n (pc := 61) (k := 0) (by decide +kernel) rfl ?_
          refine ex_getR (pc := 62) (a := 83) (by decide +kernel) lf_MM_22 (hF3.s (j := 78) rfl) (hF3.r (j := 78) (k := 5) rfl rfl) ?_
          refine ex_bipush (pc := 65) (k := 6) (v := nI 6) (by decide +kernel) (by decide) ?_
          refine ex_iload_n (pc := 67) (k := 2) (by decide +kernel) rfl ?_
          refine ex_imul (pc := 68) (by decide +kernel) ?_
          refine ex_iload_n (pc := 69) (k := 1) (by decide +kernel) rfl ?_
          refine ex_iadd (pc := 70) (by decide +kernel) ?_
          refine ex_iload_n (pc := 71) (k := 3) (by decide +kernel) rfl ?_
          obtain ⟨g3, h⟩ := h
          refine ey_iast (pc := 72) (by decide +kernel) (hF3.s (j := 83) rfl) g3 rfl ?_
          refine ex_iload (pc := 73) (k := 4) (by decide +kernel) rfl ?_
          exact ex_ireturn (pc := 75) (by decide +kernel) rfl rfl h
        · replace h := h.2 hc
          refine ex_bipush (pc := 33) (k := -2) (v := -2) (by decide +kernel) (by decide) ?_
          exact ex_ireturn (pc := 35) (by decide +kernel) rfl rfl h
    · replace h := h.2 hc
      refine ex_iconst (pc := 16) (k := -1) (v := -1) (by decide +kernel) (by decide) ?_
      exact ex_ireturn (pc := 17) (by decide +kernel) rfl rfl h
theorem k_MM_spreads_0 {d bc bs : Nat}  {M : Mem} {Φ : Option Value → Mem → Prop} (hF : Fm M) (h : Ex (d + 1) m_MM_spreads bc bs 2 [some (.ref 78), some (.int (nI 0)), none, none, none] [] M Φ) : Ex (d + 1) m_MM_spreads bc bs 0 [some (.ref 78), none, none, none, none] [] M Φ := by
  refine ex_iconst (pc := 0) (k := 0) (v := nI 0) (by decide +kernel) (by decide) ?_
  refine ex_istore_n (pc := 1) (k := 1) (lo2 := [some (.ref 78), some (.int (nI 0)), none, none, none]) (by decide +kernel) (by decide) rfl ?_
  exact h
theorem k_MM_spreads_2 {d bc bs : Nat} {l1 : Int32} {M : Mem} {Φ : Option Value → Mem → Prop} (hF : Fm M) (h : ((nI 36) ≤ l1 → Ex (d + 1) m_MM_spreads bc bs 53 [some (.ref 78), some (.int (nI 0)), none, none, none] [] M Φ) ∧ (¬ (nI 36) ≤ l1 → (¬ (l1 % (nI 7)) = 0 → vp_in l1 36 ∧ ((mi M 83 l1.toNatClampNeg) ≤ 0 → vp_in l1 36 ∧ Ex (d + 1) m_MM_spreads bc bs 2 [some (.ref 78), some (.int (l1 + nI 1)), none, none, none] [] (wi M 103 l1.toNatClampNeg (nI 99)) Φ) ∧ (¬ (mi M 83 l1.toNatClampNeg) ≤ 0 → vp_in l1 36 ∧ vp_in l1 36 ∧ Ex (d + 1) m_MM_spreads bc bs 2 [some (.ref 78), some (.int (l1 + nI 1)), none, none, none] [] (wi M 103 l1.toNatClampNeg (mi M 83 l1.toNatClampNeg)) Φ)) ∧ ((l1 % (nI 7)) = 0 → vp_in l1 36 ∧ Ex (d + 1) m_MM_spreads bc bs 2 [some (.ref 78), some (.int (l1 + nI 1)), none, none, none] [] (wi M 103 l1.toNatClampNeg (nI 0)) Φ))) : Ex (d + 1) m_MM_spreads bc bs 2 [some (.ref 78), some (.int l1), none, none, none] [] M Φ := by
  refine ex_iload_n (pc := 2) (k := 1) (by decide +kernel) rfl ?_
  refine ex_bipush (pc := 3) (k := 36) (v := nI 36) (by decide +kernel) (by decide) ?_
  refine ex_icmp_ge (pc := 5) (off := 46) (tgt := 51) (by decide +kernel) (by decide) (fun hc => ?_) (fun hc => ?_)
  · replace h := h.1 hc
    refine ex_iconst (pc := 51) (k := 0) (v := nI 0) (by decide +kernel) (by decide) ?_
    refine ex_istore_n (pc := 52) (k := 1) (lo2 := [some (.ref 78), some (.int (nI 0)), none, none, none]) (by decide +kernel) (by decide) rfl ?_
    exact h
  · replace h := h.2 hc
    refine ex_aload_n (pc := 8) (k := 0) (by decide +kernel) rfl ?_
    refine ex_getR (pc := 9) (a := 103) (by decide +kernel) lf_MM_89 (hF.s (j := 78) rfl) (hF.r (j := 78) (k := 39) rfl rfl) ?_
    refine ex_iload_n (pc := 12) (k := 1) (by decide +kernel) rfl ?_
    refine ex_iload_n (pc := 13) (k := 1) (by decide +kernel) rfl ?_
    refine ex_bipush (pc := 14) (k := 7) (v := nI 7) (by decide +kernel) (by decide) ?_
    refine ex_irem (pc := 16) (by decide +kernel) (by decide) ?_
    refine ex_if_ne (pc := 17) (off := 7) (tgt := 24) (by decide +kernel) (by decide) (fun hc => ?_) (fun hc => ?_)
    · replace h := h.1 hc
      refine ex_aload_n (pc := 24) (k := 0) (by decide +kernel) rfl ?_
      refine ex_getR (pc := 25) (a := 83) (by decide +kernel) lf_MM_22 (hF.s (j := 78) rfl) (hF.r (j := 78) (k := 5) rfl rfl) ?_
      refine ex_iload_n (pc := 28) (k := 1) (by decide +kernel) rfl ?_
      obtain ⟨g1, h⟩ := h
      refine ey_iald (pc := 29) (v := mi M 83 l1.toNatClampNeg) (by decide +kernel) (hF.s (j := 83) rfl) g1 rfl rfl ?_
      refine ex_if_le (pc := 30) (off := 12) (tgt := 42) (by decide +kernel) (by decide) (fun hc => ?_) (fun hc => ?_)
      · replace h := h.1 hc
        refine ex_bipush (pc := 42) (k := 99) (v := nI 99) (by decide +kernel) (by decide) ?_
        obtain ⟨g2, h⟩ := h
        refine ey_iast (pc := 44) (by decide +kernel) (hF.s (j := 103) rfl) g2 rfl ?_
        refine ex_iinc (pc := 45) (i := 1) (k := 1) (v := l1 + nI 1) (lo2 := [some (.ref 78), some (.int (l1 + nI 1)), none, none, none]) (by decide +kernel) (by decide) rfl rfl rfl ?_
        refine ex_goto (pc := 48) (off := -46) (tgt := 2) (by decide +kernel) (by decide) ?_
        exact h
      · replace h := h.2 hc
        refine ex_aload_n (pc := 33) (k := 0) (by decide +kernel) rfl ?_
        refine ex_getR (pc := 34) (a := 83) (by decide +kernel) lf_MM_22 (hF.s (j := 78) rfl) (hF.r (j := 78) (k := 5) rfl rfl) ?_
        refine ex_iload_n (pc := 37) (k := 1) (by decide +kernel) rfl ?_
        obtain ⟨g3, h⟩ := h
        refine ey_iald (pc := 38) (v := mi M 83 l1.toNatClampNeg) (by decide +kernel) (hF.s (j := 83) rfl) g3 rfl rfl ?_
        refine ex_goto (pc := 39) (off := 5) (tgt := 44) (by decide +kernel) (by decide) ?_
        obtain ⟨g4, h⟩ := h
        refine ey_iast (pc := 44) (by decide +kernel) (hF.s (j := 103) rfl) g4 rfl ?_
        refine ex_iinc (pc := 45) (i := 1) (k := 1) (v := l1 + nI 1) (lo2 := [some (.ref 78), some (.int (l1 + nI 1)), none, none, none]) (by decide +kernel) (by decide) rfl rfl rfl ?_
        refine ex_goto (pc := 48) (off := -46) (tgt := 2) (by decide +kernel) (by decide) ?_
        exact h
    · replace h := h.2 hc
      refine ex_iconst (pc := 20) (k := 0) (v := nI 0) (by decide +kernel) (by decide) ?_
      refine ex_goto (pc := 21) (off := 23) (tgt := 44) (by decide +kernel) (by decide) ?_
      obtain ⟨g5, h⟩ := h
      refine ey_iast (pc := 44) (by decide +kernel) (hF.s (j := 103) rfl) g5 rfl ?_
      refine ex_iinc (pc := 45) (i := 1) (k := 1) (v := l1 + nI 1) (lo2 := [some (.ref 78), some (.int (l1 + nI 1)), none, none, none]) (by decide +kernel) (by decide) rfl rfl rfl ?_
      refine ex_goto (pc := 48) (off := -46) (tgt := 2) (by decide +kernel) (by decide) ?_
      exact h
theorem k_MM_spreads_53 {d bc bs : Nat} {l1 : Int32} {M : Mem} {Φ : Option Value → Mem → Prop} (hF : Fm M) (h : ((mi M 78 0) ≤ l1 → Φ none M) ∧ (¬ (mi M 78 0) ≤ l1 → Ex (d + 1) m_MM_spreads bc bs 63 [some (.ref 78), some (.int l1), some (.int (nI 0)), none, none] [] M Φ)) : Ex (d + 1) m_MM_spreads bc bs 53 [some (.ref 78), some (.int l1), none, none, none] [] M Φ := by
  refine ex_iload_n (pc := 53) (k := 1) (by decide +kernel) rfl ?_
  refine ex_aload_n (pc := 54) (k := 0) (by decide +kernel) rfl ?_
  refine ey_getI (pc := 55) (v := mi M 78 0) (by decide +kernel) lf_MM_151 (hF.s (j := 78) rfl) rfl ?_
  refine ex_icmp_ge (pc := 58) (off := 109) (tgt := 167) (by decide +kernel) (by decide) (fun hc => ?_) (fun hc => ?_)
  · replace h := h.1 hc
    exact ex_return (pc := 167) (by decide +kernel) rfl h
  · replace h := h.2 hc
    refine ex_iconst (pc := 61) (k := 0) (v := nI 0) (by decide +kernel) (by decide) ?_
    refine ex_istore_n (pc := 62) (k := 2) (lo2 := [some (.ref 78), some (.int l1), some (.int (nI 0)), none, none]) (by decide +kernel) (by decide) rfl ?_
    exact h
theorem k_MM_spreads_63 {d bc bs : Nat} {l1 : Int32} {l2 : Int32} {M : Mem} {Φ : Option Value → Mem → Prop} (hF : Fm M) (h : ((mi M 78 0) ≤ l2 → Ex (d + 1) m_MM_spreads bc bs 53 [some (.ref 78), some (.int (l1 + nI 1)), none, none, none] [] M Φ) ∧ (¬ (mi M 78 0) ≤ l2 → Ex (d + 1) m_MM_spreads bc bs 73 [some (.ref 78), some (.int l1), some (.int l2), some (.int (nI 0)), none] [] M Φ)) : Ex (d + 1) m_MM_spreads bc bs 63 [some (.ref 78), some (.int l1), some (.int l2), none, none] [] M Φ := by
  refine ex_iload_n (pc := 63) (k := 2) (by decide +kernel) rfl ?_
  refine ex_aload_n (pc := 64) (k := 0) (by decide +kernel) rfl ?_
  refine ey_getI (pc := 65) (v := mi M 78 0) (by decide +kernel) lf_MM_151 (hF.s (j := 78) rfl) rfl ?_
  refine ex_icmp_ge (pc := 68) (off := 93) (tgt := 161) (by decide +kernel) (by decide) (fun hc => ?_) (fun hc => ?_)
  · replace h := h.1 hc
    refine ex_iinc (pc := 161) (i := 1) (k := 1) (v := l1 + nI 1) (lo2 := [some (.ref 78), some (.int (l1 + nI 1)), some (.int l2), none, none]) (by decide +kernel) (by decide) rfl rfl rfl ?_
    refine ex_goto (pc := 164) (off := -111) (tgt := 53) (by decide +kernel) (by decide) ?_
    exact Ex.msk [true, true, false, true, true] h
  · replace h := h.2 hc
    refine ex_iconst (pc := 71) (k := 0) (v := nI 0) (by decide +kernel) (by decide) ?_
    refine ex_istore_n (pc := 72) (k := 3) (lo2 := [some (.ref 78), some (.int l1), some (.int l2), some (.int (nI 0)), none]) (by decide +kernel) (by decide) rfl ?_
    exact h
theorem k_MM_spreads_73 {d bc bs : Nat} {l1 : Int32} {l2 : Int32} {l3 : Int32} {M : Mem} {Φ : Option Value → Mem → Prop} (hF : Fm M) (h : ((mi M 78 0) ≤ l3 → Ex (d + 1) m_MM_spreads bc bs 63 [some (.ref 78), some (.int l1), some (.int (l2 + nI 1)), none, none] [] M Φ) ∧ (¬ (mi M 78 0) ≤ l3 → vp_in (((nI 6) * l2) + l1) 36 ∧ vp_in (((nI 6) * l1) + l3) 36 ∧ vp_in (((nI 6) * l2) + l3) 36 ∧ ((mi M 103 ((((nI 6) * l2) + l3).toNatClampNeg)) ≤ ((mi M 103 ((((nI 6) * l2) + l1).toNatClampNeg)) + (mi M 103 ((((nI 6) * l1) + l3).toNatClampNeg))) → vp_in (((nI 6) * l2) + l3) 36 ∧ vp_in (((nI 6) * l2) + l3) 36 ∧ Ex (d + 1) m_MM_spreads bc bs 73 [some (.ref 78), some (.int l1), some (.int l2), some (.int (l3 + nI 1)), none] [] (wi M 103 ((((nI 6) * l2) + l3).toNatClampNeg) (mi M 103 ((((nI 6) * l2) + l3).toNatClampNeg))) Φ) ∧ (¬ (mi M 103 ((((nI 6) * l2) + l3).toNatClampNeg)) ≤ ((mi M 103 ((((nI 6) * l2) + l1).toNatClampNeg)) + (mi M 103 ((((nI 6) * l1) + l3).toNatClampNeg))) → vp_in (((nI 6) * l2) + l3) 36 ∧ Ex (d + 1) m_MM_spreads bc bs 73 [some (.ref 78), some (.int l1), some (.int l2), some (.int (l3 + nI 1)), none] [] (wi M 103 ((((nI 6) * l2) + l3).toNatClampNeg) ((mi M 103 ((((nI 6) * l2) + l1).toNatClampNeg)) + (mi M 103 ((((nI 6) * l1) + l3).toNatClampNeg)))) Φ))) : Ex (d + 1) m_MM_spreads bc bs 73 [some (.ref 78), some (.int l1), some (.int l2), some (.int l3), none] [] M Φ := by
  refine ex_iload_n (pc := 73) (k := 3) (by decide +kernel) rfl ?_
  refine ex_aload_n (pc := 74) (k := 0) (by decide +kernel) rfl ?_
  refine ey_getI (pc := 75) (v := mi M 78 0) (by decide +kernel) lf_MM_151 (hF.s (j := 78) rfl) rfl ?_
  refine ex_icmp_ge (pc := 78) (off := 77) (tgt := 155) (by decide +kernel) (by decide) (fun hc => ?_) (fun hc => ?_)
  · replace h := h.1 hc
    refine ex_iinc (pc := 155) (i := 2) (k := 1) (v := l2 + nI 1) (lo2 := [some (.ref 78), some (.int l1), some (.int (l2 + nI 1)), some (.int l3), none]) (by decide +kernel) (by decide) rfl rfl rfl ?_
    refine ex_goto (pc := 158) (off := -95) (tgt := 63) (by decide +kernel) (by decide) ?_
    exact Ex.msk [true, true, true, false, true] h
  · replace h := h.2 hc
    refine ex_aload_n (pc := 81) (k := 0) (by decide +kernel) rfl ?_
    refine ex_getR (pc := 82) (a := 103) (by decide +kernel) lf_MM_89 (hF.s (j := 78) rfl) (hF.r (j := 78) (k := 39) rfl rfl) ?_
    refine ex_bipush (pc := 85) (k := 6) (v := nI 6) (by decide +kernel) (by decide) ?_
    refine ex_iload_n (pc := 87) (k := 2) (by decide +kernel) rfl ?_
    refine ex_imul (pc := 88) (by decide +kernel) ?_
    refine ex_iload_n (pc := 89) (k := 1) (by decide +kernel) rfl ?_
    refine ex_iadd (pc := 90) (by decide +kernel) ?_
    obtain ⟨g1, h⟩ := h
    refine ey_iald (pc := 91) (v := mi M 103 ((((nI 6) * l2) + l1).toNatClampNeg)) (by decide +kernel) (hF.s (j := 103) rfl) g1 rfl rfl ?_
    refine ex_aload_n (pc := 92) (k := 0) (by decide +kernel) rfl ?_
    refine ex_getR (pc := 93) (a := 103) (by decide +kernel) lf_MM_89 (hF.s (j := 78) rfl) (hF.r (j := 78) (k := 39) rfl rfl) ?_
    refine ex_bipush (pc := 96) (k := 6) (v := nI 6) (by decide +kernel) (by decide) ?_
    refine ex_iload_n (pc := 98) (k := 1) (by decide +kernel) rfl ?_
    refine ex_imul (pc := 99) (by decide +kernel) ?_
    refine ex_iload_n (pc := 100) (k := 3) (by decide +kernel) rfl ?_
    refine ex_iadd (pc := 101) (by decide +kernel) ?_
    obtain ⟨g2, h⟩ := h
    refine ey_iald (pc := 102) (v := mi M 103 ((((nI 6) * l1) + l3).toNatClampNeg)) (by decide +kernel) (hF.s (j := 103) rfl) g2 rfl rfl ?_
    refine ex_iadd (pc := 103) (by decide +kernel) ?_
    refine ex_istore (pc := 104) (k := 4) (lo2 := [some (.ref 78), some (.int l1), some (.int l2), some (.int l3), some (.int ((mi M 103 ((((nI 6) * l2) + l1).toNatClampNeg)) + (mi M 103 ((((nI 6) * l1) + l3).toNatClampNeg))))]) (by decide +kernel) (by decide) rfl ?_
    refine ex_aload_n (pc := 106) (k := 0) (by decide +kernel) rfl ?_
    refine ex_getR (pc := 107) (a := 103) (by decide +kernel) lf_MM_89 (hF.s (j := 78) rfl) (hF.r (j := 78) (k := 39) rfl rfl) ?_
    refine ex_bipush (pc := 110) (k := 6) (v := nI 6) (by decide +kernel) (by decide) ?_
    refine ex_iload_n (pc := 112) (k := 2) (by decide +kernel) rfl ?_
    refine ex_imul (pc := 113) (by decide +kernel) ?_
    refine ex_iload_n (pc := 114) (k := 3) (by decide +kernel) rfl ?_
    refine ex_iadd (pc := 115) (by decide +kernel) ?_
    refine ex_iload (pc := 116) (k := 4) (by decide +kernel) rfl ?_
    refine ex_aload_n (pc := 118) (k := 0) (by decide +kernel) rfl ?_
    refine ex_getR (pc := 119) (a := 103) (by decide +kernel) lf_MM_89 (hF.s (j := 78) rfl) (hF.r (j := 78) (k := 39) rfl rfl) ?_
    refine ex_bipush (pc := 122) (k := 6) (v := nI 6) (by decide +kernel) (by decide) ?_
    refine ex_iload_n (pc := 124) (k := 2) (by decide +kernel) rfl ?_
    refine ex_imul (pc := 125) (by decide +kernel) ?_
    refine ex_iload_n (pc := 126) (k := 3) (by decide +kernel) rfl ?_
    refine ex_iadd (pc := 127) (by decide +kernel) ?_
    obtain ⟨g3, h⟩ := h
    refine ey_iald (pc := 128) (v := mi M 103 ((((nI 6) * l2) + l3).toNatClampNeg)) (by decide +kernel) (hF.s (j := 103) rfl) g3 rfl rfl ?_
    refine ex_icmp_ge (pc := 129) (off := 8) (tgt := 137) (by decide +kernel) (by decide) (fun hc => ?_) (fun hc => ?_)
    · replace h := h.1 hc
      refine ex_aload_n (pc := 137) (k := 0) (by decide +kernel) rfl ?_
      refine ex_getR (pc := 138) (a := 103) (by decide +kernel) lf_MM_89 (hF.s (j := 78) rfl) (hF.r (j := 78) (k := 39) rfl rfl) ?_
      refine ex_bipush (pc := 141) (k := 6) (v := nI 6) (by decide +kernel) (by decide) ?_
      refine ex_iload_n (pc := 143) (k := 2) (by decide +kernel) rfl ?_
      refine ex_imul (pc := 144) (by decide +kernel) ?_
      refine ex_iload_n (pc := 145) (k := 3) (by decide +kernel) rfl ?_
      refine ex_iadd (pc := 146) (by decide +kernel) ?_
      obtain ⟨g4, h⟩ := h
      refine ey_iald (pc := 147) (v := mi M 103 ((((nI 6) * l2) + l3).toNatClampNeg)) (by decide +kernel) (hF.s (j := 103) rfl) g4 rfl rfl ?_
      obtain ⟨g5, h⟩ := h
      refine ey_iast (pc := 148) (by decide +kernel) (hF.s (j := 103) rfl) g5 rfl ?_
      refine ex_iinc (pc := 149) (i := 3) (k := 1) (v := l3 + nI 1) (lo2 := [some (.ref 78), some (.int l1), some (.int l2), some (.int (l3 + nI 1)), some (.int ((mi M 103 ((((nI 6) * l2) + l1).toNatClampNeg)) + (mi M 103 ((((nI 6) * l1) + l3).toNatClampNeg))))]) (by decide +kernel) (by decide) rfl rfl rfl ?_
      refine ex_goto (pc := 152) (off := -79) (tgt := 73) (by decide +kernel) (by decide) ?_
      exact Ex.msk [true, true, true, true, false] h
    · replace h := h.2 hc
      refine ex_iload (pc := 132) (k := 4) (by decide +kernel) rfl ?_
      refine ex_goto (pc := 134) (off := 14) (tgt := 148) (by decide +kernel) (by decide) ?_
      obtain ⟨g6, h⟩ := h
      refine ey_iast (pc := 148) (by decide +kernel) (hF.s (j := 103) rfl) g6 rfl ?_
      refine ex_iinc (pc := 149) (i := 3) (k := 1) (v := l3 + nI 1) (lo2 := [some (.ref 78), some (.int l1), some (.int l2), some (.int (l3 + nI 1)), some (.int ((mi M 103 ((((nI 6) * l2) + l1).toNatClampNeg)) + (mi M 103 ((((nI 6) * l1) + l3).toNatClampNeg))))]) (by decide +kernel) (by decide) rfl rfl rfl ?_
      refine ex_goto (pc := 152) (off := -79) (tgt := 73) (by decide +kernel) (by decide) ?_
      exact Ex.msk [true, true, true, true, false] h
theorem k_MM_hours_0 {d bc bs : Nat} {l1 : Int32} {l2 : Int32} {M : Mem} {Φ : Option Value → Mem → Prop} (hF : Fm M) (h : Con d m_MM_isTown 0 0 [.ref 78, .int l1] M (PB fun r1 M1 => Fm M1 ∧ (r1 = false → Φ (some (.int (-1))) M1) ∧ (r1 = true → Con d m_MM_isTown 0 0 [.ref 78, .int l2] M1 (PB fun r2 M2 => Fm M2 ∧ (r2 = true → Con d m_MM_spreads 0 0 [.ref 78] M2 (PV fun M3 => Fm M3 ∧ vp_in (((nI 6) * l1) + l2) 36 ∧ Φ (some (.int (mi M3 103 ((((nI 6) * l1) + l2).toNatClampNeg)))) M3)) ∧ (r2 = false → Φ (some (.int (-1))) M2))))) : Ex (d + 1) m_MM_hours bc bs 0 [some (.ref 78), some (.int l1), some (.int l2)] [] M Φ := by
  refine ex_aload_n (pc := 0) (k := 0) (by decide +kernel) rfl ?_
  refine ex_iload_n (pc := 1) (k := 1) (by decide +kernel) rfl ?_
  refine ex_callV (pc := 2) (as := [.int l1]) (by decide +kernel) F_MM_isTown (in_t6 (i := 18) rfl rfl) (hF.s (j := 78) rfl) rfl (by decide) rfl rfl (Nat.le_of_ble_eq_true rfl) (Nat.lt_succ_self _) ⟨Nat.zero_le _, Nat.zero_le _⟩ (KC_B (Con.mono h ?_))
  intro o M1 ⟨r1, e9, hF1, h⟩
  refine ⟨r1, e9, ?_⟩
  refine ey_ifeqB (pc := 5) (off := 11) (tgt := 16) (by decide +kernel) (by decide) (fun hc => ?_) (fun hc => ?_)
  · replace h := h.1 hc
    refine ex_iconst (pc := 16) (k := -1) (v := -1) (by decide +kernel) (by decide) ?_
    exact ex_ireturn (pc := 17) (by decide +kernel) rfl rfl h
  · replace h := h.2 hc
    refine ex_aload_n (pc := 8) (k := 0) (by decide +kernel) rfl ?_
    refine ex_iload_n (pc := 9) (k := 2) (by decide +kernel) rfl ?_
    refine ex_callV (pc := 10) (as := [.int l2]) (by decide +kernel) F_MM_isTown (in_t6 (i := 18) rfl rfl) (hF1.s (j := 78) rfl) rfl (by decide) rfl rfl (Nat.le_of_ble_eq_true rfl) (Nat.lt_succ_self _) ⟨Nat.zero_le _, Nat.zero_le _⟩ (KC_B (Con.mono h ?_))
    intro o M2 ⟨r2, e9, hF2, h⟩
    refine ⟨r2, e9, ?_⟩
    refine ey_ifneB (pc := 13) (off := 5) (tgt := 18) (by decide +kernel) (by decide) (fun hc => ?_) (fun hc => ?_)
    · replace h := h.1 hc
      refine ex_aload_n (pc := 18) (k := 0) (by decide +kernel) rfl ?_
      refine ex_callV (pc := 19) (as := []) (by decide +kernel) F_MM_spreads (in_t6 (i := 26) rfl rfl) (hF2.s (j := 78) rfl) rfl (by decide) rfl rfl (Nat.le_of_ble_eq_true rfl) (Nat.lt_succ_self _) ⟨Nat.zero_le _, Nat.zero_le _⟩ (KC_V (Con.mono h ?_))
      intro o M3 ⟨e9, hF3, h⟩
      refine ⟨e9, ?_⟩
      refine ex_aload_n (pc := 22) (k := 0) (by decide +kernel) rfl ?_
      refine ex_getR (pc := 23) (a := 103) (by decide +kernel) lf_MM_89 (hF3.s (j := 78) rfl) (hF3.r (j := 78) (k := 39) rfl rfl) ?_
      refine ex_bipush (pc := 26) (k := 6) (v := nI 6) (by decide +kernel) (by decide) ?_
      refine ex_iload_n (pc := 28) (k := 1) (by decide +kernel) rfl ?_
      refine ex_imul (pc := 29) (by decide +kernel) ?_
      refine ex_iload_n (pc := 30) (k := 2) (by decide +kernel) rfl ?_
      refine ex_iadd (pc := 31) (by decide +kernel) ?_
      obtain ⟨g1, h⟩ := h
      refine ey_iald (pc := 32) (v := mi M3 103 ((((nI 6) * l1) + l2).toNatClampNeg)) (by decide +kernel) (hF3.s (j := 103) rfl) g1 rfl rfl ?_
      exact ex_ireturn (pc := 33) (by decide +kernel) rfl rfl h
    · replace h := h.2 hc
      refine ex_iconst (pc := 16) (k := -1) (v := -1) (by decide +kernel) (by decide) ?_
      exact ex_ireturn (pc := 17) (by decide +kernel) rfl rfl h
theorem k_MM_week_0 {d bc bs : Nat} {l1 : Int32} {M : Mem} {Φ : Option Value → Mem → Prop} (hF : Fm M) (h : Con d m_MM_in 0 0 [.int l1, .int (nI 2), .int (nI 7)] M (PB fun r1 M1 => Fm M1 ∧ (r1 = true → Φ (some (.int (mi M1 78 6))) (wi M1 78 6 l1)) ∧ (r1 = false → Φ (some (.int (-2))) M1))) : Ex (d + 1) m_MM_week bc bs 0 [some (.ref 78), some (.int l1), none] [] M Φ := by
  refine ex_iload_n (pc := 0) (k := 1) (by decide +kernel) rfl ?_
  refine ex_iconst (pc := 1) (k := 2) (v := nI 2) (by decide +kernel) (by decide) ?_
  refine ex_bipush (pc := 2) (k := 7) (v := nI 7) (by decide +kernel) (by decide) ?_
  refine ex_callS (pc := 4) (as := [.int l1, .int (nI 2), .int (nI 7)]) (by decide +kernel) F_MM_in (in_t6 (i := 11) rfl rfl) rfl rfl (Nat.le_of_ble_eq_true rfl) (Nat.lt_succ_self _) ⟨Nat.zero_le _, Nat.zero_le _⟩ (KC_B (Con.mono h ?_))
  intro o M1 ⟨r1, e9, hF1, h⟩
  refine ⟨r1, e9, ?_⟩
  refine ey_ifneB (pc := 7) (off := 6) (tgt := 13) (by decide +kernel) (by decide) (fun hc => ?_) (fun hc => ?_)
  · replace h := h.1 hc
    refine ex_aload_n (pc := 13) (k := 0) (by decide +kernel) rfl ?_
    refine ey_getI (pc := 14) (v := mi M1 78 6) (by decide +kernel) lf_MM_25 (hF1.s (j := 78) rfl) rfl ?_
    refine ex_istore_n (pc := 17) (k := 2) (lo2 := [some (.ref 78), some (.int l1), some (.int (mi M1 78 6))]) (by decide +kernel) (by decide) rfl ?_
    refine ex_aload_n (pc := 18) (k := 0) (by decide +kernel) rfl ?_
    refine ex_iload_n (pc := 19) (k := 1) (by decide +kernel) rfl ?_
    refine ex_putI (pc := 20) (index := 25) (ci := 11) (k := 6) (fin := false) (by decide +kernel) ⟨_, _, _, _, cf_MM, by decide, in_t5 (i := 82) rfl rfl, rfl, (fun h => by cases h), rfl, rfl⟩ rfl (fun h => by cases h) (hF1.s (j := 78) rfl) ?_
    refine ex_iload_n (pc := 23) (k := 2) (by decide +kernel) rfl ?_
    exact ex_ireturn (pc := 24) (by decide +kernel) rfl rfl h
  · replace h := h.2 hc
    refine ex_bipush (pc := 10) (k := -2) (v := -2) (by decide +kernel) (by decide) ?_
    exact ex_ireturn (pc := 12) (by decide +kernel) rfl rfl h
theorem k_MM_want_0 {d bc bs : Nat} {l1 : Int32} {l2 : Int32} {l3 : Int32} {M : Mem} {Φ : Option Value → Mem → Prop} (hF : Fm M) (h : Con d m_MM_isTown 0 0 [.ref 78, .int l1] M (PB fun r1 M1 => Fm M1 ∧ (r1 = true → (¬ l2 = 0 → (¬ l2 = (nI 1) → (¬ l2 = (nI 2) → Ex (d + 1) m_MM_want bc bs 68 [some (.ref 78), some (.int l1), some (.int l2), some (.int l3), none, none] [] M1 Φ) ∧ (l2 = (nI 2) → (l3 = l1 → Ex (d + 1) m_MM_want bc bs 68 [some (.ref 78), some (.int l1), some (.int l2), some (.int l3), none, none] [] M1 Φ) ∧ (¬ l3 = l1 → Con d m_MM_in 0 0 [.int l3, .int (-1), .int ((mi M1 78 0) - (nI 1))] M1 (PB fun r2 M2 => Fm M2 ∧ (r2 = false → Ex (d + 1) m_MM_want bc bs 68 [some (.ref 78), some (.int l1), some (.int l2), some (.int l3), none, none] [] M2 Φ) ∧ (r2 = true → (¬ (nI 1) = 0 → (¬ l2 = 0 → (¬ l2 = (nI 1) → vp_in l1 6 ∧ (¬ l2 = 0 → (¬ l2 = (nI 1) → vp_in l1 6 ∧ Φ (some (.int (mi M2 82 l1.toNatClampNeg))) (wi M2 82 l1.toNatClampNeg l3)) ∧ (l2 = (nI 1) → vp_in l1 6 ∧ Φ (some (.int (mi M2 82 l1.toNatClampNeg))) (wi M2 81 l1.toNatClampNeg l3))) ∧ (l2 = 0 → vp_in l1 6 ∧ Φ (some (.int (mi M2 82 l1.toNatClampNeg))) (wi M2 80 l1.toNatClampNeg l3))) ∧ (l2 = (nI 1) → vp_in l1 6 ∧ (¬ l2 = 0 → (¬ l2 = (nI 1) → vp_in l1 6 ∧ Φ (some (.int (mi M2 81 l1.toNatClampNeg))) (wi M2 82 l1.toNatClampNeg l3)) ∧ (l2 = (nI 1) → vp_in l1 6 ∧ Φ (some (.int (mi M2 81 l1.toNatClampNeg))) (wi M2 81 l1.toNatClampNeg l3))) ∧ (l2 = 0 → vp_in l1 6 ∧ Φ (some (.int (mi M2 81 l1.toNatClampNeg))) (wi M2 80 l1.toNatClampNeg l3)))) ∧ (l2 = 0 → vp_in l1 6 ∧ (¬ l2 = 0 → (¬ l2 = (nI 1) → vp_in l1 6 ∧ Φ (some (.int (mi M2 80 l1.toNatClampNeg))) (wi M2 82 l1.toNatClampNeg l3)) ∧ (l2 = (nI 1) → vp_in l1 6 ∧ Φ (some (.int (mi M2 80 l1.toNatClampNeg))) (wi M2 81 l1.toNatClampNeg l3))) ∧ (l2 = 0 → vp_in l1 6 ∧ Φ (some (.int (mi M2 80 l1.toNatClampNeg))) (wi M2 80 l1.toNatClampNeg l3)))) ∧ ((nI 1) = 0 → Φ (some (.int (-7))) M2)))))) ∧ (l2 = (nI 1) → Con d m_MM_in 0 0 [.int l3, .int (-1), .int (nI 6)] M1 (PB fun r3 M3 => Fm M3 ∧ (r3 = true → (¬ l2 = 0 → (¬ l2 = (nI 1) → vp_in l1 6 ∧ (¬ l2 = 0 → (¬ l2 = (nI 1) → vp_in l1 6 ∧ Φ (some (.int (mi M3 82 l1.toNatClampNeg))) (wi M3 82 l1.toNatClampNeg l3)) ∧ (l2 = (nI 1) → vp_in l1 6 ∧ Φ (some (.int (mi M3 82 l1.toNatClampNeg))) (wi M3 81 l1.toNatClampNeg l3))) ∧ (l2 = 0 → vp_in l1 6 ∧ Φ (some (.int (mi M3 82 l1.toNatClampNeg))) (wi M3 80 l1.toNatClampNeg l3))) ∧ (l2 = (nI 1) → vp_in l1 6 ∧ (¬ l2 = 0 → (¬ l2 = (nI 1) → vp_in l1 6 ∧ Φ (some (.int (mi M3 81 l1.toNatClampNeg))) (wi M3 82 l1.toNatClampNeg l3)) ∧ (l2 = (nI 1) → vp_in l1 6 ∧ Φ (some (.int (mi M3 81 l1.toNatClampNeg))) (wi M3 81 l1.toNatClampNeg l3))) ∧ (l2 = 0 → vp_in l1 6 ∧ Φ (some (.int (mi M3 81 l1.toNatClampNeg))) (wi M3 80 l1.toNatClampNeg l3)))) ∧ (l2 = 0 → vp_in l1 6 ∧ (¬ l2 = 0 → (¬ l2 = (nI 1) → vp_in l1 6 ∧ Φ (some (.int (mi M3 80 l1.toNatClampNeg))) (wi M3 82 l1.toNatClampNeg l3)) ∧ (l2 = (nI 1) → vp_in l1 6 ∧ Φ (some (.int (mi M3 80 l1.toNatClampNeg))) (wi M3 81 l1.toNatClampNeg l3))) ∧ (l2 = 0 → vp_in l1 6 ∧ Φ (some (.int (mi M3 80 l1.toNatClampNeg))) (wi M3 80 l1.toNatClampNeg l3)))) ∧ (r3 = false → Φ (some (.int (-7))) M3)))) ∧ (l2 = 0 → Con d m_MM_in 0 0 [.int l3, .int (nI 0), .int (nI 127)] M1 (PB fun r4 M4 => Fm M4 ∧ (r4 = true → (¬ l2 = 0 → (¬ l2 = (nI 1) → vp_in l1 6 ∧ (¬ l2 = 0 → (¬ l2 = (nI 1) → vp_in l1 6 ∧ Φ (some (.int (mi M4 82 l1.toNatClampNeg))) (wi M4 82 l1.toNatClampNeg l3)) ∧ (l2 = (nI 1) → vp_in l1 6 ∧ Φ (some (.int (mi M4 82 l1.toNatClampNeg))) (wi M4 81 l1.toNatClampNeg l3))) ∧ (l2 = 0 → vp_in l1 6 ∧ Φ (some (.int (mi M4 82 l1.toNatClampNeg))) (wi M4 80 l1.toNatClampNeg l3))) ∧ (l2 = (nI 1) → vp_in l1 6 ∧ (¬ l2 = 0 → (¬ l2 = (nI 1) → vp_in l1 6 ∧ Φ (some (.int (mi M4 81 l1.toNatClampNeg))) (wi M4 82 l1.toNatClampNeg l3)) ∧ (l2 = (nI 1) → vp_in l1 6 ∧ Φ (some (.int (mi M4 81 l1.toNatClampNeg))) (wi M4 81 l1.toNatClampNeg l3))) ∧ (l2 = 0 → vp_in l1 6 ∧ Φ (some (.int (mi M4 81 l1.toNatClampNeg))) (wi M4 80 l1.toNatClampNeg l3)))) ∧ (l2 = 0 → vp_in l1 6 ∧ (¬ l2 = 0 → (¬ l2 = (nI 1) → vp_in l1 6 ∧ Φ (some (.int (mi M4 80 l1.toNatClampNeg))) (wi M4 82 l1.toNatClampNeg l3)) ∧ (l2 = (nI 1) → vp_in l1 6 ∧ Φ (some (.int (mi M4 80 l1.toNatClampNeg))) (wi M4 81 l1.toNatClampNeg l3))) ∧ (l2 = 0 → vp_in l1 6 ∧ Φ (some (.int (mi M4 80 l1.toNatClampNeg))) (wi M4 80 l1.toNatClampNeg l3)))) ∧ (r4 = false → Φ (some (.int (-7))) M4)))) ∧ (r1 = false → Φ (some (.int (-5))) M1))) : Ex (d + 1) m_MM_want bc bs 0 [some (.ref 78), some (.int l1), some (.int l2), some (.int l3), none, none] [] M Φ := by
  refine ex_aload_n (pc := 0) (k := 0) (by decide +kernel) rfl ?_
  refine ex_iload_n (pc := 1) (k := 1) (by decide +kernel) rfl ?_
  refine ex_callV (pc := 2) (as := [.int l1]) (by decide +kernel) F_MM_isTown (in_t6 (i := 18) rfl rfl) (hF.s (j := 78) rfl) rfl (by decide) rfl rfl (Nat.le_of_ble_eq_true rfl) (Nat.lt_succ_self _) ⟨Nat.zero_le _, Nat.zero_le _⟩ (KC_B (Con.mono h ?_))
  intro o M1 ⟨r1, e9, hF1, h⟩
  refine ⟨r1, e9, ?_⟩
  refine ey_ifneB (pc := 5) (off := 6) (tgt := 11) (by decide +kernel) (by decide) (fun hc => ?_) (fun hc => ?_)
  · replace h := h.1 hc
    refine ex_iload_n (pc := 11) (k := 2) (by decide +kernel) rfl ?_
    refine ex_if_ne (pc := 12) (off := 13) (tgt := 25) (by decide +kernel) (by decide) (fun hc => ?_) (fun hc => ?_)
    · replace h := h.1 hc
      refine ex_iload_n (pc := 25) (k := 2) (by decide +kernel) rfl ?_
      refine ex_iconst (pc := 26) (k := 1) (v := nI 1) (by decide +kernel) (by decide) ?_
      refine ex_icmp_ne (pc := 27) (off := 13) (tgt := 40) (by decide +kernel) (by decide) (fun hc => ?_) (fun hc => ?_)
      · replace h := h.1 hc
        refine ex_iload_n (pc := 40) (k := 2) (by decide +kernel) rfl ?_
        refine ex_iconst (pc := 41) (k := 2) (v := nI 2) (by decide +kernel) (by decide) ?_
        refine ex_icmp_ne (pc := 42) (off := 26) (tgt := 68) (by decide +kernel) (by decide) (fun hc => ?_) (fun hc => ?_)
        · replace h := h.1 hc
          exact h
        · replace h := h.2 hc
          refine ex_iload_n (pc := 45) (k := 3) (by decide +kernel) rfl ?_
          refine ex_iload_n (pc := 46) (k := 1) (by decide +kernel) rfl ?_
          refine ex_icmp_eq (pc := 47) (off := 21) (tgt := 68) (by decide +kernel) (by decide) (fun hc => ?_) (fun hc => ?_)
          · replace h := h.1 hc
            exact h
          · replace h := h.2 hc
            refine ex_iload_n (pc := 50) (k := 3) (by decide +kernel) rfl ?_
            refine ex_iconst (pc := 51) (k := -1) (v := -1) (by decide +kernel) (by decide) ?_
            refine ex_aload_n (pc := 52) (k := 0) (by decide +kernel) rfl ?_
            refine ey_getI (pc := 53) (v := mi M1 78 0) (by decide +kernel) lf_MM_151 (hF1.s (j := 78) rfl) rfl ?_
            refine ex_iconst (pc := 56) (k := 1) (v := nI 1) (by decide +kernel) (by decide) ?_
            refine ex_isub (pc := 57) (by decide +kernel) ?_
            refine ex_callS (pc := 58) (as := [.int l3, .int (-1), .int ((mi M1 78 0) - (nI 1))]) (by decide +kernel) F_MM_in (in_t6 (i := 11) rfl rfl) rfl rfl (Nat.le_of_ble_eq_true rfl) (Nat.lt_succ_self _) ⟨Nat.zero_le _, Nat.zero_le _⟩ (KC_B (Con.mono h ?_))
            intro o M2 ⟨r2, e9, hF2, h⟩
            refine ⟨r2, e9, ?_⟩
            refine ey_ifeqB (pc := 61) (off := 7) (tgt := 68) (by decide +kernel) (by decide) (fun hc => ?_) (fun hc => ?_)
            · replace h := h.1 hc
              exact h
            · replace h := h.2 hc
              refine ex_iconst (pc := 64) (k := 1) (v := nI 1) (by decide +kernel) (by decide) ?_
              refine ex_goto (pc := 65) (off := 4) (tgt := 69) (by decide +kernel) (by decide) ?_
              refine ex_istore (pc := 69) (k := 4) (lo2 := [some (.ref 78), some (.int l1), some (.int l2), some (.int l3), some (.int (nI 1)), none]) (by decide +kernel) (by decide) rfl ?_
              refine ex_iload (pc := 71) (k := 4) (by decide +kernel) rfl ?_
              refine ex_if_ne (pc := 73) (off := 6) (tgt := 79) (by decide +kernel) (by decide) (fun hc => ?_) (fun hc => ?_)
              · replace h := h.1 hc
                refine ex_iload_n (pc := 79) (k := 2) (by decide +kernel) rfl ?_
                refine ex_if_ne (pc := 80) (off := 12) (tgt := 92) (by decide +kernel) (by decide) (fun hc => ?_) (fun hc => ?_)
                · replace h := h.1 hc
                  refine ex_iload_n (pc := 92) (k := 2) (by decide +kernel) rfl ?_
                  refine ex_iconst (pc := 93) (k := 1) (v := nI 1) (by decide +kernel) (by decide) ?_
                  refine ex_icmp_ne (pc := 94) (off := 12) (tgt := 106) (by decide +kernel) (by decide) (fun hc => ?_) (fun hc => ?_)
                  · replace h := h.1 hc
                    refine ex_aload_n (pc := 106) (k := 0) (by decide +kernel) rfl ?_
                    refine ex_getR (pc := 107) (a := 82) (by decide +kernel) lf_MM_19 (hF2.s (j := 78) rfl) (hF2.r (j := 78) (k := 4) rfl rfl) ?_
                    refine ex_iload_n (pc := 110) (k := 1) (by decide +kernel) rfl ?_
                    obtain ⟨g1, h⟩ := h
                    refine ey_iald (pc := 111) (v := mi M2 82 l1.toNatClampNeg) (by decide +kernel) (hF2.s (j := 82) rfl) g1 rfl rfl ?_
                    refine ex_istore (pc := 112) (k := 5) (lo2 := [some (.ref 78), some (.int l1), some (.int l2), some (.int l3), some (.int (nI 1)), some (.int (mi M2 82 l1.toNatClampNeg))]) (by decide +kernel) (by decide) rfl ?_
                    refine ex_iload_n (pc := 114) (k := 2) (by decide +kernel) rfl ?_
                    refine ex_if_ne (pc := 115) (off := 13) (tgt := 128) (by decide +kernel) (by decide) (fun hc => ?_) (fun hc => ?_)
                    · replace h := h.1 hc
                      refine ex_iload_n (pc := 128) (k := 2) (by decide +kernel) rfl ?_
                      refine ex_iconst (pc := 129) (k := 1) (v := nI 1) (by decide +kernel) (by decide) ?_
                      refine ex_icmp_ne (pc := 130) (off := 13) (tgt := 143) (by decide +kernel) (by decide) (fun hc => ?_) (fun hc => ?_)
                      · replace h := h.1 hc
                        refine ex_aload_n (pc := 143) (k := 0) (by decide +kernel) rfl ?_
                        refine ex_getR (pc := 144) (a := 82) (by decide +kernel) lf_MM_19 (hF2.s (j := 78) rfl) (hF2.r (j := 78) (k := 4) rfl rfl) ?_
                        refine ex_iload_n (pc := 147) (k := 1) (by decide +kernel) rfl ?_
                        refine ex_iload_n (pc := 148) (k := 3) (by decide +kernel) rfl ?_
                        obtain ⟨g2, h⟩ := h
                        refine ey_iast (pc := 149) (by decide +kernel) (hF2.s (j := 82) rfl) g2 rfl ?_
                        refine ex_iload (pc := 150) (k := 5) (by decide +kernel) rfl ?_
                        exact ex_ireturn (pc := 152) (by decide +kernel) rfl rfl h
                      · replace h := h.2 hc
                        refine ex_aload_n (pc := 133) (k := 0) (by decide +kernel) rfl ?_
                        refine ex_getR (pc := 134) (a := 81) (by decide +kernel) lf_MM_16 (hF2.s (j := 78) rfl) (hF2.r (j := 78) (k := 3) rfl rfl) ?_
                        refine ex_iload_n (pc := 137) (k := 1) (by decide +kernel) rfl ?_
                        refine ex_iload_n (pc := 138) (k := 3) (by decide +kernel) rfl ?_
                        obtain ⟨g3, h⟩ := h
                        refine ey_iast (pc := 139) (by decide +kernel) (hF2.s (j := 81) rfl) g3 rfl ?_
                        refine ex_goto (pc := 140) (off := 10) (tgt := 150) (by decide +kernel) (by decide) ?_
                        refine ex_iload (pc := 150) (k := 5) (by decide +kernel) rfl ?_
                        exact ex_ireturn (pc := 152) (by decide +kernel) rfl rfl h
                    · replace h := h.2 hc
                      refine ex_aload_n (pc := 118) (k := 0) (by decide +kernel) rfl ?_
                      refine ex_getR (pc := 119) (a := 80) (by decide +kernel) lf_MM_13 (hF2.s (j := 78) rfl) (hF2.r (j := 78) (k := 2) rfl rfl) ?_
                      refine ex_iload_n (pc := 122) (k := 1) (by decide +kernel) rfl ?_
                      refine ex_iload_n (pc := 123) (k := 3) (by decide +kernel) rfl ?_
                      obtain ⟨g4, h⟩ := h
                      refine ey_iast (pc := 124) (by decide +kernel) (hF2.s (j := 80) rfl) g4 rfl ?_
                      refine ex_goto (pc := 125) (off := 25) (tgt := 150) (by decide +kernel) (by decide) ?_
                      refine ex_iload (pc := 150) (k := 5) (by decide +kernel) rfl ?_
                      exact ex_ireturn (pc := 152) (by decide +kernel) rfl rfl h
                  · replace h := h.2 hc
                    refine ex_aload_n (pc := 97) (k := 0) (by decide +kernel) rfl ?_
                    refine ex_getR (pc := 98) (a := 81) (by decide +kernel) lf_MM_16 (hF2.s (j := 78) rfl) (hF2.r (j := 78) (k := 3) rfl rfl) ?_
                    refine ex_iload_n (pc := 101) (k := 1) (by decide +kernel) rfl ?_
                    obtain ⟨g5, h⟩ := h
                    refine ey_iald (pc := 102) (v := mi M2 81 l1.toNatClampNeg) (by decide +kernel) (hF2.s (j := 81) rfl) g5 rfl rfl ?_
                    refine ex_goto (pc := 103) (off := 9) (tgt := 112) (by decide +kernel) (by decide) ?_
                    refine ex_istore (pc := 112) (k := 5) (lo2 := [some (.ref 78), some (.int l1), some (.int l2), some (.int l3), some (.int (nI 1)), some (.int (mi M2 81 l1.toNatClampNeg))]) (by decide +kernel) (by decide) rfl ?_
                    refine ex_iload_n (pc := 114) (k := 2) (by decide +kernel) rfl ?_
                    refine ex_if_ne (pc := 115) (off := 13) (tgt := 128) (by decide +kernel) (by decide) (fun hc => ?_) (fun hc => ?_)
                    · replace h := h.1 hc
                      refine ex_iload_n (pc := 128) (k := 2) (by decide +kernel) rfl ?_
                      refine ex_iconst (pc := 129) (k := 1) (v := nI 1) (by decide +kernel) (by decide) ?_
                      refine ex_icmp_ne (pc := 130) (off := 13) (tgt := 143) (by decide +kernel) (by decide) (fun hc => ?_) (fun hc => ?_)
                      · replace h := h.1 hc
                        refine ex_aload_n (pc := 143) (k := 0) (by decide +kernel) rfl ?_
                        refine ex_getR (pc := 144) (a := 82) (by decide +kernel) lf_MM_19 (hF2.s (j := 78) rfl) (hF2.r (j := 78) (k := 4) rfl rfl) ?_
                        refine ex_iload_n (pc := 147) (k := 1) (by decide +kernel) rfl ?_
                        refine ex_iload_n (pc := 148) (k := 3) (by decide +kernel) rfl ?_
                        obtain ⟨g6, h⟩ := h
                        refine ey_iast (pc := 149) (by decide +kernel) (hF2.s (j := 82) rfl) g6 rfl ?_
                        refine ex_iload (pc := 150) (k := 5) (by decide +kernel) rfl ?_
                        exact ex_ireturn (pc := 152) (by decide +kernel) rfl rfl h
                      · replace h := h.2 hc
                        refine ex_aload_n (pc := 133) (k := 0) (by decide +kernel) rfl ?_
                        refine ex_getR (pc := 134) (a := 81) (by decide +kernel) lf_MM_16 (hF2.s (j := 78) rfl) (hF2.r (j := 78) (k := 3) rfl rfl) ?_
                        refine ex_iload_n (pc := 137) (k := 1) (by decide +kernel) rfl ?_
                        refine ex_iload_n (pc := 138) (k := 3) (by decide +kernel) rfl ?_
                        obtain ⟨g7, h⟩ := h
                        refine ey_iast (pc := 139) (by decide +kernel) (hF2.s (j := 81) rfl) g7 rfl ?_
                        refine ex_goto (pc := 140) (off := 10) (tgt := 150) (by decide +kernel) (by decide) ?_
                        refine ex_iload (pc := 150) (k := 5) (by decide +kernel) rfl ?_
                        exact ex_ireturn (pc := 152) (by decide +kernel) rfl rfl h
                    · replace h := h.2 hc
                      refine ex_aload_n (pc := 118) (k := 0) (by decide +kernel) rfl ?_
                      refine ex_getR (pc := 119) (a := 80) (by decide +kernel) lf_MM_13 (hF2.s (j := 78) rfl) (hF2.r (j := 78) (k := 2) rfl rfl) ?_
                      refine ex_iload_n (pc := 122) (k := 1) (by decide +kernel) rfl ?_
                      refine ex_iload_n (pc := 123) (k := 3) (by decide +kernel) rfl ?_
                      obtain ⟨g8, h⟩ := h
                      refine ey_iast (pc := 124) (by decide +kernel) (hF2.s (j := 80) rfl) g8 rfl ?_
                      refine ex_goto (pc := 125) (off := 25) (tgt := 150) (by decide +kernel) (by decide) ?_
                      refine ex_iload (pc := 150) (k := 5) (by decide +kernel) rfl ?_
                      exact ex_ireturn (pc := 152) (by decide +kernel) rfl rfl h
                · replace h := h.2 hc
                  refine ex_aload_n (pc := 83) (k := 0) (by decide +kernel) rfl ?_
                  refine ex_getR (pc := 84) (a := 80) (by decide +kernel) lf_MM_13 (hF2.s (j := 78) rfl) (hF2.r (j := 78) (k := 2) rfl rfl) ?_
                  refine ex_iload_n (pc := 87) (k := 1) (by decide +kernel) rfl ?_
                  obtain ⟨g9, h⟩ := h
                  refine ey_iald (pc := 88) (v := mi M2 80 l1.toNatClampNeg) (by decide +kernel) (hF2.s (j := 80) rfl) g9 rfl rfl ?_
                  refine ex_goto (pc := 89) (off := 23) (tgt := 112) (by decide +kernel) (by decide) ?_
                  refine ex_istore (pc := 112) (k := 5) (lo2 := [some (.ref 78), some (.int l1), some (.int l2), some (.int l3), some (.int (nI 1)), some (.int (mi M2 80 l1.toNatClampNeg))]) (by decide +kernel) (by decide) rfl ?_
                  refine ex_iload_n (pc := 114) (k := 2) (by decide +kernel) rfl ?_
                  refine ex_if_ne (pc := 115) (off := 13) (tgt := 128) (by decide +kernel) (by decide) (fun hc => ?_) (fun hc => ?_)
                  · replace h := h.1 hc
                    refine ex_iload_n (pc := 128) (k := 2) (by decide +kernel) rfl ?_
                    refine ex_iconst (pc := 129) (k := 1) (v := nI 1) (by decide +kernel) (by decide) ?_
                    refine ex_icmp_ne (pc := 130) (off := 13) (tgt := 143) (by decide +kernel) (by decide) (fun hc => ?_) (fun hc => ?_)
                    · replace h := h.1 hc
                      refine ex_aload_n (pc := 143) (k := 0) (by decide +kernel) rfl ?_
                      refine ex_getR (pc := 144) (a := 82) (by decide +kernel) lf_MM_19 (hF2.s (j := 78) rfl) (hF2.r (j := 78) (k := 4) rfl rfl) ?_
                      refine ex_iload_n (pc := 147) (k := 1) (by decide +kernel) rfl ?_
                      refine ex_iload_n (pc := 148) (k := 3) (by decide +kernel) rfl ?_
                      obtain ⟨g10, h⟩ := h
                      refine ey_iast (pc := 149) (by decide +kernel) (hF2.s (j := 82) rfl) g10 rfl ?_
                      refine ex_iload (pc := 150) (k := 5) (by decide +kernel) rfl ?_
                      exact ex_ireturn (pc := 152) (by decide +kernel) rfl rfl h
                    · replace h := h.2 hc
                      refine ex_aload_n (pc := 133) (k := 0) (by decide +kernel) rfl ?_
                      refine ex_getR (pc := 134) (a := 81) (by decide +kernel) lf_MM_16 (hF2.s (j := 78) rfl) (hF2.r (j := 78) (k := 3) rfl rfl) ?_
                      refine ex_iload_n (pc := 137) (k := 1) (by decide +kernel) rfl ?_
                      refine ex_iload_n (pc := 138) (k := 3) (by decide +kernel) rfl ?_
                      obtain ⟨g11, h⟩ := h
                      refine ey_iast (pc := 139) (by decide +kernel) (hF2.s (j := 81) rfl) g11 rfl ?_
                      refine ex_goto (pc := 140) (off := 10) (tgt := 150) (by decide +kernel) (by decide) ?_
                      refine ex_iload (pc := 150) (k := 5) (by decide +kernel) rfl ?_
                      exact ex_ireturn (pc := 152) (by decide +kernel) rfl rfl h
                  · replace h := h.2 hc
                    refine ex_aload_n (pc := 118) (k := 0) (by decide +kernel) rfl ?_
                    refine ex_getR (pc := 119) (a := 80) (by decide +kernel) lf_MM_13 (hF2.s (j := 78) rfl) (hF2.r (j := 78) (k := 2) rfl rfl) ?_
                    refine ex_iload_n (pc := 122) (k := 1) (by decide +kernel) rfl ?_
                    refine ex_iload_n (pc := 123) (k := 3) (by decide +kernel) rfl ?_
                    obtain ⟨g12, h⟩ := h
                    refine ey_iast (pc := 124) (by decide +kernel) (hF2.s (j := 80) rfl) g12 rfl ?_
                    refine ex_goto (pc := 125) (off := 25) (tgt := 150) (by decide +kernel) (by decide) ?_
                    refine ex_iload (pc := 150) (k := 5) (by decide +kernel) rfl ?_
                    exact ex_ireturn (pc := 152) (by decide +kernel) rfl rfl h
              · replace h := h.2 hc
                refine ex_bipush (pc := 76) (k := -7) (v := -7) (by decide +kernel) (by decide) ?_
                exact ex_ireturn (pc := 78) (by decide +kernel) rfl rfl h
      · replace h := h.2 hc
        refine ex_iload_n (pc := 30) (k := 3) (by decide +kernel) rfl ?_
        refine ex_iconst (pc := 31) (k := -1) (v := -1) (by decide +kernel) (by decide) ?_
        refine ex_bipush (pc := 32) (k := 6) (v := nI 6) (by decide +kernel) (by decide) ?_
        refine ex_callS (pc := 34) (as := [.int l3, .int (-1), .int (nI 6)]) (by decide +kernel) F_MM_in (in_t6 (i := 11) rfl rfl) rfl rfl (Nat.le_of_ble_eq_true rfl) (Nat.lt_succ_self _) ⟨Nat.zero_le _, Nat.zero_le _⟩ (KC_B (Con.mono h ?_))
        intro o M3 ⟨r3, e9, hF3, h⟩
        refine ⟨r3, e9, ?_⟩
        refine ex_goto (pc := 37) (off := 32) (tgt := 69) (by decide +kernel) (by decide) ?_
        refine ex_istore (pc := 69) (k := 4) (lo2 := [some (.ref 78), some (.int l1), some (.int l2), some (.int l3), some (.int (b2i r3)), none]) (by decide +kernel) (by decide) rfl ?_
        refine ex_iload (pc := 71) (k := 4) (by decide +kernel) rfl ?_
        refine ey_ifneB (pc := 73) (off := 6) (tgt := 79) (by decide +kernel) (by decide) (fun hc => ?_) (fun hc => ?_)
        · replace h := h.1 hc
          refine ex_iload_n (pc := 79) (k := 2) (by decide +kernel) rfl ?_
          refine ex_if_ne (pc := 80) (off := 12) (tgt := 92) (by decide +kernel) (by decide) (fun hc => ?_) (fun hc => ?_)
          · replace h := h.1 hc
            refine ex_iload_n (pc := 92) (k := 2) (by decide +kernel) rfl ?_
            refine ex_iconst (pc := 93) (k := 1) (v := nI 1) (by decide +kernel) (by decide) ?_
            refine ex_icmp_ne (pc := 94) (off := 12) (tgt := 106) (by decide +kernel) (by decide) (fun hc => ?_) (fun hc => ?_)
            · replace h := h.1 hc
              refine ex_aload_n (pc := 106) (k := 0) (by decide +kernel) rfl ?_
              refine ex_getR (pc := 107) (a := 82) (by decide +kernel) lf_MM_19 (hF3.s (j := 78) rfl) (hF3.r (j := 78) (k := 4) rfl rfl) ?_
              refine ex_iload_n (pc := 110) (k := 1) (by decide +kernel) rfl ?_
              obtain ⟨g13, h⟩ := h
              refine ey_iald (pc := 111) (v := mi M3 82 l1.toNatClampNeg) (by decide +kernel) (hF3.s (j := 82) rfl) g13 rfl rfl ?_
              refine ex_istore (pc := 112) (k := 5) (lo2 := [some (.ref 78), some (.int l1), some (.int l2), some (.int l3), some (.int (b2i r3)), some (.int (mi M3 82 l1.toNatClampNeg))]) (by decide +kernel) (by decide) rfl ?_
              refine ex_iload_n (pc := 114) (k := 2) (by decide +kernel) rfl ?_
              refine ex_if_ne (pc := 115) (off := 13) (tgt := 128) (by decide +kernel) (by decide) (fun hc => ?_) (fun hc => ?_)
              · replace h := h.1 hc
                refine ex_iload_n (pc := 128) (k := 2) (by decide +kernel) rfl ?_
                refine ex_iconst (pc := 129) (k := 1) (v := nI 1) (by decide +kernel) (by decide) ?_
                refine ex_icmp_ne (pc := 130) (off := 13) (tgt := 143) (by decide +kernel) (by decide) (fun hc => ?_) (fun hc => ?_)
                · replace h := h.1 hc
                  refine ex_aload_n (pc := 143) (k := 0) (by decide +kernel) rfl ?_
                  refine ex_getR (pc := 144) (a := 82) (by decide +kernel) lf_MM_19 (hF3.s (j := 78) rfl) (hF3.r (j := 78) (k := 4) rfl rfl) ?_
                  refine ex_iload_n (pc := 147) (k := 1) (by decide +kernel) rfl ?_
                  refine ex_iload_n (pc := 148) (k := 3) (by decide +kernel) rfl ?_
                  obtain ⟨g14, h⟩ := h
                  refine ey_iast (pc := 149) (by decide +kernel) (hF3.s (j := 82) rfl) g14 rfl ?_
                  refine ex_iload (pc := 150) (k := 5) (by decide +kernel) rfl ?_
                  exact ex_ireturn (pc := 152) (by decide +kernel) rfl rfl h
                · replace h := h.2 hc
                  refine ex_aload_n (pc := 133) (k := 0) (by decide +kernel) rfl ?_
                  refine ex_getR (pc := 134) (a := 81) (by decide +kernel) lf_MM_16 (hF3.s (j := 78) rfl) (hF3.r (j := 78) (k := 3) rfl rfl) ?_
                  refine ex_iload_n (pc := 137) (k := 1) (by decide +kernel) rfl ?_
                  refine ex_iload_n (pc := 138) (k := 3) (by decide +kernel) rfl ?_
                  obtain ⟨g15, h⟩ := h
                  refine ey_iast (pc := 139) (by decide +kernel) (hF3.s (j := 81) rfl) g15 rfl ?_
                  refine ex_goto (pc := 140) (off := 10) (tgt := 150) (by decide +kernel) (by decide) ?_
                  refine ex_iload (pc := 150) (k := 5) (by decide +kernel) rfl ?_
                  exact ex_ireturn (pc := 152) (by decide +kernel) rfl rfl h
              · replace h := h.2 hc
                refine ex_aload_n (pc := 118) (k := 0) (by decide +kernel) rfl ?_
                refine ex_getR (pc := 119) (a := 80) (by decide +kernel) lf_MM_13 (hF3.s (j := 78) rfl) (hF3.r (j := 78) (k := 2) rfl rfl) ?_
                refine ex_iload_n (pc := 122) (k := 1) (by decide +kernel) rfl ?_
                refine ex_iload_n (pc := 123) (k := 3) (by decide +kernel) rfl ?_
                obtain ⟨g16, h⟩ := h
                refine ey_iast (pc := 124) (by decide +kernel) (hF3.s (j := 80) rfl) g16 rfl ?_
                refine ex_goto (pc := 125) (off := 25) (tgt := 150) (by decide +kernel) (by decide) ?_
                refine ex_iload (pc := 150) (k := 5) (by decide +kernel) rfl ?_
                exact ex_ireturn (pc := 152) (by decide +kernel) rfl rfl h
            · replace h := h.2 hc
              refine ex_aload_n (pc := 97) (k := 0) (by decide +kernel) rfl ?_
              refine ex_getR (pc := 98) (a := 81) (by decide +kernel) lf_MM_16 (hF3.s (j := 78) rfl) (hF3.r (j := 78) (k := 3) rfl rfl) ?_
              refine ex_iload_n (pc := 101) (k := 1) (by decide +kernel) rfl ?_
              obtain ⟨g17, h⟩ := h
              refine ey_iald (pc := 102) (v := mi M3 81 l1.toNatClampNeg) (by decide +kernel) (hF3.s (j := 81) rfl) g17 rfl rfl ?_
              refine ex_goto (pc := 103) (off := 9) (tgt := 112) (by decide +kernel) (by decide) ?_
              refine ex_istore (pc := 112) (k := 5) (lo2 := [some (.ref 78), some (.int l1), some (.int l2), some (.int l3), some (.int (b2i r3)), some (.int (mi M3 81 l1.toNatClampNeg))]) (by decide +kernel) (by decide) rfl ?_
              refine ex_iload_n (pc := 114) (k := 2) (by decide +kernel) rfl ?_
              refine ex_if_ne (pc := 115) (off := 13) (tgt := 128) (by decide +kernel) (by decide) (fun hc => ?_) (fun hc => ?_)
              · replace h := h.1 hc
                refine ex_iload_n (pc := 128) (k := 2) (by decide +kernel) rfl ?_
                refine ex_iconst (pc := 129) (k := 1) (v := nI 1) (by decide +kernel) (by decide) ?_
                refine ex_icmp_ne (pc := 130) (off := 13) (tgt := 143) (by decide +kernel) (by decide) (fun hc => ?_) (fun hc => ?_)
                · replace h := h.1 hc
                  refine ex_aload_n (pc := 143) (k := 0) (by decide +kernel) rfl ?_
                  refine ex_getR (pc := 144) (a := 82) (by decide +kernel) lf_MM_19 (hF3.s (j := 78) rfl) (hF3.r (j := 78) (k := 4) rfl rfl) ?_
                  refine ex_iload_n (pc := 147) (k := 1) (by decide +kernel) rfl ?_
                  refine ex_iload_n (pc := 148) (k := 3) (by decide +kernel) rfl ?_
                  obtain ⟨g18, h⟩ := h
                  refine ey_iast (pc := 149) (by decide +kernel) (hF3.s (j := 82) rfl) g18 rfl ?_
                  refine ex_iload (pc := 150) (k := 5) (by decide +kernel) rfl ?_
                  exact ex_ireturn (pc := 152) (by decide +kernel) rfl rfl h
                · replace h := h.2 hc
                  refine ex_aload_n (pc := 133) (k := 0) (by decide +kernel) rfl ?_
                  refine ex_getR (pc := 134) (a := 81) (by decide +kernel) lf_MM_16 (hF3.s (j := 78) rfl) (hF3.r (j := 78) (k := 3) rfl rfl) ?_
                  refine ex_iload_n (pc := 137) (k := 1) (by decide +kernel) rfl ?_
                  refine ex_iload_n (pc := 138) (k := 3) (by decide +kernel) rfl ?_
                  obtain ⟨g19, h⟩ := h
                  refine ey_iast (pc := 139) (by decide +kernel) (hF3.s (j := 81) rfl) g19 rfl ?_
                  refine ex_goto (pc := 140) (off := 10) (tgt := 150) (by decide +kernel) (by decide) ?_
                  refine ex_iload (pc := 150) (k := 5) (by decide +kernel) rfl ?_
                  exact ex_ireturn (pc := 152) (by decide +kernel) rfl rfl h
              · replace h := h.2 hc
                refine ex_aload_n (pc := 118) (k := 0) (by decide +kernel) rfl ?_
                refine ex_getR (pc := 119) (a := 80) (by decide +kernel) lf_MM_13 (hF3.s (j := 78) rfl) (hF3.r (j := 78) (k := 2) rfl rfl) ?_
                refine ex_iload_n (pc := 122) (k := 1) (by decide +kernel) rfl ?_
                refine ex_iload_n (pc := 123) (k := 3) (by decide +kernel) rfl ?_
                obtain ⟨g20, h⟩ := h
                refine ey_iast (pc := 124) (by decide +kernel) (hF3.s (j := 80) rfl) g20 rfl ?_
                refine ex_goto (pc := 125) (off := 25) (tgt := 150) (by decide +kernel) (by decide) ?_
                refine ex_iload (pc := 150) (k := 5) (by decide +kernel) rfl ?_
                exact ex_ireturn (pc := 152) (by decide +kernel) rfl rfl h
          · replace h := h.2 hc
            refine ex_aload_n (pc := 83) (k := 0) (by decide +kernel) rfl ?_
            refine ex_getR (pc := 84) (a := 80) (by decide +kernel) lf_MM_13 (hF3.s (j := 78) rfl) (hF3.r (j := 78) (k := 2) rfl rfl) ?_
            refine ex_iload_n (pc := 87) (k := 1) (by decide +kernel) rfl ?_
            obtain ⟨g21, h⟩ := h
            refine ey_iald (pc := 88) (v := mi M3 80 l1.toNatClampNeg) (by decide +kernel) (hF3.s (j := 80) rfl) g21 rfl rfl ?_
            refine ex_goto (pc := 89) (off := 23) (tgt := 112) (by decide +kernel) (by decide) ?_
            refine ex_istore (pc := 112) (k := 5) (lo2 := [some (.ref 78), some (.int l1), some (.int l2), some (.int l3), some (.int (b2i r3)), some (.int (mi M3 80 l1.toNatClampNeg))]) (by decide +kernel) (by decide) rfl ?_
            refine ex_iload_n (pc := 114) (k := 2) (by decide +kernel) rfl ?_
            refine ex_if_ne (pc := 115) (off := 13) (tgt := 128) (by decide +kernel) (by decide) (fun hc => ?_) (fun hc => ?_)
            · replace h := h.1 hc
              refine ex_iload_n (pc := 128) (k := 2) (by decide +kernel) rfl ?_
              refine ex_iconst (pc := 129) (k := 1) (v := nI 1) (by decide +kernel) (by decide) ?_
              refine ex_icmp_ne (pc := 130) (off := 13) (tgt := 143) (by decide +kernel) (by decide) (fun hc => ?_) (fun hc => ?_)
              · replace h := h.1 hc
                refine ex_aload_n (pc := 143) (k := 0) (by decide +kernel) rfl ?_
                refine ex_getR (pc := 144) (a := 82) (by decide +kernel) lf_MM_19 (hF3.s (j := 78) rfl) (hF3.r (j := 78) (k := 4) rfl rfl) ?_
                refine ex_iload_n (pc := 147) (k := 1) (by decide +kernel) rfl ?_
                refine ex_iload_n (pc := 148) (k := 3) (by decide +kernel) rfl ?_
                obtain ⟨g22, h⟩ := h
                refine ey_iast (pc := 149) (by decide +kernel) (hF3.s (j := 82) rfl) g22 rfl ?_
                refine ex_iload (pc := 150) (k := 5) (by decide +kernel) rfl ?_
                exact ex_ireturn (pc := 152) (by decide +kernel) rfl rfl h
              · replace h := h.2 hc
                refine ex_aload_n (pc := 133) (k := 0) (by decide +kernel) rfl ?_
                refine ex_getR (pc := 134) (a := 81) (by decide +kernel) lf_MM_16 (hF3.s (j := 78) rfl) (hF3.r (j := 78) (k := 3) rfl rfl) ?_
                refine ex_iload_n (pc := 137) (k := 1) (by decide +kernel) rfl ?_
                refine ex_iload_n (pc := 138) (k := 3) (by decide +kernel) rfl ?_
                obtain ⟨g23, h⟩ := h
                refine ey_iast (pc := 139) (by decide +kernel) (hF3.s (j := 81) rfl) g23 rfl ?_
                refine ex_goto (pc := 140) (off := 10) (tgt := 150) (by decide +kernel) (by decide) ?_
                refine ex_iload (pc := 150) (k := 5) (by decide +kernel) rfl ?_
                exact ex_ireturn (pc := 152) (by decide +kernel) rfl rfl h
            · replace h := h.2 hc
              refine ex_aload_n (pc := 118) (k := 0) (by decide +kernel) rfl ?_
              refine ex_getR (pc := 119) (a := 80) (by decide +kernel) lf_MM_13 (hF3.s (j := 78) rfl) (hF3.r (j := 78) (k := 2) rfl rfl) ?_
              refine ex_iload_n (pc := 122) (k := 1) (by decide +kernel) rfl ?_
              refine ex_iload_n (pc := 123) (k := 3) (by decide +kernel) rfl ?_
              obtain ⟨g24, h⟩ := h
              refine ey_iast (pc := 124) (by decide +kernel) (hF3.s (j := 80) rfl) g24 rfl ?_
              refine ex_goto (pc := 125) (off := 25) (tgt := 150) (by decide +kernel) (by decide) ?_
              refine ex_iload (pc := 150) (k := 5) (by decide +kernel) rfl ?_
              exact ex_ireturn (pc := 152) (by decide +kernel) rfl rfl h
        · replace h := h.2 hc
          refine ex_bipush (pc := 76) (k := -7) (v := -7) (by decide +kernel) (by decide) ?_
          exact ex_ireturn (pc := 78) (by decide +kernel) rfl rfl h
    · replace h := h.2 hc
      refine ex_iload_n (pc := 15) (k := 3) (by decide +kernel) rfl ?_
      refine ex_iconst (pc := 16) (k := 0) (v := nI 0) (by decide +kernel) (by decide) ?_
      refine ex_bipush (pc := 17) (k := 127) (v := nI 127) (by decide +kernel) (by decide) ?_
      refine ex_callS (pc := 19) (as := [.int l3, .int (nI 0), .int (nI 127)]) (by decide +kernel) F_MM_in (in_t6 (i := 11) rfl rfl) rfl rfl (Nat.le_of_ble_eq_true rfl) (Nat.lt_succ_self _) ⟨Nat.zero_le _, Nat.zero_le _⟩ (KC_B (Con.mono h ?_))
      intro o M4 ⟨r4, e9, hF4, h⟩
      refine ⟨r4, e9, ?_⟩
      refine ex_goto (pc := 22) (off := 47) (tgt := 69) (by decide +kernel) (by decide) ?_
      refine ex_istore (pc := 69) (k := 4) (lo2 := [some (.ref 78), some (.int l1), some (.int l2), some (.int l3), some (.int (b2i r4)), none]) (by decide +kernel) (by decide) rfl ?_
      refine ex_iload (pc := 71) (k := 4) (by decide +kernel) rfl ?_
      refine ey_ifneB (pc := 73) (off := 6) (tgt := 79) (by decide +kernel) (by decide) (fun hc => ?_) (fun hc => ?_)
      · replace h := h.1 hc
        refine ex_iload_n (pc := 79) (k := 2) (by decide +kernel) rfl ?_
        refine ex_if_ne (pc := 80) (off := 12) (tgt := 92) (by decide +kernel) (by decide) (fun hc => ?_) (fun hc => ?_)
        · replace h := h.1 hc
          refine ex_iload_n (pc := 92) (k := 2) (by decide +kernel) rfl ?_
          refine ex_iconst (pc := 93) (k := 1) (v := nI 1) (by decide +kernel) (by decide) ?_
          refine ex_icmp_ne (pc := 94) (off := 12) (tgt := 106) (by decide +kernel) (by decide) (fun hc => ?_) (fun hc => ?_)
          · replace h := h.1 hc
            refine ex_aload_n (pc := 106) (k := 0) (by decide +kernel) rfl ?_
            refine ex_getR (pc := 107) (a := 82) (by decide +kernel) lf_MM_19 (hF4.s (j := 78) rfl) (hF4.r (j := 78) (k := 4) rfl rfl) ?_
            refine ex_iload_n (pc := 110) (k := 1) (by decide +kernel) rfl ?_
            obtain ⟨g25, h⟩ := h
            refine ey_iald (pc := 111) (v := mi M4 82 l1.toNatClampNeg) (by decide +kernel) (hF4.s (j := 82) rfl) g25 rfl rfl ?_
            refine ex_istore (pc := 112) (k := 5) (lo2 := [some (.ref 78), some (.int l1), some (.int l2), some (.int l3), some (.int (b2i r4)), some (.int (mi M4 82 l1.toNatClampNeg))]) (by decide +kernel) (by decide) rfl ?_
            refine ex_iload_n (pc := 114) (k := 2) (by decide +kernel) rfl ?_
            refine ex_if_ne (pc := 115) (off := 13) (tgt := 128) (by decide +kernel) (by decide) (fun hc => ?_) (fun hc => ?_)
            · replace h := h.1 hc
              refine ex_iload_n (pc := 128) (k := 2) (by decide +kernel) rfl ?_
              refine ex_iconst (pc := 129) (k := 1) (v := nI 1) (by decide +kernel) (by decide) ?_
              refine ex_icmp_ne (pc := 130) (off := 13) (tgt := 143) (by decide +kernel) (by decide) (fun hc => ?_) (fun hc => ?_)
              · replace h := h.1 hc
                refine ex_aload_n (pc := 143) (k := 0) (by decide +kernel) rfl ?_
                refine ex_getR (pc := 144) (a := 82) (by decide +kernel) lf_MM_19 (hF4.s (j := 78) rfl) (hF4.r (j := 78) (k := 4) rfl rfl) ?_
                refine ex_iload_n (pc := 147) (k := 1) (by decide +kernel) rfl ?_
                refine ex_iload_n (pc := 148) (k := 3) (by decide +kernel) rfl ?_
                obtain ⟨g26, h⟩ := h
                refine ey_iast (pc := 149) (by decide +kernel) (hF4.s (j := 82) rfl) g26 rfl ?_
                refine ex_iload (pc := 150) (k := 5) (by decide +kernel) rfl ?_
                exact ex_ireturn (pc := 152) (by decide +kernel) rfl rfl h
              · replace h := h.2 hc
                refine ex_aload_n (pc := 133) (k := 0) (by decide +kernel) rfl ?_
                refine ex_getR (pc := 134) (a := 81) (by decide +kernel) lf_MM_16 (hF4.s (j := 78) rfl) (hF4.r (j := 78) (k := 3) rfl rfl) ?_
                refine ex_iload_n (pc := 137) (k := 1) (by decide +kernel) rfl ?_
                refine ex_iload_n (pc := 138) (k := 3) (by decide +kernel) rfl ?_
                obtain ⟨g27, h⟩ := h
                refine ey_iast (pc := 139) (by decide +kernel) (hF4.s (j := 81) rfl) g27 rfl ?_
                refine ex_goto (pc := 140) (off := 10) (tgt := 150) (by decide +kernel) (by decide) ?_
                refine ex_iload (pc := 150) (k := 5) (by decide +kernel) rfl ?_
                exact ex_ireturn (pc := 152) (by decide +kernel) rfl rfl h
            · replace h := h.2 hc
              refine ex_aload_n (pc := 118) (k := 0) (by decide +kernel) rfl ?_
              refine ex_getR (pc := 119) (a := 80) (by decide +kernel) lf_MM_13 (hF4.s (j := 78) rfl) (hF4.r (j := 78) (k := 2) rfl rfl) ?_
              refine ex_iload_n (pc := 122) (k := 1) (by decide +kernel) rfl ?_
              refine ex_iload_n (pc := 123) (k := 3) (by decide +kernel) rfl ?_
              obtain ⟨g28, h⟩ := h
              refine ey_iast (pc := 124) (by decide +kernel) (hF4.s (j := 80) rfl) g28 rfl ?_
              refine ex_goto (pc := 125) (off := 25) (tgt := 150) (by decide +kernel) (by decide) ?_
              refine ex_iload (pc := 150) (k := 5) (by decide +kernel) rfl ?_
              exact ex_ireturn (pc := 152) (by decide +kernel) rfl rfl h
          · replace h := h.2 hc
            refine ex_aload_n (pc := 97) (k := 0) (by decide +kernel) rfl ?_
            refine ex_getR (pc := 98) (a := 81) (by decide +kernel) lf_MM_16 (hF4.s (j := 78) rfl) (hF4.r (j := 78) (k := 3) rfl rfl) ?_
            refine ex_iload_n (pc := 101) (k := 1) (by decide +kernel) rfl ?_
            obtain ⟨g29, h⟩ := h
            refine ey_iald (pc := 102) (v := mi M4 81 l1.toNatClampNeg) (by decide +kernel) (hF4.s (j := 81) rfl) g29 rfl rfl ?_
            refine ex_goto (pc := 103) (off := 9) (tgt := 112) (by decide +kernel) (by decide) ?_
            refine ex_istore (pc := 112) (k := 5) (lo2 := [some (.ref 78), some (.int l1), some (.int l2), some (.int l3), some (.int (b2i r4)), some (.int (mi M4 81 l1.toNatClampNeg))]) (by decide +kernel) (by decide) rfl ?_
            refine ex_iload_n (pc := 114) (k := 2) (by decide +kernel) rfl ?_
            refine ex_if_ne (pc := 115) (off := 13) (tgt := 128) (by decide +kernel) (by decide) (fun hc => ?_) (fun hc => ?_)
            · replace h := h.1 hc
              refine ex_iload_n (pc := 128) (k := 2) (by decide +kernel) rfl ?_
              refine ex_iconst (pc := 129) (k := 1) (v := nI 1) (by decide +kernel) (by decide) ?_
              refine ex_icmp_ne (pc := 130) (off := 13) (tgt := 143) (by decide +kernel) (by decide) (fun hc => ?_) (fun hc => ?_)
              · replace h := h.1 hc
                refine ex_aload_n (pc := 143) (k := 0) (by decide +kernel) rfl ?_
                refine ex_getR (pc := 144) (a := 82) (by decide +kernel) lf_MM_19 (hF4.s (j := 78) rfl) (hF4.r (j := 78) (k := 4) rfl rfl) ?_
                refine ex_iload_n (pc := 147) (k := 1) (by decide +kernel) rfl ?_
                refine ex_iload_n (pc := 148) (k := 3) (by decide +kernel) rfl ?_
                obtain ⟨g30, h⟩ := h
                refine ey_iast (pc := 149) (by decide +kernel) (hF4.s (j := 82) rfl) g30 rfl ?_
                refine ex_iload (pc := 150) (k := 5) (by decide +kernel) rfl ?_
                exact ex_ireturn (pc := 152) (by decide +kernel) rfl rfl h
              · replace h := h.2 hc
                refine ex_aload_n (pc := 133) (k := 0) (by decide +kernel) rfl ?_
                refine ex_getR (pc := 134) (a := 81) (by decide +kernel) lf_MM_16 (hF4.s (j := 78) rfl) (hF4.r (j := 78) (k := 3) rfl rfl) ?_
                refine ex_iload_n (pc := 137) (k := 1) (by decide +kernel) rfl ?_
                refine ex_iload_n (pc := 138) (k := 3) (by decide +kernel) rfl ?_
                obtain ⟨g31, h⟩ := h
                refine ey_iast (pc := 139) (by decide +kernel) (hF4.s (j := 81) rfl) g31 rfl ?_
                refine ex_goto (pc := 140) (off := 10) (tgt := 150) (by decide +kernel) (by decide) ?_
                refine ex_iload (pc := 150) (k := 5) (by decide +kernel) rfl ?_
                exact ex_ireturn (pc := 152) (by decide +kernel) rfl rfl h
            · replace h := h.2 hc
              refine ex_aload_n (pc := 118) (k := 0) (by decide +kernel) rfl ?_
              refine ex_getR (pc := 119) (a := 80) (by decide +kernel) lf_MM_13 (hF4.s (j := 78) rfl) (hF4.r (j := 78) (k := 2) rfl rfl) ?_
              refine ex_iload_n (pc := 122) (k := 1) (by decide +kernel) rfl ?_
              refine ex_iload_n (pc := 123) (k := 3) (by decide +kernel) rfl ?_
              obtain ⟨g32, h⟩ := h
              refine ey_iast (pc := 124) (by decide +kernel) (hF4.s (j := 80) rfl) g32 rfl ?_
              refine ex_goto (pc := 125) (off := 25) (tgt := 150) (by decide +kernel) (by decide) ?_
              refine ex_iload (pc := 150) (k := 5) (by decide +kernel) rfl ?_
              exact ex_ireturn (pc := 152) (by decide +kernel) rfl rfl h
        · replace h := h.2 hc
          refine ex_aload_n (pc := 83) (k := 0) (by decide +kernel) rfl ?_
          refine ex_getR (pc := 84) (a := 80) (by decide +kernel) lf_MM_13 (hF4.s (j := 78) rfl) (hF4.r (j := 78) (k := 2) rfl rfl) ?_
          refine ex_iload_n (pc := 87) (k := 1) (by decide +kernel) rfl ?_
          obtain ⟨g33, h⟩ := h
          refine ey_iald (pc := 88) (v := mi M4 80 l1.toNatClampNeg) (by decide +kernel) (hF4.s (j := 80) rfl) g33 rfl rfl ?_
          refine ex_goto (pc := 89) (off := 23) (tgt := 112) (by decide +kernel) (by decide) ?_
          refine ex_istore (pc := 112) (k := 5) (lo2 := [some (.ref 78), some (.int l1), some (.int l2), some (.int l3), some (.int (b2i r4)), some (.int (mi M4 80 l1.toNatClampNeg))]) (by decide +kernel) (by decide) rfl ?_
          refine ex_iload_n (pc := 114) (k := 2) (by decide +kernel) rfl ?_
          refine ex_if_ne (pc := 115) (off := 13) (tgt := 128) (by decide +kernel) (by decide) (fun hc => ?_) (fun hc => ?_)
          · replace h := h.1 hc
            refine ex_iload_n (pc := 128) (k := 2) (by decide +kernel) rfl ?_
            refine ex_iconst (pc := 129) (k := 1) (v := nI 1) (by decide +kernel) (by decide) ?_
            refine ex_icmp_ne (pc := 130) (off := 13) (tgt := 143) (by decide +kernel) (by decide) (fun hc => ?_) (fun hc => ?_)
            · replace h := h.1 hc
              refine ex_aload_n (pc := 143) (k := 0) (by decide +kernel) rfl ?_
              refine ex_getR (pc := 144) (a := 82) (by decide +kernel) lf_MM_19 (hF4.s (j := 78) rfl) (hF4.r (j := 78) (k := 4) rfl rfl) ?_
              refine ex_iload_n (pc := 147) (k := 1) (by decide +kernel) rfl ?_
              refine ex_iload_n (pc := 148) (k := 3) (by decide +kernel) rfl ?_
              obtain ⟨g34, h⟩ := h
              refine ey_iast (pc := 149) (by decide +kernel) (hF4.s (j := 82) rfl) g34 rfl ?_
              refine ex_iload (pc := 150) (k := 5) (by decide +kernel) rfl ?_
              exact ex_ireturn (pc := 152) (by decide +kernel) rfl rfl h
            · replace h := h.2 hc
              refine ex_aload_n (pc := 133) (k := 0) (by decide +kernel) rfl ?_
              refine ex_getR (pc := 134) (a := 81) (by decide +kernel) lf_MM_16 (hF4.s (j := 78) rfl) (hF4.r (j := 78) (k := 3) rfl rfl) ?_
              refine ex_iload_n (pc := 137) (k := 1) (by decide +kernel) rfl ?_
              refine ex_iload_n (pc := 138) (k := 3) (by decide +kernel) rfl ?_
              obtain ⟨g35, h⟩ := h
              refine ey_iast (pc := 139) (by decide +kernel) (hF4.s (j := 81) rfl) g35 rfl ?_
              refine ex_goto (pc := 140) (off := 10) (tgt := 150) (by decide +kernel) (by decide) ?_
              refine ex_iload (pc := 150) (k := 5) (by decide +kernel) rfl ?_
              exact ex_ireturn (pc := 152) (by decide +kernel) rfl rfl h
          · replace h := h.2 hc
            refine ex_aload_n (pc := 118) (k := 0) (by decide +kernel) rfl ?_
            refine ex_getR (pc := 119) (a := 80) (by decide +kernel) lf_MM_13 (hF4.s (j := 78) rfl) (hF4.r (j := 78) (k := 2) rfl rfl) ?_
            refine ex_iload_n (pc := 122) (k := 1) (by decide +kernel) rfl ?_
            refine ex_iload_n (pc := 123) (k := 3) (by decide +kernel) rfl ?_
            obtain ⟨g36, h⟩ := h
            refine ey_iast (pc := 124) (by decide +kernel) (hF4.s (j := 80) rfl) g36 rfl ?_
            refine ex_goto (pc := 125) (off := 25) (tgt := 150) (by decide +kernel) (by decide) ?_
            refine ex_iload (pc := 150) (k := 5) (by decide +kernel) rfl ?_
            exact ex_ireturn (pc := 152) (by decide +kernel) rfl rfl h
      · replace h := h.2 hc
        refine ex_bipush (pc := 76) (k := -7) (v := -7) (by decide +kernel) (by decide) ?_
        exact ex_ireturn (pc := 78) (by decide +kernel) rfl rfl h
  · replace h := h.2 hc
    refine ex_bipush (pc := 8) (k := -5) (v := -5) (by decide +kernel) (by decide) ?_
    exact ex_ireturn (pc := 10) (by decide +kernel) rfl rfl h
theorem k_MM_want_68 {d bc bs : Nat} {l1 : Int32} {l2 : Int32} {l3 : Int32} {M : Mem} {Φ : Option Value → Mem → Prop} (hF : Fm M) (h : (¬ (nI 0) = 0 → (¬ l2 = 0 → (¬ l2 = (nI 1) → vp_in l1 6 ∧ (¬ l2 = 0 → (¬ l2 = (nI 1) → vp_in l1 6 ∧ Φ (some (.int (mi M 82 l1.toNatClampNeg))) (wi M 82 l1.toNatClampNeg l3)) ∧ (l2 = (nI 1) → vp_in l1 6 ∧ Φ (some (.int (mi M 82 l1.toNatClampNeg))) (wi M 81 l1.toNatClampNeg l3))) ∧ (l2 = 0 → vp_in l1 6 ∧ Φ (some (.int (mi M 82 l1.toNatClampNeg))) (wi M 80 l1.toNatClampNeg l3))) ∧ (l2 = (nI 1) → vp_in l1 6 ∧ (¬ l2 = 0 → (¬ l2 = (nI 1) → vp_in l1 6 ∧ Φ (some (.int (mi M 81 l1.toNatClampNeg))) (wi M 82 l1.toNatClampNeg l3)) ∧ (l2 = (nI 1) → vp_in l1 6 ∧ Φ (some (.int (mi M 81 l1.toNatClampNeg))) (wi M 81 l1.toNatClampNeg l3))) ∧ (l2 = 0 → vp_in l1 6 ∧ Φ (some (.int (mi M 81 l1.toNatClampNeg))) (wi M 80 l1.toNatClampNeg l3)))) ∧ (l2 = 0 → vp_in l1 6 ∧ (¬ l2 = 0 → (¬ l2 = (nI 1) → vp_in l1 6 ∧ Φ (some (.int (mi M 80 l1.toNatClampNeg))) (wi M 82 l1.toNatClampNeg l3)) ∧ (l2 = (nI 1) → vp_in l1 6 ∧ Φ (some (.int (mi M 80 l1.toNatClampNeg))) (wi M 81 l1.toNatClampNeg l3))) ∧ (l2 = 0 → vp_in l1 6 ∧ Φ (some (.int (mi M 80 l1.toNatClampNeg))) (wi M 80 l1.toNatClampNeg l3)))) ∧ ((nI 0) = 0 → Φ (some (.int (-7))) M)) : Ex (d + 1) m_MM_want bc bs 68 [some (.ref 78), some (.int l1), some (.int l2), some (.int l3), none, none] [] M Φ := by
  refine ex_iconst (pc := 68) (k := 0) (v := nI 0) (by decide +kernel) (by decide) ?_
  refine ex_istore (pc := 69) (k := 4) (lo2 := [some (.ref 78), some (.int l1), some (.int l2), some (.int l3), some (.int (nI 0)), none]) (by decide +kernel) (by decide) rfl ?_
  refine ex_iload (pc := 71) (k := 4) (by decide +kernel) rfl ?_
  refine ex_if_ne (pc := 73) (off := 6) (tgt := 79) (by decide +kernel) (by decide) (fun hc => ?_) (fun hc => ?_)
  · replace h := h.1 hc
    refine ex_iload_n (pc := 79) (k := 2) (by decide +kernel) rfl ?_
    refine ex_if_ne (pc := 80) (off := 12) (tgt := 92) (by decide +kernel) (by decide) (fun hc => ?_) (fun hc => ?_)
    · replace h := h.1 hc
      refine ex_iload_n (pc := 92) (k := 2) (by decide +kernel) rfl ?_
      refine ex_iconst (pc := 93) (k := 1) (v := nI 1) (by decide +kernel) (by decide) ?_
      refine ex_icmp_ne (pc := 94) (off := 12) (tgt := 106) (by decide +kernel) (by decide) (fun hc => ?_) (fun hc => ?_)
      · replace h := h.1 hc
        refine ex_aload_n (pc := 106) (k := 0) (by decide +kernel) rfl ?_
        refine ex_getR (pc := 107) (a := 82) (by decide +kernel) lf_MM_19 (hF.s (j := 78) rfl) (hF.r (j := 78) (k := 4) rfl rfl) ?_
        refine ex_iload_n (pc := 110) (k := 1) (by decide +kernel) rfl ?_
        obtain ⟨g1, h⟩ := h
        refine ey_iald (pc := 111) (v := mi M 82 l1.toNatClampNeg) (by decide +kernel) (hF.s (j := 82) rfl) g1 rfl rfl ?_
        refine ex_istore (pc := 112) (k := 5) (lo2 := [some (.ref 78), some (.int l1), some (.int l2), some (.int l3), some (.int (nI 0)), some (.int (mi M 82 l1.toNatClampNeg))]) (by decide +kernel) (by decide) rfl ?_
        refine ex_iload_n (pc := 114) (k := 2) (by decide +kernel) rfl ?_
        refine ex_if_ne (pc := 115) (off := 13) (tgt := 128) (by decide +kernel) (by decide) (fun hc => ?_) (fun hc => ?_)
        · replace h := h.1 hc
          refine ex_iload_n (pc := 128) (k := 2) (by decide +kernel) rfl ?_
          refine ex_iconst (pc := 129) (k := 1) (v := nI 1) (by decide +kernel) (by decide) ?_
          refine ex_icmp_ne (pc := 130) (off := 13) (tgt := 143) (by decide +kernel) (by decide) (fun hc => ?_) (fun hc => ?_)
          · replace h := h.1 hc
            refine ex_aload_n (pc := 143) (k := 0) (by decide +kernel) rfl ?_
            refine ex_getR (pc := 144) (a := 82) (by decide +kernel) lf_MM_19 (hF.s (j := 78) rfl) (hF.r (j := 78) (k := 4) rfl rfl) ?_
            refine ex_iload_n (pc := 147) (k := 1) (by decide +kernel) rfl ?_
            refine ex_iload_n (pc := 148) (k := 3) (by decide +kernel) rfl ?_
            obtain ⟨g2, h⟩ := h
            refine ey_iast (pc := 149) (by decide +kernel) (hF.s (j := 82) rfl) g2 rfl ?_
            refine ex_iload (pc := 150) (k := 5) (by decide +kernel) rfl ?_
            exact ex_ireturn (pc := 152) (by decide +kernel) rfl rfl h
          · replace h := h.2 hc
            refine ex_aload_n (pc := 133) (k := 0) (by decide +kernel) rfl ?_
            refine ex_getR (pc := 134) (a := 81) (by decide +kernel) lf_MM_16 (hF.s (j := 78) rfl) (hF.r (j := 78) (k := 3) rfl rfl) ?_
            refine ex_iload_n (pc := 137) (k := 1) (by decide +kernel) rfl ?_
            refine ex_iload_n (pc := 138) (k := 3) (by decide +kernel) rfl ?_
            obtain ⟨g3, h⟩ := h
            refine ey_iast (pc := 139) (by decide +kernel) (hF.s (j := 81) rfl) g3 rfl ?_
            refine ex_goto (pc := 140) (off := 10) (tgt := 150) (by decide +kernel) (by decide) ?_
            refine ex_iload (pc := 150) (k := 5) (by decide +kernel) rfl ?_
            exact ex_ireturn (pc := 152) (by decide +kernel) rfl rfl h
        · replace h := h.2 hc
          refine ex_aload_n (pc := 118) (k := 0) (by decide +kernel) rfl ?_
          refine ex_getR (pc := 119) (a := 80) (by decide +kernel) lf_MM_13 (hF.s (j := 78) rfl) (hF.r (j := 78) (k := 2) rfl rfl) ?_
          refine ex_iload_n (pc := 122) (k := 1) (by decide +kernel) rfl ?_
          refine ex_iload_n (pc := 123) (k := 3) (by decide +kernel) rfl ?_
          obtain ⟨g4, h⟩ := h
          refine ey_iast (pc := 124) (by decide +kernel) (hF.s (j := 80) rfl) g4 rfl ?_
          refine ex_goto (pc := 125) (off := 25) (tgt := 150) (by decide +kernel) (by decide) ?_
          refine ex_iload (pc := 150) (k := 5) (by decide +kernel) rfl ?_
          exact ex_ireturn (pc := 152) (by decide +kernel) rfl rfl h
      · replace h := h.2 hc
        refine ex_aload_n (pc := 97) (k := 0) (by decide +kernel) rfl ?_
        refine ex_getR (pc := 98) (a := 81) (by decide +kernel) lf_MM_16 (hF.s (j := 78) rfl) (hF.r (j := 78) (k := 3) rfl rfl) ?_
        refine ex_iload_n (pc := 101) (k := 1) (by decide +kernel) rfl ?_
        obtain ⟨g5, h⟩ := h
        refine ey_iald (pc := 102) (v := mi M 81 l1.toNatClampNeg) (by decide +kernel) (hF.s (j := 81) rfl) g5 rfl rfl ?_
        refine ex_goto (pc := 103) (off := 9) (tgt := 112) (by decide +kernel) (by decide) ?_
        refine ex_istore (pc := 112) (k := 5) (lo2 := [some (.ref 78), some (.int l1), some (.int l2), some (.int l3), some (.int (nI 0)), some (.int (mi M 81 l1.toNatClampNeg))]) (by decide +kernel) (by decide) rfl ?_
        refine ex_iload_n (pc := 114) (k := 2) (by decide +kernel) rfl ?_
        refine ex_if_ne (pc := 115) (off := 13) (tgt := 128) (by decide +kernel) (by decide) (fun hc => ?_) (fun hc => ?_)
        · replace h := h.1 hc
          refine ex_iload_n (pc := 128) (k := 2) (by decide +kernel) rfl ?_
          refine ex_iconst (pc := 129) (k := 1) (v := nI 1) (by decide +kernel) (by decide) ?_
          refine ex_icmp_ne (pc := 130) (off := 13) (tgt := 143) (by decide +kernel) (by decide) (fun hc => ?_) (fun hc => ?_)
          · replace h := h.1 hc
            refine ex_aload_n (pc := 143) (k := 0) (by decide +kernel) rfl ?_
            refine ex_getR (pc := 144) (a := 82) (by decide +kernel) lf_MM_19 (hF.s (j := 78) rfl) (hF.r (j := 78) (k := 4) rfl rfl) ?_
            refine ex_iload_n (pc := 147) (k := 1) (by decide +kernel) rfl ?_
            refine ex_iload_n (pc := 148) (k := 3) (by decide +kernel) rfl ?_
            obtain ⟨g6, h⟩ := h
            refine ey_iast (pc := 149) (by decide +kernel) (hF.s (j := 82) rfl) g6 rfl ?_
            refine ex_iload (pc := 150) (k := 5) (by decide +kernel) rfl ?_
            exact ex_ireturn (pc := 152) (by decide +kernel) rfl rfl h
          · replace h := h.2 hc
            refine ex_aload_n (pc := 133) (k := 0) (by decide +kernel) rfl ?_
            refine ex_getR (pc := 134) (a := 81) (by decide +kernel) lf_MM_16 (hF.s (j := 78) rfl) (hF.r (j := 78) (k := 3) rfl rfl) ?_
            refine ex_iload_n (pc := 137) (k := 1) (by decide +kernel) rfl ?_
            refine ex_iload_n (pc := 138) (k := 3) (by decide +kernel) rfl ?_
            obtain ⟨g7, h⟩ := h
            refine ey_iast (pc := 139) (by decide +kernel) (hF.s (j := 81) rfl) g7 rfl ?_
            refine ex_goto (pc := 140) (off := 10) (tgt := 150) (by decide +kernel) (by decide) ?_
            refine ex_iload (pc := 150) (k := 5) (by decide +kernel) rfl ?_
            exact ex_ireturn (pc := 152) (by decide +kernel) rfl rfl h
        · replace h := h.2 hc
          refine ex_aload_n (pc := 118) (k := 0) (by decide +kernel) rfl ?_
          refine ex_getR (pc := 119) (a := 80) (by decide +kernel) lf_MM_13 (hF.s (j := 78) rfl) (hF.r (j := 78) (k := 2) rfl rfl) ?_
          refine ex_iload_n (pc := 122) (k := 1) (by decide +kernel) rfl ?_
          refine ex_iload_n (pc := 123) (k := 3) (by decide +kernel) rfl ?_
          obtain ⟨g8, h⟩ := h
          refine ey_iast (pc := 124) (by decide +kernel) (hF.s (j := 80) rfl) g8 rfl ?_
          refine ex_goto (pc := 125) (off := 25) (tgt := 150) (by decide +kernel) (by decide) ?_
          refine ex_iload (pc := 150) (k := 5) (by decide +kernel) rfl ?_
          exact ex_ireturn (pc := 152) (by decide +kernel) rfl rfl h
    · replace h := h.2 hc
      refine ex_aload_n (pc := 83) (k := 0) (by decide +kernel) rfl ?_
      refine ex_getR (pc := 84) (a := 80) (by decide +kernel) lf_MM_13 (hF.s (j := 78) rfl) (hF.r (j := 78) (k := 2) rfl rfl) ?_
      refine ex_iload_n (pc := 87) (k := 1) (by decide +kernel) rfl ?_
      obtain ⟨g9, h⟩ := h
      refine ey_iald (pc := 88) (v := mi M 80 l1.toNatClampNeg) (by decide +kernel) (hF.s (j := 80) rfl) g9 rfl rfl ?_
      refine ex_goto (pc := 89) (off := 23) (tgt := 112) (by decide +kernel) (by decide) ?_
      refine ex_istore (pc := 112) (k := 5) (lo2 := [some (.ref 78), some (.int l1), some (.int l2), some (.int l3), some (.int (nI 0)), some (.int (mi M 80 l1.toNatClampNeg))]) (by decide +kernel) (by decide) rfl ?_
      refine ex_iload_n (pc := 114) (k := 2) (by decide +kernel) rfl ?_
      refine ex_if_ne (pc := 115) (off := 13) (tgt := 128) (by decide +kernel) (by decide) (fun hc => ?_) (fun hc => ?_)
      · replace h := h.1 hc
        refine ex_iload_n (pc := 128) (k := 2) (by decide +kernel) rfl ?_
        refine ex_iconst (pc := 129) (k := 1) (v := nI 1) (by decide +kernel) (by decide) ?_
        refine ex_icmp_ne (pc := 130) (off := 13) (tgt := 143) (by decide +kernel) (by decide) (fun hc => ?_) (fun hc => ?_)
        · replace h := h.1 hc
          refine ex_aload_n (pc := 143) (k := 0) (by decide +kernel) rfl ?_
          refine ex_getR (pc := 144) (a := 82) (by decide +kernel) lf_MM_19 (hF.s (j := 78) rfl) (hF.r (j := 78) (k := 4) rfl rfl) ?_
          refine ex_iload_n (pc := 147) (k := 1) (by decide +kernel) rfl ?_
          refine ex_iload_n (pc := 148) (k := 3) (by decide +kernel) rfl ?_
          obtain ⟨g10, h⟩ := h
          refine ey_iast (pc := 149) (by decide +kernel) (hF.s (j := 82) rfl) g10 rfl ?_
          refine ex_iload (pc := 150) (k := 5) (by decide +kernel) rfl ?_
          exact ex_ireturn (pc := 152) (by decide +kernel) rfl rfl h
        · replace h := h.2 hc
          refine ex_aload_n (pc := 133) (k := 0) (by decide +kernel) rfl ?_
          refine ex_getR (pc := 134) (a := 81) (by decide +kernel) lf_MM_16 (hF.s (j := 78) rfl) (hF.r (j := 78) (k := 3) rfl rfl) ?_
          refine ex_iload_n (pc := 137) (k := 1) (by decide +kernel) rfl ?_
          refine ex_iload_n (pc := 138) (k := 3) (by decide +kernel) rfl ?_
          obtain ⟨g11, h⟩ := h
          refine ey_iast (pc := 139) (by decide +kernel) (hF.s (j := 81) rfl) g11 rfl ?_
          refine ex_goto (pc := 140) (off := 10) (tgt := 150) (by decide +kernel) (by decide) ?_
          refine ex_iload (pc := 150) (k := 5) (by decide +kernel) rfl ?_
          exact ex_ireturn (pc := 152) (by decide +kernel) rfl rfl h
      · replace h := h.2 hc
        refine ex_aload_n (pc := 118) (k := 0) (by decide +kernel) rfl ?_
        refine ex_getR (pc := 119) (a := 80) (by decide +kernel) lf_MM_13 (hF.s (j := 78) rfl) (hF.r (j := 78) (k := 2) rfl rfl) ?_
        refine ex_iload_n (pc := 122) (k := 1) (by decide +kernel) rfl ?_
        refine ex_iload_n (pc := 123) (k := 3) (by decide +kernel) rfl ?_
        obtain ⟨g12, h⟩ := h
        refine ey_iast (pc := 124) (by decide +kernel) (hF.s (j := 80) rfl) g12 rfl ?_
        refine ex_goto (pc := 125) (off := 25) (tgt := 150) (by decide +kernel) (by decide) ?_
        refine ex_iload (pc := 150) (k := 5) (by decide +kernel) rfl ?_
        exact ex_ireturn (pc := 152) (by decide +kernel) rfl rfl h
  · replace h := h.2 hc
    refine ex_bipush (pc := 76) (k := -7) (v := -7) (by decide +kernel) (by decide) ?_
    exact ex_ireturn (pc := 78) (by decide +kernel) rfl rfl h
theorem k_MM_townTold_0 {d bc bs : Nat} {l1 : Int32} {l2 : Int32} {M : Mem} {Φ : Option Value → Mem → Prop} (hF : Fm M) (h : Con d m_MM_isTown 0 0 [.ref 78, .int l1] M (PB fun r1 M1 => Fm M1 ∧ (r1 = true → (¬ l2 = 0 → (¬ l2 = (nI 1) → (¬ l2 = (nI 2) → (¬ l2 = (nI 3) → Φ (some (.int (-7))) M1) ∧ (l2 = (nI 3) → vp_in l1 6 ∧ Φ (some (.int (mi M1 82 l1.toNatClampNeg))) M1)) ∧ (l2 = (nI 2) → vp_in l1 6 ∧ Φ (some (.int (mi M1 81 l1.toNatClampNeg))) M1)) ∧ (l2 = (nI 1) → vp_in l1 6 ∧ Φ (some (.int (mi M1 80 l1.toNatClampNeg))) M1)) ∧ (l2 = 0 → vp_in l1 6 ∧ Φ (some (.int (mi M1 79 l1.toNatClampNeg))) M1)) ∧ (r1 = false → Φ (some (.int (-5))) M1))) : Ex (d + 1) m_MM_townTold bc bs 0 [some (.ref 78), some (.int l1), some (.int l2)] [] M Φ := by
  refine ex_aload_n (pc := 0) (k := 0) (by decide +kernel) rfl ?_
  refine ex_iload_n (pc := 1) (k := 1) (by decide +kernel) rfl ?_
  refine ex_callV (pc := 2) (as := [.int l1]) (by decide +kernel) F_MM_isTown (in_t6 (i := 18) rfl rfl) (hF.s (j := 78) rfl) rfl (by decide) rfl rfl (Nat.le_of_ble_eq_true rfl) (Nat.lt_succ_self _) ⟨Nat.zero_le _, Nat.zero_le _⟩ (KC_B (Con.mono h ?_))
  intro o M1 ⟨r1, e9, hF1, h⟩
  refine ⟨r1, e9, ?_⟩
  refine ey_ifneB (pc := 5) (off := 6) (tgt := 11) (by decide +kernel) (by decide) (fun hc => ?_) (fun hc => ?_)
  · replace h := h.1 hc
    refine ex_iload_n (pc := 11) (k := 2) (by decide +kernel) rfl ?_
    refine ex_if_ne (pc := 12) (off := 12) (tgt := 24) (by decide +kernel) (by decide) (fun hc => ?_) (fun hc => ?_)
    · replace h := h.1 hc
      refine ex_iload_n (pc := 24) (k := 2) (by decide +kernel) rfl ?_
      refine ex_iconst (pc := 25) (k := 1) (v := nI 1) (by decide +kernel) (by decide) ?_
      refine ex_icmp_ne (pc := 26) (off := 12) (tgt := 38) (by decide +kernel) (by decide) (fun hc => ?_) (fun hc => ?_)
      · replace h := h.1 hc
        refine ex_iload_n (pc := 38) (k := 2) (by decide +kernel) rfl ?_
        refine ex_iconst (pc := 39) (k := 2) (v := nI 2) (by decide +kernel) (by decide) ?_
        refine ex_icmp_ne (pc := 40) (off := 12) (tgt := 52) (by decide +kernel) (by decide) (fun hc => ?_) (fun hc => ?_)
        · replace h := h.1 hc
          refine ex_iload_n (pc := 52) (k := 2) (by decide +kernel) rfl ?_
          refine ex_iconst (pc := 53) (k := 3) (v := nI 3) (by decide +kernel) (by decide) ?_
          refine ex_icmp_ne (pc := 54) (off := 12) (tgt := 66) (by decide +kernel) (by decide) (fun hc => ?_) (fun hc => ?_)
          · replace h := h.1 hc
            refine ex_bipush (pc := 66) (k := -7) (v := -7) (by decide +kernel) (by decide) ?_
            exact ex_ireturn (pc := 68) (by decide +kernel) rfl rfl h
          · replace h := h.2 hc
            refine ex_aload_n (pc := 57) (k := 0) (by decide +kernel) rfl ?_
            refine ex_getR (pc := 58) (a := 82) (by decide +kernel) lf_MM_19 (hF1.s (j := 78) rfl) (hF1.r (j := 78) (k := 4) rfl rfl) ?_
            refine ex_iload_n (pc := 61) (k := 1) (by decide +kernel) rfl ?_
            obtain ⟨g1, h⟩ := h
            refine ey_iald (pc := 62) (v := mi M1 82 l1.toNatClampNeg) (by decide +kernel) (hF1.s (j := 82) rfl) g1 rfl rfl ?_
            refine ex_goto (pc := 63) (off := 5) (tgt := 68) (by decide +kernel) (by decide) ?_
            exact ex_ireturn (pc := 68) (by decide +kernel) rfl rfl h
        · replace h := h.2 hc
          refine ex_aload_n (pc := 43) (k := 0) (by decide +kernel) rfl ?_
          refine ex_getR (pc := 44) (a := 81) (by decide +kernel) lf_MM_16 (hF1.s (j := 78) rfl) (hF1.r (j := 78) (k := 3) rfl rfl) ?_
          refine ex_iload_n (pc := 47) (k := 1) (by decide +kernel) rfl ?_
          obtain ⟨g2, h⟩ := h
          refine ey_iald (pc := 48) (v := mi M1 81 l1.toNatClampNeg) (by decide +kernel) (hF1.s (j := 81) rfl) g2 rfl rfl ?_
          refine ex_goto (pc := 49) (off := 19) (tgt := 68) (by decide +kernel) (by decide) ?_
          exact ex_ireturn (pc := 68) (by decide +kernel) rfl rfl h
      · replace h := h.2 hc
        refine ex_aload_n (pc := 29) (k := 0) (by decide +kernel) rfl ?_
        refine ex_getR (pc := 30) (a := 80) (by decide +kernel) lf_MM_13 (hF1.s (j := 78) rfl) (hF1.r (j := 78) (k := 2) rfl rfl) ?_
        refine ex_iload_n (pc := 33) (k := 1) (by decide +kernel) rfl ?_
        obtain ⟨g3, h⟩ := h
        refine ey_iald (pc := 34) (v := mi M1 80 l1.toNatClampNeg) (by decide +kernel) (hF1.s (j := 80) rfl) g3 rfl rfl ?_
        refine ex_goto (pc := 35) (off := 33) (tgt := 68) (by decide +kernel) (by decide) ?_
        exact ex_ireturn (pc := 68) (by decide +kernel) rfl rfl h
    · replace h := h.2 hc
      refine ex_aload_n (pc := 15) (k := 0) (by decide +kernel) rfl ?_
      refine ex_getR (pc := 16) (a := 79) (by decide +kernel) lf_MM_7 (hF1.s (j := 78) rfl) (hF1.r (j := 78) (k := 1) rfl rfl) ?_
      refine ex_iload_n (pc := 19) (k := 1) (by decide +kernel) rfl ?_
      obtain ⟨g4, h⟩ := h
      refine ey_iald (pc := 20) (v := mi M1 79 l1.toNatClampNeg) (by decide +kernel) (hF1.s (j := 79) rfl) g4 rfl rfl ?_
      refine ex_goto (pc := 21) (off := 47) (tgt := 68) (by decide +kernel) (by decide) ?_
      exact ex_ireturn (pc := 68) (by decide +kernel) rfl rfl h
  · replace h := h.2 hc
    refine ex_bipush (pc := 8) (k := -5) (v := -5) (by decide +kernel) (by decide) ?_
    exact ex_ireturn (pc := 10) (by decide +kernel) rfl rfl h
theorem k_MM_feast_0 {d bc bs : Nat} {l1 : Int32} {l2 : Int32} {M : Mem} {Φ : Option Value → Mem → Prop} (hF : Fm M) (h : Con d m_MM_isWeek 0 0 [.int l1] M (PB fun r1 M1 => Fm M1 ∧ (r1 = false → Φ (some (.int (-2))) M1) ∧ (r1 = true → Con d m_MM_in 0 0 [.int l2, .int (nI 0), .int (nI 6)] M1 (PB fun r2 M2 => Fm M2 ∧ (r2 = true → (¬ (mi M2 78 7) = (nI 10) → vp_in (mi M2 78 7) 10 ∧ vp_in (mi M2 78 7) 10 ∧ Φ (some (.int ((mi M2 78 7) + (nI 1)))) (wi (wi (wi M2 84 ((mi M2 78 7).toNatClampNeg) l1) 85 ((mi M2 78 7).toNatClampNeg) l2) 78 7 ((mi M2 78 7) + (nI 1)))) ∧ ((mi M2 78 7) = (nI 10) → Φ (some (.int (-4))) M2)) ∧ (r2 = false → Φ (some (.int (-2))) M2))))) : Ex (d + 1) m_MM_feast bc bs 0 [some (.ref 78), some (.int l1), some (.int l2)] [] M Φ := by
  refine ex_iload_n (pc := 0) (k := 1) (by decide +kernel) rfl ?_
  refine ex_callS (pc := 1) (as := [.int l1]) (by decide +kernel) F_MM_isWeek (in_t6 (i := 46) rfl rfl) rfl rfl (Nat.le_of_ble_eq_true rfl) (Nat.lt_succ_self _) ⟨Nat.zero_le _, Nat.zero_le _⟩ (KC_B (Con.mono h ?_))
  intro o M1 ⟨r1, e9, hF1, h⟩
  refine ⟨r1, e9, ?_⟩
  refine ey_ifeqB (pc := 4) (off := 13) (tgt := 17) (by decide +kernel) (by decide) (fun hc => ?_) (fun hc => ?_)
  · replace h := h.1 hc
    refine ex_bipush (pc := 17) (k := -2) (v := -2) (by decide +kernel) (by decide) ?_
    exact ex_ireturn (pc := 19) (by decide +kernel) rfl rfl h
  · replace h := h.2 hc
    refine ex_iload_n (pc := 7) (k := 2) (by decide +kernel) rfl ?_
    refine ex_iconst (pc := 8) (k := 0) (v := nI 0) (by decide +kernel) (by decide) ?_
    refine ex_bipush (pc := 9) (k := 6) (v := nI 6) (by decide +kernel) (by decide) ?_
    refine ex_callS (pc := 11) (as := [.int l2, .int (nI 0), .int (nI 6)]) (by decide +kernel) F_MM_in (in_t6 (i := 11) rfl rfl) rfl rfl (Nat.le_of_ble_eq_true rfl) (Nat.lt_succ_self _) ⟨Nat.zero_le _, Nat.zero_le _⟩ (KC_B (Con.mono h ?_))
    intro o M2 ⟨r2, e9, hF2, h⟩
    refine ⟨r2, e9, ?_⟩
    refine ey_ifneB (pc := 14) (off := 6) (tgt := 20) (by decide +kernel) (by decide) (fun hc => ?_) (fun hc => ?_)
    · replace h := h.1 hc
      refine ex_aload_n (pc := 20) (k := 0) (by decide +kernel) rfl ?_
      refine ey_getI (pc := 21) (v := mi M2 78 7) (by decide +kernel) lf_MM_168 (hF2.s (j := 78) rfl) rfl ?_
      refine ex_bipush (pc := 24) (k := 10) (v := nI 10) (by decide +kernel) (by decide) ?_
      refine ex_icmp_ne (pc := 26) (off := 6) (tgt := 32) (by decide +kernel) (by decide) (fun hc => ?_) (fun hc => ?_)
      · replace h := h.1 hc
        refine ex_aload_n (pc := 32) (k := 0) (by decide +kernel) rfl ?_
        refine ex_getR (pc := 33) (a := 84) (by decide +kernel) lf_MM_29 (hF2.s (j := 78) rfl) (hF2.r (j := 78) (k := 8) rfl rfl) ?_
        refine ex_aload_n (pc := 36) (k := 0) (by decide +kernel) rfl ?_
        refine ey_getI (pc := 37) (v := mi M2 78 7) (by decide +kernel) lf_MM_168 (hF2.s (j := 78) rfl) rfl ?_
        refine ex_iload_n (pc := 40) (k := 1) (by decide +kernel) rfl ?_
        obtain ⟨g1, h⟩ := h
        refine ey_iast (pc := 41) (by decide +kernel) (hF2.s (j := 84) rfl) g1 rfl ?_
        refine ex_aload_n (pc := 42) (k := 0) (by decide +kernel) rfl ?_
        refine ex_getR (pc := 43) (a := 85) (by decide +kernel) lf_MM_32 (hF2.s (j := 78) rfl) (hF2.r (j := 78) (k := 9) rfl rfl) ?_
        refine ex_aload_n (pc := 46) (k := 0) (by decide +kernel) rfl ?_
        refine ey_getI (pc := 47) (v := mi M2 78 7) (by decide +kernel) lf_MM_168 (hF2.s (j := 78) rfl) rfl ?_
        refine ex_iload_n (pc := 50) (k := 2) (by decide +kernel) rfl ?_
        obtain ⟨g2, h⟩ := h
        refine ey_iast (pc := 51) (by decide +kernel) (hF2.s (j := 85) rfl) g2 rfl ?_
        refine ex_aload_n (pc := 52) (k := 0) (by decide +kernel) rfl ?_
        refine ex_dup (pc := 53) (by decide +kernel) rfl ?_
        refine ey_getI (pc := 54) (v := mi M2 78 7) (by decide +kernel) lf_MM_168 (hF2.s (j := 78) rfl) rfl ?_
        refine ex_iconst (pc := 57) (k := 1) (v := nI 1) (by decide +kernel) (by decide) ?_
        refine ex_iadd (pc := 58) (by decide +kernel) ?_
        refine ex_putI (pc := 59) (index := 168) (ci := 11) (k := 7) (fin := false) (by decide +kernel) ⟨_, _, _, _, cf_MM, by decide, in_t5 (i := 83) rfl rfl, rfl, (fun h => by cases h), rfl, rfl⟩ rfl (fun h => by cases h) (hF2.s (j := 78) rfl) ?_
        refine ex_aload_n (pc := 62) (k := 0) (by decide +kernel) rfl ?_
        refine ey_getI (pc := 63) (v := (mi M2 78 7) + (nI 1)) (by decide +kernel) lf_MM_168 (hF2.s (j := 78) rfl) rfl ?_
        exact ex_ireturn (pc := 66) (by decide +kernel) rfl rfl h
      · replace h := h.2 hc
        refine ex_bipush (pc := 29) (k := -4) (v := -4) (by decide +kernel) (by decide) ?_
        exact ex_ireturn (pc := 31) (by decide +kernel) rfl rfl h
    · replace h := h.2 hc
      refine ex_bipush (pc := 17) (k := -2) (v := -2) (by decide +kernel) (by decide) ?_
      exact ex_ireturn (pc := 19) (by decide +kernel) rfl rfl h
theorem k_MM_feed_0 {d bc bs : Nat} {l1 : Int64} {l3 : Int32} {M : Mem} {Φ : Option Value → Mem → Prop} (hF : Fm M) (h : Con d m_MM_in 0 0 [.int l3, .int (nI 1), .int (nI 8)] M (PB fun r1 M1 => Fm M1 ∧ (r1 = true → (((mi M1 78 11) + l3) ≤ (nI 160) → Ex (d + 1) m_MM_feed bc bs 33 [some (.ref 78), some (.long l1), none, some (.int l3), some (.int (l3 - (nI 1)))] [] M1 Φ) ∧ (¬ ((mi M1 78 11) + l3) ≤ (nI 160) → Φ (some (.int (-4))) M1)) ∧ (r1 = false → Φ (some (.int (-2))) M1))) : Ex (d + 1) m_MM_feed bc bs 0 [some (.ref 78), some (.long l1), none, some (.int l3), none] [] M Φ := by
  refine ex_iload_n (pc := 0) (k := 3) (by decide +kernel) rfl ?_
  refine ex_iconst (pc := 1) (k := 1) (v := nI 1) (by decide +kernel) (by decide) ?_
  refine ex_bipush (pc := 2) (k := 8) (v := nI 8) (by decide +kernel) (by decide) ?_
  refine ex_callS (pc := 4) (as := [.int l3, .int (nI 1), .int (nI 8)]) (by decide +kernel) F_MM_in (in_t6 (i := 11) rfl rfl) rfl rfl (Nat.le_of_ble_eq_true rfl) (Nat.lt_succ_self _) ⟨Nat.zero_le _, Nat.zero_le _⟩ (KC_B (Con.mono h ?_))
  intro o M1 ⟨r1, e9, hF1, h⟩
  refine ⟨r1, e9, ?_⟩
  refine ey_ifneB (pc := 7) (off := 6) (tgt := 13) (by decide +kernel) (by decide) (fun hc => ?_) (fun hc => ?_)
  · replace h := h.1 hc
    refine ex_aload_n (pc := 13) (k := 0) (by decide +kernel) rfl ?_
    refine ey_getI (pc := 14) (v := mi M1 78 11) (by decide +kernel) lf_MM_171 (hF1.s (j := 78) rfl) rfl ?_
    refine ex_iload_n (pc := 17) (k := 3) (by decide +kernel) rfl ?_
    refine ex_iadd (pc := 18) (by decide +kernel) ?_
    refine ex_sipush (pc := 19) (k := 160) (v := nI 160) (by decide +kernel) (by decide) ?_
    refine ex_icmp_le (pc := 22) (off := 6) (tgt := 28) (by decide +kernel) (by decide) (fun hc => ?_) (fun hc => ?_)
    · replace h := h.1 hc
      refine ex_iload_n (pc := 28) (k := 3) (by decide +kernel) rfl ?_
      refine ex_iconst (pc := 29) (k := 1) (v := nI 1) (by decide +kernel) (by decide) ?_
      refine ex_isub (pc := 30) (by decide +kernel) ?_
      refine ex_istore (pc := 31) (k := 4) (lo2 := [some (.ref 78), some (.long l1), none, some (.int l3), some (.int (l3 - (nI 1)))]) (by decide +kernel) (by decide) rfl ?_
      exact h
    · replace h := h.2 hc
      refine ex_bipush (pc := 25) (k := -4) (v := -4) (by decide +kernel) (by decide) ?_
      exact ex_ireturn (pc := 27) (by decide +kernel) rfl rfl h
  · replace h := h.2 hc
    refine ex_bipush (pc := 10) (k := -2) (v := -2) (by decide +kernel) (by decide) ?_
    exact ex_ireturn (pc := 12) (by decide +kernel) rfl rfl h
theorem k_MM_feed_33 {d bc bs : Nat} {l1 : Int64} {l3 : Int32} {l4 : Int32} {M : Mem} {Φ : Option Value → Mem → Prop} (hF : Fm M) (h : (l4 < 0 → Φ (some (.int (mi M 78 11))) M) ∧ (¬ l4 < 0 → vp_in (mi M 78 11) 160 ∧ Ex (d + 1) m_MM_feed bc bs 33 [some (.ref 78), some (.long l1), none, some (.int l3), some (.int (l4 + (-1)))] [] (wi (wi M 86 ((mi M 78 11).toNatClampNeg) (Int64.toInt32 ((l1 >>> (Int32.toInt64 ((nI 8) * l4) &&& 63)) &&& 255))) 78 11 ((mi M 78 11) + (nI 1))) Φ)) : Ex (d + 1) m_MM_feed bc bs 33 [some (.ref 78), some (.long l1), none, some (.int l3), some (.int l4)] [] M Φ := by
  refine ex_iload (pc := 33) (k := 4) (by decide +kernel) rfl ?_
  refine ex_if_lt (pc := 35) (off := 40) (tgt := 75) (by decide +kernel) (by decide) (fun hc => ?_) (fun hc => ?_)
  · replace h := h.1 hc
    refine ex_aload_n (pc := 75) (k := 0) (by decide +kernel) rfl ?_
    refine ey_getI (pc := 76) (v := mi M 78 11) (by decide +kernel) lf_MM_171 (hF.s (j := 78) rfl) rfl ?_
    exact ex_ireturn (pc := 79) (by decide +kernel) rfl rfl h
  · replace h := h.2 hc
    refine ex_aload_n (pc := 38) (k := 0) (by decide +kernel) rfl ?_
    refine ex_getR (pc := 39) (a := 86) (by decide +kernel) lf_MM_35 (hF.s (j := 78) rfl) (hF.r (j := 78) (k := 10) rfl rfl) ?_
    refine ex_aload_n (pc := 42) (k := 0) (by decide +kernel) rfl ?_
    refine ey_getI (pc := 43) (v := mi M 78 11) (by decide +kernel) lf_MM_171 (hF.s (j := 78) rfl) rfl ?_
    refine ex_lload_n (pc := 46) (k := 1) (by decide +kernel) rfl ?_
    refine ex_bipush (pc := 47) (k := 8) (v := nI 8) (by decide +kernel) (by decide) ?_
    refine ex_iload (pc := 49) (k := 4) (by decide +kernel) rfl ?_
    refine ex_imul (pc := 51) (by decide +kernel) ?_
    refine ex_lshr (pc := 52) (by decide +kernel) ?_
    refine ex_ldc2 (pc := 53) (v := 255) (by decide +kernel) (in_t6 (i := 53) rfl rfl) ?_
    refine ex_land (pc := 56) (by decide +kernel) ?_
    refine ex_l2i (pc := 57) (by decide +kernel) ?_
    obtain ⟨g1, h⟩ := h
    refine ey_iast (pc := 58) (by decide +kernel) (hF.s (j := 86) rfl) g1 rfl ?_
    refine ex_aload_n (pc := 59) (k := 0) (by decide +kernel) rfl ?_
    refine ex_dup (pc := 60) (by decide +kernel) rfl ?_
    refine ey_getI (pc := 61) (v := mi M 78 11) (by decide +kernel) lf_MM_171 (hF.s (j := 78) rfl) rfl ?_
    refine ex_iconst (pc := 64) (k := 1) (v := nI 1) (by decide +kernel) (by decide) ?_
    refine ex_iadd (pc := 65) (by decide +kernel) ?_
    refine ex_putI (pc := 66) (index := 171) (ci := 11) (k := 11) (fin := false) (by decide +kernel) ⟨_, _, _, _, cf_MM, by decide, in_t5 (i := 87) rfl rfl, rfl, (fun h => by cases h), rfl, rfl⟩ rfl (fun h => by cases h) (hF.s (j := 78) rfl) ?_
    refine ex_iinc (pc := 69) (i := 4) (k := -1) (v := l4 + (-1)) (lo2 := [some (.ref 78), some (.long l1), none, some (.int l3), some (.int (l4 + (-1)))]) (by decide +kernel) (by decide) rfl rfl rfl ?_
    refine ex_goto (pc := 72) (off := -39) (tgt := 33) (by decide +kernel) (by decide) ?_
    exact h
theorem k_MM_letters_0 {d bc bs : Nat}  {M : Mem} {Φ : Option Value → Mem → Prop} (hF : Fm M) (h : Ex (d + 1) m_MM_letters bc bs 4 [some (.ref 78), some (.long 0), none, some (.int (nI 0))] [] M Φ) : Ex (d + 1) m_MM_letters bc bs 0 [some (.ref 78), none, none, none] [] M Φ := by
  refine ex_lconst (pc := 0) (k := 0) (v := 0) (by decide +kernel) rfl ?_
  refine ex_lstore_n (pc := 1) (k := 1) (lo2 := [some (.ref 78), some (.long 0), none, none]) (by decide +kernel) (by decide) rfl ?_
  refine ex_iconst (pc := 2) (k := 0) (v := nI 0) (by decide +kernel) (by decide) ?_
  refine ex_istore_n (pc := 3) (k := 3) (lo2 := [some (.ref 78), some (.long 0), none, some (.int (nI 0))]) (by decide +kernel) (by decide) rfl ?_
  exact h
theorem k_MM_letters_4 {d bc bs : Nat} {l1 : Int64} {l3 : Int32} {M : Mem} {Φ : Option Value → Mem → Prop} (hF : Fm M) (h : ((mi M 78 11) ≤ (mi M 78 40) → Ex (d + 1) m_MM_letters bc bs 76 [some (.ref 78), some (.long l1), none, some (.int l3)] [] M Φ) ∧ (¬ (mi M 78 11) ≤ (mi M 78 40) → vp_in (mi M 78 40) 160 ∧ Con d m_MM_in 0 0 [.int (mi M 86 ((mi M 78 40).toNatClampNeg)), .int (nI 97), .int (nI 122)] M (PB fun r1 M1 => Fm M1 ∧ (r1 = false → Ex (d + 1) m_MM_letters bc bs 76 [some (.ref 78), some (.long l1), none, some (.int l3)] [] M1 Φ) ∧ (r1 = true → ((nI 8) ≤ l3 → Ex (d + 1) m_MM_letters bc bs 4 [some (.ref 78), some (.long l1), none, some (.int (l3 + nI 1))] [] (wi M1 78 40 ((mi M1 78 40) + (nI 1))) Φ) ∧ (¬ (nI 8) ≤ l3 → vp_in (mi M1 78 40) 160 ∧ Ex (d + 1) m_MM_letters bc bs 4 [some (.ref 78), some (.long ((l1 <<< (Int32.toInt64 (nI 8) &&& 63)) ||| (Int32.toInt64 (mi M1 86 ((mi M1 78 40).toNatClampNeg))))), none, some (.int (l3 + nI 1))] [] (wi M1 78 40 ((mi M1 78 40) + (nI 1))) Φ))))) : Ex (d + 1) m_MM_letters bc bs 4 [some (.ref 78), some (.long l1), none, some (.int l3)] [] M Φ := by
  refine ex_aload_n (pc := 4) (k := 0) (by decide +kernel) rfl ?_
  refine ey_getI (pc := 5) (v := mi M 78 40) (by decide +kernel) lf_MM_176 (hF.s (j := 78) rfl) rfl ?_
  refine ex_aload_n (pc := 8) (k := 0) (by decide +kernel) rfl ?_
  refine ey_getI (pc := 9) (v := mi M 78 11) (by decide +kernel) lf_MM_171 (hF.s (j := 78) rfl) rfl ?_
  refine ex_icmp_ge (pc := 12) (off := 64) (tgt := 76) (by decide +kernel) (by decide) (fun hc => ?_) (fun hc => ?_)
  · replace h := h.1 hc
    exact h
  · replace h := h.2 hc
    refine ex_aload_n (pc := 15) (k := 0) (by decide +kernel) rfl ?_
    refine ex_getR (pc := 16) (a := 86) (by decide +kernel) lf_MM_35 (hF.s (j := 78) rfl) (hF.r (j := 78) (k := 10) rfl rfl) ?_
    refine ex_aload_n (pc := 19) (k := 0) (by decide +kernel) rfl ?_
    refine ey_getI (pc := 20) (v := mi M 78 40) (by decide +kernel) lf_MM_176 (hF.s (j := 78) rfl) rfl ?_
    obtain ⟨g1, h⟩ := h
    refine ey_iald (pc := 23) (v := mi M 86 ((mi M 78 40).toNatClampNeg)) (by decide +kernel) (hF.s (j := 86) rfl) g1 rfl rfl ?_
    refine ex_bipush (pc := 24) (k := 97) (v := nI 97) (by decide +kernel) (by decide) ?_
    refine ex_bipush (pc := 26) (k := 122) (v := nI 122) (by decide +kernel) (by decide) ?_
    refine ex_callS (pc := 28) (as := [.int (mi M 86 ((mi M 78 40).toNatClampNeg)), .int (nI 97), .int (nI 122)]) (by decide +kernel) F_MM_in (in_t6 (i := 11) rfl rfl) rfl rfl (Nat.le_of_ble_eq_true rfl) (Nat.lt_succ_self _) ⟨Nat.zero_le _, Nat.zero_le _⟩ (KC_B (Con.mono h ?_))
    intro o M1 ⟨r1, e9, hF1, h⟩
    refine ⟨r1, e9, ?_⟩
    refine ey_ifeqB (pc := 31) (off := 45) (tgt := 76) (by decide +kernel) (by decide) (fun hc => ?_) (fun hc => ?_)
    · replace h := h.1 hc
      exact h
    · replace h := h.2 hc
      refine ex_iload_n (pc := 34) (k := 3) (by decide +kernel) rfl ?_
      refine ex_bipush (pc := 35) (k := 8) (v := nI 8) (by decide +kernel) (by decide) ?_
      refine ex_icmp_ge (pc := 37) (off := 21) (tgt := 58) (by decide +kernel) (by decide) (fun hc => ?_) (fun hc => ?_)
      · replace h := h.1 hc
        refine ex_lload_n (pc := 58) (k := 1) (by decide +kernel) rfl ?_
        refine ex_lstore_n (pc := 59) (k := 1) (lo2 := [some (.ref 78), some (.long l1), none, some (.int l3)]) (by decide +kernel) (by decide) rfl ?_
        refine ex_iinc (pc := 60) (i := 3) (k := 1) (v := l3 + nI 1) (lo2 := [some (.ref 78), some (.long l1), none, some (.int (l3 + nI 1))]) (by decide +kernel) (by decide) rfl rfl rfl ?_
        refine ex_aload_n (pc := 63) (k := 0) (by decide +kernel) rfl ?_
        refine ex_dup (pc := 64) (by decide +kernel) rfl ?_
        refine ey_getI (pc := 65) (v := mi M1 78 40) (by decide +kernel) lf_MM_176 (hF1.s (j := 78) rfl) rfl ?_
        refine ex_iconst (pc := 68) (k := 1) (v := nI 1) (by decide +kernel) (by decide) ?_
        refine ex_iadd (pc := 69) (by decide +kernel) ?_
        refine ex_putI (pc := 70) (index := 176) (ci := 11) (k := 40) (fin := false) (by decide +kernel) ⟨_, _, _, _, cf_MM, by decide, in_t5 (i := 116) rfl rfl, rfl, (fun h => by cases h), rfl, rfl⟩ rfl (fun h => by cases h) (hF1.s (j := 78) rfl) ?_
        refine ex_goto (pc := 73) (off := -69) (tgt := 4) (by decide +kernel) (by decide) ?_
        exact h
      · replace h := h.2 hc
        refine ex_lload_n (pc := 40) (k := 1) (by decide +kernel) rfl ?_
        refine ex_bipush (pc := 41) (k := 8) (v := nI 8) (by decide +kernel) (by decide) ?_
        refine ex_lshl (pc := 43) (by decide +kernel) ?_
        refine ex_aload_n (pc := 44) (k := 0) (by decide +kernel) rfl ?_
        refine ex_getR (pc := 45) (a := 86) (by decide +kernel) lf_MM_35 (hF1.s (j := 78) rfl) (hF1.r (j := 78) (k := 10) rfl rfl) ?_
        refine ex_aload_n (pc := 48) (k := 0) (by decide +kernel) rfl ?_
        refine ey_getI (pc := 49) (v := mi M1 78 40) (by decide +kernel) lf_MM_176 (hF1.s (j := 78) rfl) rfl ?_
        obtain ⟨g2, h⟩ := h
        refine ey_iald (pc := 52) (v := mi M1 86 ((mi M1 78 40).toNatClampNeg)) (by decide +kernel) (hF1.s (j := 86) rfl) g2 rfl rfl ?_
        refine ex_i2l (pc := 53) (by decide +kernel) ?_
        refine ex_lor (pc := 54) (by decide +kernel) ?_
        refine ex_goto (pc := 55) (off := 4) (tgt := 59) (by decide +kernel) (by decide) ?_
        refine ex_lstore_n (pc := 59) (k := 1) (lo2 := [some (.ref 78), some (.long ((l1 <<< (Int32.toInt64 (nI 8) &&& 63)) ||| (Int32.toInt64 (mi M1 86 ((mi M1 78 40).toNatClampNeg))))), none, some (.int l3)]) (by decide +kernel) (by decide) rfl ?_
        refine ex_iinc (pc := 60) (i := 3) (k := 1) (v := l3 + nI 1) (lo2 := [some (.ref 78), some (.long ((l1 <<< (Int32.toInt64 (nI 8) &&& 63)) ||| (Int32.toInt64 (mi M1 86 ((mi M1 78 40).toNatClampNeg))))), none, some (.int (l3 + nI 1))]) (by decide +kernel) (by decide) rfl rfl rfl ?_
        refine ex_aload_n (pc := 63) (k := 0) (by decide +kernel) rfl ?_
        refine ex_dup (pc := 64) (by decide +kernel) rfl ?_
        refine ey_getI (pc := 65) (v := mi M1 78 40) (by decide +kernel) lf_MM_176 (hF1.s (j := 78) rfl) rfl ?_
        refine ex_iconst (pc := 68) (k := 1) (v := nI 1) (by decide +kernel) (by decide) ?_
        refine ex_iadd (pc := 69) (by decide +kernel) ?_
        refine ex_putI (pc := 70) (index := 176) (ci := 11) (k := 40) (fin := false) (by decide +kernel) ⟨_, _, _, _, cf_MM, by decide, in_t5 (i := 116) rfl rfl, rfl, (fun h => by cases h), rfl, rfl⟩ rfl (fun h => by cases h) (hF1.s (j := 78) rfl) ?_
        refine ex_goto (pc := 73) (off := -69) (tgt := 4) (by decide +kernel) (by decide) ?_
        exact h
theorem k_MM_letters_76 {d bc bs : Nat} {l1 : Int64} {l3 : Int32} {M : Mem} {Φ : Option Value → Mem → Prop} (hF : Fm M) (h : (l3 ≤ (nI 5) → Φ (some (.long l1)) M) ∧ (¬ l3 ≤ (nI 5) → Φ (some (.long 0)) M)) : Ex (d + 1) m_MM_letters bc bs 76 [some (.ref 78), some (.long l1), none, some (.int l3)] [] M Φ := by
  refine ex_iload_n (pc := 76) (k := 3) (by decide +kernel) rfl ?_
  refine ex_iconst (pc := 77) (k := 5) (v := nI 5) (by decide +kernel) (by decide) ?_
  refine ex_icmp_le (pc := 78) (off := 7) (tgt := 85) (by decide +kernel) (by decide) (fun hc => ?_) (fun hc => ?_)
  · replace h := h.1 hc
    refine ex_lload_n (pc := 85) (k := 1) (by decide +kernel) rfl ?_
    exact ex_lreturn (pc := 86) (by decide +kernel) rfl h
  · replace h := h.2 hc
    refine ex_lconst (pc := 81) (k := 0) (v := 0) (by decide +kernel) rfl ?_
    refine ex_goto (pc := 82) (off := 4) (tgt := 86) (by decide +kernel) (by decide) ?_
    exact ex_lreturn (pc := 86) (by decide +kernel) rfl h
theorem k_MM_next_0 {d bc bs : Nat}  {M : Mem} {Φ : Option Value → Mem → Prop} (hF : Fm M) (h : ((mi M 78 11) ≤ (mi M 78 40) → Ex (d + 1) m_MM_next bc bs 52 [some (.ref 78), none, none, none, none] [] M Φ) ∧ (¬ (mi M 78 11) ≤ (mi M 78 40) → vp_in (mi M 78 40) 160 ∧ ((mi M 86 ((mi M 78 40).toNatClampNeg)) = (nI 32) → Ex (d + 1) m_MM_next bc bs 39 [some (.ref 78), none, none, none, none] [] M Φ) ∧ (¬ (mi M 86 ((mi M 78 40).toNatClampNeg)) = (nI 32) → vp_in (mi M 78 40) 160 ∧ (¬ (mi M 86 ((mi M 78 40).toNatClampNeg)) = (nI 10) → Ex (d + 1) m_MM_next bc bs 52 [some (.ref 78), none, none, none, none] [] M Φ) ∧ ((mi M 86 ((mi M 78 40).toNatClampNeg)) = (nI 10) → Ex (d + 1) m_MM_next bc bs 39 [some (.ref 78), none, none, none, none] [] M Φ)))) : Ex (d + 1) m_MM_next bc bs 0 [some (.ref 78), none, none, none, none] [] M Φ := by
  refine ex_aload_n (pc := 0) (k := 0) (by decide +kernel) rfl ?_
  refine ey_getI (pc := 1) (v := mi M 78 40) (by decide +kernel) lf_MM_176 (hF.s (j := 78) rfl) rfl ?_
  refine ex_aload_n (pc := 4) (k := 0) (by decide +kernel) rfl ?_
  refine ey_getI (pc := 5) (v := mi M 78 11) (by decide +kernel) lf_MM_171 (hF.s (j := 78) rfl) rfl ?_
  refine ex_icmp_ge (pc := 8) (off := 44) (tgt := 52) (by decide +kernel) (by decide) (fun hc => ?_) (fun hc => ?_)
  · replace h := h.1 hc
    exact h
  · replace h := h.2 hc
    refine ex_aload_n (pc := 11) (k := 0) (by decide +kernel) rfl ?_
    refine ex_getR (pc := 12) (a := 86) (by decide +kernel) lf_MM_35 (hF.s (j := 78) rfl) (hF.r (j := 78) (k := 10) rfl rfl) ?_
    refine ex_aload_n (pc := 15) (k := 0) (by decide +kernel) rfl ?_
    refine ey_getI (pc := 16) (v := mi M 78 40) (by decide +kernel) lf_MM_176 (hF.s (j := 78) rfl) rfl ?_
    obtain ⟨g1, h⟩ := h
    refine ey_iald (pc := 19) (v := mi M 86 ((mi M 78 40).toNatClampNeg)) (by decide +kernel) (hF.s (j := 86) rfl) g1 rfl rfl ?_
    refine ex_bipush (pc := 20) (k := 32) (v := nI 32) (by decide +kernel) (by decide) ?_
    refine ex_icmp_eq (pc := 22) (off := 17) (tgt := 39) (by decide +kernel) (by decide) (fun hc => ?_) (fun hc => ?_)
    · replace h := h.1 hc
      exact h
    · replace h := h.2 hc
      refine ex_aload_n (pc := 25) (k := 0) (by decide +kernel) rfl ?_
      refine ex_getR (pc := 26) (a := 86) (by decide +kernel) lf_MM_35 (hF.s (j := 78) rfl) (hF.r (j := 78) (k := 10) rfl rfl) ?_
      refine ex_aload_n (pc := 29) (k := 0) (by decide +kernel) rfl ?_
      refine ey_getI (pc := 30) (v := mi M 78 40) (by decide +kernel) lf_MM_176 (hF.s (j := 78) rfl) rfl ?_
      obtain ⟨g2, h⟩ := h
      refine ey_iald (pc := 33) (v := mi M 86 ((mi M 78 40).toNatClampNeg)) (by decide +kernel) (hF.s (j := 86) rfl) g2 rfl rfl ?_
      refine ex_bipush (pc := 34) (k := 10) (v := nI 10) (by decide +kernel) (by decide) ?_
      refine ex_icmp_ne (pc := 36) (off := 16) (tgt := 52) (by decide +kernel) (by decide) (fun hc => ?_) (fun hc => ?_)
      · replace h := h.1 hc
        exact h
      · replace h := h.2 hc
        exact h
theorem k_MM_next_39 {d bc bs : Nat}  {M : Mem} {Φ : Option Value → Mem → Prop} (hF : Fm M) (h : Ex (d + 1) m_MM_next bc bs 0 [some (.ref 78), none, none, none, none] [] (wi M 78 40 ((mi M 78 40) + (nI 1))) Φ) : Ex (d + 1) m_MM_next bc bs 39 [some (.ref 78), none, none, none, none] [] M Φ := by
  refine ex_aload_n (pc := 39) (k := 0) (by decide +kernel) rfl ?_
  refine ex_dup (pc := 40) (by decide +kernel) rfl ?_
  refine ey_getI (pc := 41) (v := mi M 78 40) (by decide +kernel) lf_MM_176 (hF.s (j := 78) rfl) rfl ?_
  refine ex_iconst (pc := 44) (k := 1) (v := nI 1) (by decide +kernel) (by decide) ?_
  refine ex_iadd (pc := 45) (by decide +kernel) ?_
  refine ex_putI (pc := 46) (index := 176) (ci := 11) (k := 40) (fin := false) (by decide +kernel) ⟨_, _, _, _, cf_MM, by decide, in_t5 (i := 116) rfl rfl, rfl, (fun h => by cases h), rfl, rfl⟩ rfl (fun h => by cases h) (hF.s (j := 78) rfl) ?_
  refine ex_goto (pc := 49) (off := -49) (tgt := 0) (by decide +kernel) (by decide) ?_
  exact h
theorem k_MM_next_52 {d bc bs : Nat}  {M : Mem} {Φ : Option Value → Mem → Prop} (hF : Fm M) (h : (¬ (mi M 78 40) = (mi M 78 11) → vp_in (mi M 78 40) 160 ∧ Con d m_MM_in 0 0 [.int (mi M 86 ((mi M 78 40).toNatClampNeg)), .int (nI 97), .int (nI 122)] (wi (wi (wi M 78 41 (mi M 78 40)) 78 42 (nI 0)) 78 43 (nI 0)) (PB fun r1 M1 => Fm M1 ∧ (r1 = false → Con d m_MM_in 0 0 [.int (mi M 86 ((mi M 78 40).toNatClampNeg)), .int (nI 48), .int (nI 57)] M1 (PB fun r2 M2 => Fm M2 ∧ (r2 = false → ((mi M 86 ((mi M 78 40).toNatClampNeg)) = (nI 40) → ((nI 1) = 0 → Φ none (wi (wi M2 78 42 (-1)) 78 40 ((mi M2 78 40) + (nI 1)))) ∧ (¬ (nI 1) = 0 → Φ none (wi (wi M2 78 42 (mi M 86 ((mi M 78 40).toNatClampNeg))) 78 40 ((mi M2 78 40) + (nI 1))))) ∧ (¬ (mi M 86 ((mi M 78 40).toNatClampNeg)) = (nI 40) → ((mi M 86 ((mi M 78 40).toNatClampNeg)) = (nI 41) → ((nI 1) = 0 → Φ none (wi (wi M2 78 42 (-1)) 78 40 ((mi M2 78 40) + (nI 1)))) ∧ (¬ (nI 1) = 0 → Φ none (wi (wi M2 78 42 (mi M 86 ((mi M 78 40).toNatClampNeg))) 78 40 ((mi M2 78 40) + (nI 1))))) ∧ (¬ (mi M 86 ((mi M 78 40).toNatClampNeg)) = (nI 41) → ((mi M 86 ((mi M 78 40).toNatClampNeg)) = (nI 59) → ((nI 1) = 0 → Φ none (wi (wi M2 78 42 (-1)) 78 40 ((mi M2 78 40) + (nI 1)))) ∧ (¬ (nI 1) = 0 → Φ none (wi (wi M2 78 42 (mi M 86 ((mi M 78 40).toNatClampNeg))) 78 40 ((mi M2 78 40) + (nI 1))))) ∧ (¬ (mi M 86 ((mi M 78 40).toNatClampNeg)) = (nI 59) → ((mi M 86 ((mi M 78 40).toNatClampNeg)) = (nI 43) → ((nI 1) = 0 → Φ none (wi (wi M2 78 42 (-1)) 78 40 ((mi M2 78 40) + (nI 1)))) ∧ (¬ (nI 1) = 0 → Φ none (wi (wi M2 78 42 (mi M 86 ((mi M 78 40).toNatClampNeg))) 78 40 ((mi M2 78 40) + (nI 1))))) ∧ (¬ (mi M 86 ((mi M 78 40).toNatClampNeg)) = (nI 43) → ((mi M 86 ((mi M 78 40).toNatClampNeg)) = (nI 45) → ((nI 1) = 0 → Φ none (wi (wi M2 78 42 (-1)) 78 40 ((mi M2 78 40) + (nI 1)))) ∧ (¬ (nI 1) = 0 → Φ none (wi (wi M2 78 42 (mi M 86 ((mi M 78 40).toNatClampNeg))) 78 40 ((mi M2 78 40) + (nI 1))))) ∧ (¬ (mi M 86 ((mi M 78 40).toNatClampNeg)) = (nI 45) → ((mi M 86 ((mi M 78 40).toNatClampNeg)) = (nI 42) → ((nI 1) = 0 → Φ none (wi (wi M2 78 42 (-1)) 78 40 ((mi M2 78 40) + (nI 1)))) ∧ (¬ (nI 1) = 0 → Φ none (wi (wi M2 78 42 (mi M 86 ((mi M 78 40).toNatClampNeg))) 78 40 ((mi M2 78 40) + (nI 1))))) ∧ (¬ (mi M 86 ((mi M 78 40).toNatClampNeg)) = (nI 42) → ((mi M 86 ((mi M 78 40).toNatClampNeg)) = (nI 60) → ((nI 1) = 0 → Φ none (wi (wi M2 78 42 (-1)) 78 40 ((mi M2 78 40) + (nI 1)))) ∧ (¬ (nI 1) = 0 → Φ none (wi (wi M2 78 42 (mi M 86 ((mi M 78 40).toNatClampNeg))) 78 40 ((mi M2 78 40) + (nI 1))))) ∧ (¬ (mi M 86 ((mi M 78 40).toNatClampNeg)) = (nI 60) → (¬ (mi M 86 ((mi M 78 40).toNatClampNeg)) = (nI 61) → ((nI 0) = 0 → Φ none (wi (wi M2 78 42 (-1)) 78 40 ((mi M2 78 40) + (nI 1)))) ∧ (¬ (nI 0) = 0 → Φ none (wi (wi M2 78 42 (mi M 86 ((mi M 78 40).toNatClampNeg))) 78 40 ((mi M2 78 40) + (nI 1))))) ∧ ((mi M 86 ((mi M 78 40).toNatClampNeg)) = (nI 61) → ((nI 1) = 0 → Φ none (wi (wi M2 78 42 (-1)) 78 40 ((mi M2 78 40) + (nI 1)))) ∧ (¬ (nI 1) = 0 → Φ none (wi (wi M2 78 42 (mi M 86 ((mi M 78 40).toNatClampNeg))) 78 40 ((mi M2 78 40) + (nI 1))))))))))))) ∧ (r2 = true → Ex (d + 1) m_MM_next bc bs 214 [some (.ref 78), some (.int (mi M 86 ((mi M 78 40).toNatClampNeg))), some (.int (nI 0)), none, none] [] M2 Φ))) ∧ (r1 = true → Con d m_MM_letters 0 0 [.ref 78] M1 (PL fun r3 M3 => Fm M3 ∧ Ex (d + 1) m_MM_next bc bs 111 [some (.ref 78), some (.int (mi M 86 ((mi M 78 40).toNatClampNeg))), some (.long r3), none, some (.int (nI 0))] [] M3 Φ)))) ∧ ((mi M 78 40) = (mi M 78 11) → Φ none (wi (wi (wi M 78 41 (mi M 78 40)) 78 42 (nI 0)) 78 43 (nI 0)))) : Ex (d + 1) m_MM_next bc bs 52 [some (.ref 78), none, none, none, none] [] M Φ := by
  refine ex_aload_n (pc := 52) (k := 0) (by decide +kernel) rfl ?_
  refine ex_aload_n (pc := 53) (k := 0) (by decide +kernel) rfl ?_
  refine ey_getI (pc := 54) (v := mi M 78 40) (by decide +kernel) lf_MM_176 (hF.s (j := 78) rfl) rfl ?_
  refine ex_putI (pc := 57) (index := 179) (ci := 11) (k := 41) (fin := false) (by decide +kernel) ⟨_, _, _, _, cf_MM, by decide, in_t5 (i := 117) rfl rfl, rfl, (fun h => by cases h), rfl, rfl⟩ rfl (fun h => by cases h) (hF.s (j := 78) rfl) ?_
  refine ex_aload_n (pc := 60) (k := 0) (by decide +kernel) rfl ?_
  refine ex_iconst (pc := 61) (k := 0) (v := nI 0) (by decide +kernel) (by decide) ?_
  refine ex_putI (pc := 62) (index := 182) (ci := 11) (k := 42) (fin := false) (by decide +kernel) ⟨_, _, _, _, cf_MM, by decide, in_t5 (i := 118) rfl rfl, rfl, (fun h => by cases h), rfl, rfl⟩ rfl (fun h => by cases h) (hF.s (j := 78) rfl) ?_
  refine ex_aload_n (pc := 65) (k := 0) (by decide +kernel) rfl ?_
  refine ex_iconst (pc := 66) (k := 0) (v := nI 0) (by decide +kernel) (by decide) ?_
  refine ex_putI (pc := 67) (index := 185) (ci := 11) (k := 43) (fin := false) (by decide +kernel) ⟨_, _, _, _, cf_MM, by decide, in_t5 (i := 119) rfl rfl, rfl, (fun h => by cases h), rfl, rfl⟩ rfl (fun h => by cases h) (hF.s (j := 78) rfl) ?_
  refine ex_aload_n (pc := 70) (k := 0) (by decide +kernel) rfl ?_
  refine ey_getI (pc := 71) (v := mi M 78 40) (by decide +kernel) lf_MM_176 (hF.s (j := 78) rfl) rfl ?_
  refine ex_aload_n (pc := 74) (k := 0) (by decide +kernel) rfl ?_
  refine ey_getI (pc := 75) (v := mi M 78 11) (by decide +kernel) lf_MM_171 (hF.s (j := 78) rfl) rfl ?_
  refine ex_icmp_ne (pc := 78) (off := 4) (tgt := 82) (by decide +kernel) (by decide) (fun hc => ?_) (fun hc => ?_)
  · replace h := h.1 hc
    refine ex_aload_n (pc := 82) (k := 0) (by decide +kernel) rfl ?_
    refine ex_getR (pc := 83) (a := 86) (by decide +kernel) lf_MM_35 (hF.s (j := 78) rfl) (hF.r (j := 78) (k := 10) rfl rfl) ?_
    refine ex_aload_n (pc := 86) (k := 0) (by decide +kernel) rfl ?_
    refine ey_getI (pc := 87) (v := mi M 78 40) (by decide +kernel) lf_MM_176 (hF.s (j := 78) rfl) rfl ?_
    obtain ⟨g1, h⟩ := h
    refine ey_iald (pc := 90) (v := mi M 86 ((mi M 78 40).toNatClampNeg)) (by decide +kernel) (hF.s (j := 86) rfl) g1 rfl rfl ?_
    refine ex_istore_n (pc := 91) (k := 1) (lo2 := [some (.ref 78), some (.int (mi M 86 ((mi M 78 40).toNatClampNeg))), none, none, none]) (by decide +kernel) (by decide) rfl ?_
    refine ex_iload_n (pc := 92) (k := 1) (by decide +kernel) rfl ?_
    refine ex_bipush (pc := 93) (k := 97) (v := nI 97) (by decide +kernel) (by decide) ?_
    refine ex_bipush (pc := 95) (k := 122) (v := nI 122) (by decide +kernel) (by decide) ?_
    refine ex_callS (pc := 97) (as := [.int (mi M 86 ((mi M 78 40).toNatClampNeg)), .int (nI 97), .int (nI 122)]) (by decide +kernel) F_MM_in (in_t6 (i := 11) rfl rfl) rfl rfl (Nat.le_of_ble_eq_true rfl) (Nat.lt_succ_self _) ⟨Nat.zero_le _, Nat.zero_le _⟩ (KC_B (Con.mono h ?_))
    intro o M1 ⟨r1, e9, hF1, h⟩
    refine ⟨r1, e9, ?_⟩
    refine ey_ifeqB (pc := 100) (off := 101) (tgt := 201) (by decide +kernel) (by decide) (fun hc => ?_) (fun hc => ?_)
    · replace h := h.1 hc
      refine ex_iload_n (pc := 201) (k := 1) (by decide +kernel) rfl ?_
      refine ex_bipush (pc := 202) (k := 48) (v := nI 48) (by decide +kernel) (by decide) ?_
      refine ex_bipush (pc := 204) (k := 57) (v := nI 57) (by decide +kernel) (by decide) ?_
      refine ex_callS (pc := 206) (as := [.int (mi M 86 ((mi M 78 40).toNatClampNeg)), .int (nI 48), .int (nI 57)]) (by decide +kernel) F_MM_in (in_t6 (i := 11) rfl rfl) rfl rfl (Nat.le_of_ble_eq_true rfl) (Nat.lt_succ_self _) ⟨Nat.zero_le _, Nat.zero_le _⟩ (KC_B (Con.mono h ?_))
      intro o M2 ⟨r2, e9, hF2, h⟩
      refine ⟨r2, e9, ?_⟩
      refine ey_ifeqB (pc := 209) (off := 101) (tgt := 310) (by decide +kernel) (by decide) (fun hc => ?_) (fun hc => ?_)
      · replace h := h.1 hc
        refine ex_iload_n (pc := 310) (k := 1) (by decide +kernel) rfl ?_
        refine ex_bipush (pc := 311) (k := 40) (v := nI 40) (by decide +kernel) (by decide) ?_
        refine ex_icmp_eq (pc := 313) (off := 45) (tgt := 358) (by decide +kernel) (by decide) (fun hc => ?_) (fun hc => ?_)
        · replace h := h.1 hc
          refine ex_iconst (pc := 358) (k := 1) (v := nI 1) (by decide +kernel) (by decide) ?_
          refine ex_goto (pc := 359) (off := 4) (tgt := 363) (by decide +kernel) (by decide) ?_
          refine ex_istore_n (pc := 363) (k := 2) (lo2 := [some (.ref 78), some (.int (mi M 86 ((mi M 78 40).toNatClampNeg))), some (.int (nI 1)), none, none]) (by decide +kernel) (by decide) rfl ?_
          refine ex_aload_n (pc := 364) (k := 0) (by decide +kernel) rfl ?_
          refine ex_iload_n (pc := 365) (k := 2) (by decide +kernel) rfl ?_
          refine ex_if_eq (pc := 366) (off := 7) (tgt := 373) (by decide +kernel) (by decide) (fun hc => ?_) (fun hc => ?_)
          · replace h := h.1 hc
            refine ex_iconst (pc := 373) (k := -1) (v := -1) (by decide +kernel) (by decide) ?_
            refine ex_putI (pc := 374) (index := 182) (ci := 11) (k := 42) (fin := false) (by decide +kernel) ⟨_, _, _, _, cf_MM, by decide, in_t5 (i := 118) rfl rfl, rfl, (fun h => by cases h), rfl, rfl⟩ rfl (fun h => by cases h) (hF2.s (j := 78) rfl) ?_
            refine ex_aload_n (pc := 377) (k := 0) (by decide +kernel) rfl ?_
            refine ex_dup (pc := 378) (by decide +kernel) rfl ?_
            refine ey_getI (pc := 379) (v := mi M2 78 40) (by decide +kernel) lf_MM_176 (hF2.s (j := 78) rfl) rfl ?_
            refine ex_iconst (pc := 382) (k := 1) (v := nI 1) (by decide +kernel) (by decide) ?_
            refine ex_iadd (pc := 383) (by decide +kernel) ?_
            refine ex_putI (pc := 384) (index := 176) (ci := 11) (k := 40) (fin := false) (by decide +kernel) ⟨_, _, _, _, cf_MM, by decide, in_t5 (i := 116) rfl rfl, rfl, (fun h => by cases h), rfl, rfl⟩ rfl (fun h => by cases h) (hF2.s (j := 78) rfl) ?_
            exact ex_return (pc := 387) (by decide +kernel) rfl h
          · replace h := h.2 hc
            refine ex_iload_n (pc := 369) (k := 1) (by decide +kernel) rfl ?_
            refine ex_goto (pc := 370) (off := 4) (tgt := 374) (by decide +kernel) (by decide) ?_
            refine ex_putI (pc := 374) (index := 182) (ci := 11) (k := 42) (fin := false) (by decide +kernel) ⟨_, _, _, _, cf_MM, by decide, in_t5 (i := 118) rfl rfl, rfl, (fun h => by cases h), rfl, rfl⟩ rfl (fun h => by cases h) (hF2.s (j := 78) rfl) ?_
            refine ex_aload_n (pc := 377) (k := 0) (by decide +kernel) rfl ?_
            refine ex_dup (pc := 378) (by decide +kernel) rfl ?_
            refine ey_getI (pc := 379) (v := mi M2 78 40) (by decide +kernel) lf_MM_176 (hF2.s (j := 78) rfl) rfl ?_
            refine ex_iconst (pc := 382) (k := 1) (v := nI 1) (by decide +kernel) (by decide) ?_
            refine ex_iadd (pc := 383) (by decide +kernel) ?_
            refine ex_putI (pc := 384) (index := 176) (ci := 11) (k := 40) (fin := false) (by decide +kernel) ⟨_, _, _, _, cf_MM, by decide, in_t5 (i := 116) rfl rfl, rfl, (fun h => by cases h), rfl, rfl⟩ rfl (fun h => by cases h) (hF2.s (j := 78) rfl) ?_
            exact ex_return (pc := 387) (by decide +kernel) rfl h
        · replace h := h.2 hc
          refine ex_iload_n (pc := 316) (k := 1) (by decide +kernel) rfl ?_
          refine ex_bipush (pc := 317) (k := 41) (v := nI 41) (by decide +kernel) (by decide) ?_
          refine ex_icmp_eq (pc := 319) (off := 39) (tgt := 358) (by decide +kernel) (by decide) (fun hc => ?_) (fun hc => ?_)
          · replace h := h.1 hc
            refine ex_iconst (pc := 358) (k := 1) (v := nI 1) (by decide +kernel) (by decide) ?_
            refine ex_goto (pc := 359) (off := 4) (tgt := 363) (by decide +kernel) (by decide) ?_
            refine ex_istore_n (pc := 363) (k := 2) (lo2 := [some (.ref 78), some (.int (mi M 86 ((mi M 78 40).toNatClampNeg))), some (.int (nI 1)), none, none]) (by decide +kernel) (by decide) rfl ?_
            refine ex_aload_n (pc := 364) (k := 0) (by decide +kernel) rfl ?_
            refine ex_iload_n (pc := 365) (k := 2) (by decide +kernel) rfl ?_
            refine ex_if_eq (pc := 366) (off := 7) (tgt := 373) (by decide +kernel) (by decide) (fun hc => ?_) (fun hc => ?_)
            · replace h := h.1 hc
              refine ex_iconst (pc := 373) (k := -1) (v := -1) (by decide +kernel) (by decide) ?_
              refine ex_putI (pc := 374) (index := 182) (ci := 11) (k := 42) (fin := false) (by decide +kernel) ⟨_, _, _, _, cf_MM, by decide, in_t5 (i := 118) rfl rfl, rfl, (fun h => by cases h), rfl, rfl⟩ rfl (fun h => by cases h) (hF2.s (j := 78) rfl) ?_
              refine ex_aload_n (pc := 377) (k := 0) (by decide +kernel) rfl ?_
              refine ex_dup (pc := 378) (by decide +kernel) rfl ?_
              refine ey_getI (pc := 379) (v := mi M2 78 40) (by decide +kernel) lf_MM_176 (hF2.s (j := 78) rfl) rfl ?_
              refine ex_iconst (pc := 382) (k := 1) (v := nI 1) (by decide +kernel) (by decide) ?_
              refine ex_iadd (pc := 383) (by decide +kernel) ?_
              refine ex_putI (pc := 384) (index := 176) (ci := 11) (k := 40) (fin := false) (by decide +kernel) ⟨_, _, _, _, cf_MM, by decide, in_t5 (i := 116) rfl rfl, rfl, (fun h => by cases h), rfl, rfl⟩ rfl (fun h => by cases h) (hF2.s (j := 78) rfl) ?_
              exact ex_return (pc := 387) (by decide +kernel) rfl h
            · replace h := h.2 hc
              refine ex_iload_n (pc := 369) (k := 1) (by decide +kernel) rfl ?_
              refine ex_goto (pc := 370) (off := 4) (tgt := 374) (by decide +kernel) (by decide) ?_
              refine ex_putI (pc := 374) (index := 182) (ci := 11) (k := 42) (fin := false) (by decide +kernel) ⟨_, _, _, _, cf_MM, by decide, in_t5 (i := 118) rfl rfl, rfl, (fun h => by cases h), rfl, rfl⟩ rfl (fun h => by cases h) (hF2.s (j := 78) rfl) ?_
              refine ex_aload_n (pc := 377) (k := 0) (by decide +kernel) rfl ?_
              refine ex_dup (pc := 378) (by decide +kernel) rfl ?_
              refine ey_getI (pc := 379) (v := mi M2 78 40) (by decide +kernel) lf_MM_176 (hF2.s (j := 78) rfl) rfl ?_
              refine ex_iconst (pc := 382) (k := 1) (v := nI 1) (by decide +kernel) (by decide) ?_
              refine ex_iadd (pc := 383) (by decide +kernel) ?_
              refine ex_putI (pc := 384) (index := 176) (ci := 11) (k := 40) (fin := false) (by decide +kernel) ⟨_, _, _, _, cf_MM, by decide, in_t5 (i := 116) rfl rfl, rfl, (fun h => by cases h), rfl, rfl⟩ rfl (fun h => by cases h) (hF2.s (j := 78) rfl) ?_
              exact ex_return (pc := 387) (by decide +kernel) rfl h
          · replace h := h.2 hc
            refine ex_iload_n (pc := 322) (k := 1) (by decide +kernel) rfl ?_
            refine ex_bipush (pc := 323) (k := 59) (v := nI 59) (by decide +kernel) (by decide) ?_
            refine ex_icmp_eq (pc := 325) (off := 33) (tgt := 358) (by decide +kernel) (by decide) (fun hc => ?_) (fun hc => ?_)
            · replace h := h.1 hc
              refine ex_iconst (pc := 358) (k := 1) (v := nI 1) (by decide +kernel) (by decide) ?_
              refine ex_goto (pc := 359) (off := 4) (tgt := 363) (by decide +kernel) (by decide) ?_
              refine ex_istore_n (pc := 363) (k := 2) (lo2 := [some (.ref 78), some (.int (mi M 86 ((mi M 78 40).toNatClampNeg))), some (.int (nI 1)), none, none]) (by decide +kernel) (by decide) rfl ?_
              refine ex_aload_n (pc := 364) (k := 0) (by decide +kernel) rfl ?_
              refine ex_iload_n (pc := 365) (k := 2) (by decide +kernel) rfl ?_
              refine ex_if_eq (pc := 366) (off := 7) (tgt := 373) (by decide +kernel) (by decide) (fun hc => ?_) (fun hc => ?_)
              · replace h := h.1 hc
                refine ex_iconst (pc := 373) (k := -1) (v := -1) (by decide +kernel) (by decide) ?_
                refine ex_putI (pc := 374) (index := 182) (ci := 11) (k := 42) (fin := false) (by decide +kernel) ⟨_, _, _, _, cf_MM, by decide, in_t5 (i := 118) rfl rfl, rfl, (fun h => by cases h), rfl, rfl⟩ rfl (fun h => by cases h) (hF2.s (j := 78) rfl) ?_
                refine ex_aload_n (pc := 377) (k := 0) (by decide +kernel) rfl ?_
                refine ex_dup (pc := 378) (by decide +kernel) rfl ?_
                refine ey_getI (pc := 379) (v := mi M2 78 40) (by decide +kernel) lf_MM_176 (hF2.s (j := 78) rfl) rfl ?_
                refine ex_iconst (pc := 382) (k := 1) (v := nI 1) (by decide +kernel) (by decide) ?_
                refine ex_iadd (pc := 383) (by decide +kernel) ?_
                refine ex_putI (pc := 384) (index := 176) (ci := 11) (k := 40) (fin := false) (by decide +kernel) ⟨_, _, _, _, cf_MM, by decide, in_t5 (i := 116) rfl rfl, rfl, (fun h => by cases h), rfl, rfl⟩ rfl (fun h => by cases h) (hF2.s (j := 78) rfl) ?_
                exact ex_return (pc := 387) (by decide +kernel) rfl h
              · replace h := h.2 hc
                refine ex_iload_n (pc := 369) (k := 1) (by decide +kernel) rfl ?_
                refine ex_goto (pc := 370) (off := 4) (tgt := 374) (by decide +kernel) (by decide) ?_
                refine ex_putI (pc := 374) (index := 182) (ci := 11) (k := 42) (fin := false) (by decide +kernel) ⟨_, _, _, _, cf_MM, by decide, in_t5 (i := 118) rfl rfl, rfl, (fun h => by cases h), rfl, rfl⟩ rfl (fun h => by cases h) (hF2.s (j := 78) rfl) ?_
                refine ex_aload_n (pc := 377) (k := 0) (by decide +kernel) rfl ?_
                refine ex_dup (pc := 378) (by decide +kernel) rfl ?_
                refine ey_getI (pc := 379) (v := mi M2 78 40) (by decide +kernel) lf_MM_176 (hF2.s (j := 78) rfl) rfl ?_
                refine ex_iconst (pc := 382) (k := 1) (v := nI 1) (by decide +kernel) (by decide) ?_
                refine ex_iadd (pc := 383) (by decide +kernel) ?_
                refine ex_putI (pc := 384) (index := 176) (ci := 11) (k := 40) (fin := false) (by decide +kernel) ⟨_, _, _, _, cf_MM, by decide, in_t5 (i := 116) rfl rfl, rfl, (fun h => by cases h), rfl, rfl⟩ rfl (fun h => by cases h) (hF2.s (j := 78) rfl) ?_
                exact ex_return (pc := 387) (by decide +kernel) rfl h
            · replace h := h.2 hc
              refine ex_iload_n (pc := 328) (k := 1) (by decide +kernel) rfl ?_
              refine ex_bipush (pc := 329) (k := 43) (v := nI 43) (by decide +kernel) (by decide) ?_
              refine ex_icmp_eq (pc := 331) (off := 27) (tgt := 358) (by decide +kernel) (by decide) (fun hc => ?_) (fun hc => ?_)
              · replace h := h.1 hc
                refine ex_iconst (pc := 358) (k := 1) (v := nI 1) (by decide +kernel) (by decide) ?_
                refine ex_goto (pc := 359) (off := 4) (tgt := 363) (by decide +kernel) (by decide) ?_
                refine ex_istore_n (pc := 363) (k := 2) (lo2 := [some (.ref 78), some (.int (mi M 86 ((mi M 78 40).toNatClampNeg))), some (.int (nI 1)), none, none]) (by decide +kernel) (by decide) rfl ?_
                refine ex_aload_n (pc := 364) (k := 0) (by decide +kernel) rfl ?_
                refine ex_iload_n (pc := 365) (k := 2) (by decide +kernel) rfl ?_
                refine ex_if_eq (pc := 366) (off := 7) (tgt := 373) (by decide +kernel) (by decide) (fun hc => ?_) (fun hc => ?_)
                · replace h := h.1 hc
                  refine ex_iconst (pc := 373) (k := -1) (v := -1) (by decide +kernel) (by decide) ?_
                  refine ex_putI (pc := 374) (index := 182) (ci := 11) (k := 42) (fin := false) (by decide +kernel) ⟨_, _, _, _, cf_MM, by decide, in_t5 (i := 118) rfl rfl, rfl, (fun h => by cases h), rfl, rfl⟩ rfl (fun h => by cases h) (hF2.s (j := 78) rfl) ?_
                  refine ex_aload_n (pc := 377) (k := 0) (by decide +kernel) rfl ?_
                  refine ex_dup (pc := 378) (by decide +kernel) rfl ?_
                  refine ey_getI (pc := 379) (v := mi M2 78 40) (by decide +kernel) lf_MM_176 (hF2.s (j := 78) rfl) rfl ?_
                  refine ex_iconst (pc := 382) (k := 1) (v := nI 1) (by decide +kernel) (by decide) ?_
                  refine ex_iadd (pc := 383) (by decide +kernel) ?_
                  refine ex_putI (pc := 384) (index := 176) (ci := 11) (k := 40) (fin := false) (by decide +kernel) ⟨_, _, _, _, cf_MM, by decide, in_t5 (i := 116) rfl rfl, rfl, (fun h => by cases h), rfl, rfl⟩ rfl (fun h => by cases h) (hF2.s (j := 78) rfl) ?_
                  exact ex_return (pc := 387) (by decide +kernel) rfl h
                · replace h := h.2 hc
                  refine ex_iload_n (pc := 369) (k := 1) (by decide +kernel) rfl ?_
                  refine ex_goto (pc := 370) (off := 4) (tgt := 374) (by decide +kernel) (by decide) ?_
                  refine ex_putI (pc := 374) (index := 182) (ci := 11) (k := 42) (fin := false) (by decide +kernel) ⟨_, _, _, _, cf_MM, by decide, in_t5 (i := 118) rfl rfl, rfl, (fun h => by cases h), rfl, rfl⟩ rfl (fun h => by cases h) (hF2.s (j := 78) rfl) ?_
                  refine ex_aload_n (pc := 377) (k := 0) (by decide +kernel) rfl ?_
                  refine ex_dup (pc := 378) (by decide +kernel) rfl ?_
                  refine ey_getI (pc := 379) (v := mi M2 78 40) (by decide +kernel) lf_MM_176 (hF2.s (j := 78) rfl) rfl ?_
                  refine ex_iconst (pc := 382) (k := 1) (v := nI 1) (by decide +kernel) (by decide) ?_
                  refine ex_iadd (pc := 383) (by decide +kernel) ?_
                  refine ex_putI (pc := 384) (index := 176) (ci := 11) (k := 40) (fin := false) (by decide +kernel) ⟨_, _, _, _, cf_MM, by decide, in_t5 (i := 116) rfl rfl, rfl, (fun h => by cases h), rfl, rfl⟩ rfl (fun h => by cases h) (hF2.s (j := 78) rfl) ?_
                  exact ex_return (pc := 387) (by decide +kernel) rfl h
              · replace h := h.2 hc
                refine ex_iload_n (pc := 334) (k := 1) (by decide +kernel) rfl ?_
                refine ex_bipush (pc := 335) (k := 45) (v := nI 45) (by decide +kernel) (by decide) ?_
                refine ex_icmp_eq (pc := 337) (off := 21) (tgt := 358) (by decide +kernel) (by decide) (fun hc => ?_) (fun hc => ?_)
                · replace h := h.1 hc
                  refine ex_iconst (pc := 358) (k := 1) (v := nI 1) (by decide +kernel) (by decide) ?_
                  refine ex_goto (pc := 359) (off := 4) (tgt := 363) (by decide +kernel) (by decide) ?_
                  refine ex_istore_n (pc := 363) (k := 2) (lo2 := [some (.ref 78), some (.int (mi M 86 ((mi M 78 40).toNatClampNeg))), some (.int (nI 1)), none, none]) (by decide +kernel) (by decide) rfl ?_
                  refine ex_aload_n (pc := 364) (k := 0) (by decide +kernel) rfl ?_
                  refine ex_iload_n (pc := 365) (k := 2) (by decide +kernel) rfl ?_
                  refine ex_if_eq (pc := 366) (off := 7) (tgt := 373) (by decide +kernel) (by decide) (fun hc => ?_) (fun hc => ?_)
                  · replace h := h.1 hc
                    refine ex_iconst (pc := 373) (k := -1) (v := -1) (by decide +kernel) (by decide) ?_
                    refine ex_putI (pc := 374) (index := 182) (ci := 11) (k := 42) (fin := false) (by decide +kernel) ⟨_, _, _, _, cf_MM, by decide, in_t5 (i := 118) rfl rfl, rfl, (fun h => by cases h), rfl, rfl⟩ rfl (fun h => by cases h) (hF2.s (j := 78) rfl) ?_
                    refine ex_aload_n (pc := 377) (k := 0) (by decide +kernel) rfl ?_
                    refine ex_dup (pc := 378) (by decide +kernel) rfl ?_
                    refine ey_getI (pc := 379) (v := mi M2 78 40) (by decide +kernel) lf_MM_176 (hF2.s (j := 78) rfl) rfl ?_
                    refine ex_iconst (pc := 382) (k := 1) (v := nI 1) (by decide +kernel) (by decide) ?_
                    refine ex_iadd (pc := 383) (by decide +kernel) ?_
                    refine ex_putI (pc := 384) (index := 176) (ci := 11) (k := 40) (fin := false) (by decide +kernel) ⟨_, _, _, _, cf_MM, by decide, in_t5 (i := 116) rfl rfl, rfl, (fun h => by cases h), rfl, rfl⟩ rfl (fun h => by cases h) (hF2.s (j := 78) rfl) ?_
                    exact ex_return (pc := 387) (by decide +kernel) rfl h
                  · replace h := h.2 hc
                    refine ex_iload_n (pc := 369) (k := 1) (by decide +kernel) rfl ?_
                    refine ex_goto (pc := 370) (off := 4) (tgt := 374) (by decide +kernel) (by decide) ?_
                    refine ex_putI (pc := 374) (index := 182) (ci := 11) (k := 42) (fin := false) (by decide +kernel) ⟨_, _, _, _, cf_MM, by decide, in_t5 (i := 118) rfl rfl, rfl, (fun h => by cases h), rfl, rfl⟩ rfl (fun h => by cases h) (hF2.s (j := 78) rfl) ?_
                    refine ex_aload_n (pc := 377) (k := 0) (by decide +kernel) rfl ?_
                    refine ex_dup (pc := 378) (by decide +kernel) rfl ?_
                    refine ey_getI (pc := 379) (v := mi M2 78 40) (by decide +kernel) lf_MM_176 (hF2.s (j := 78) rfl) rfl ?_
                    refine ex_iconst (pc := 382) (k := 1) (v := nI 1) (by decide +kernel) (by decide) ?_
                    refine ex_iadd (pc := 383) (by decide +kernel) ?_
                    refine ex_putI (pc := 384) (index := 176) (ci := 11) (k := 40) (fin := false) (by decide +kernel) ⟨_, _, _, _, cf_MM, by decide, in_t5 (i := 116) rfl rfl, rfl, (fun h => by cases h), rfl, rfl⟩ rfl (fun h => by cases h) (hF2.s (j := 78) rfl) ?_
                    exact ex_return (pc := 387) (by decide +kernel) rfl h
                · replace h := h.2 hc
                  refine ex_iload_n (pc := 340) (k := 1) (by decide +kernel) rfl ?_
                  refine ex_bipush (pc := 341) (k := 42) (v := nI 42) (by decide +kernel) (by decide) ?_
                  refine ex_icmp_eq (pc := 343) (off := 15) (tgt := 358) (by decide +kernel) (by decide) (fun hc => ?_) (fun hc => ?_)
                  · replace h := h.1 hc
                    refine ex_iconst (pc := 358) (k := 1) (v := nI 1) (by decide +kernel) (by decide) ?_
                    refine ex_goto (pc := 359) (off := 4) (tgt := 363) (by decide +kernel) (by decide) ?_
                    refine ex_istore_n (pc := 363) (k := 2) (lo2 := [some (.ref 78), some (.int (mi M 86 ((mi M 78 40).toNatClampNeg))), some (.int (nI 1)), none, none]) (by decide +kernel) (by decide) rfl ?_
                    refine ex_aload_n (pc := 364) (k := 0) (by decide +kernel) rfl ?_
                    refine ex_iload_n (pc := 365) (k := 2) (by decide +kernel) rfl ?_
                    refine ex_if_eq (pc := 366) (off := 7) (tgt := 373) (by decide +kernel) (by decide) (fun hc => ?_) (fun hc => ?_)
                    · replace h := h.1 hc
                      refine ex_iconst (pc := 373) (k := -1) (v := -1) (by decide +kernel) (by decide) ?_
                      refine ex_putI (pc := 374) (index := 182) (ci := 11) (k := 42) (fin := false) (by decide +kernel) ⟨_, _, _, _, cf_MM, by decide, in_t5 (i := 118) rfl rfl, rfl, (fun h => by cases h), rfl, rfl⟩ rfl (fun h => by cases h) (hF2.s (j := 78) rfl) ?_
                      refine ex_aload_n (pc := 377) (k := 0) (by decide +kernel) rfl ?_
                      refine ex_dup (pc := 378) (by decide +kernel) rfl ?_
                      refine ey_getI (pc := 379) (v := mi M2 78 40) (by decide +kernel) lf_MM_176 (hF2.s (j := 78) rfl) rfl ?_
                      refine ex_iconst (pc := 382) (k := 1) (v := nI 1) (by decide +kernel) (by decide) ?_
                      refine ex_iadd (pc := 383) (by decide +kernel) ?_
                      refine ex_putI (pc := 384) (index := 176) (ci := 11) (k := 40) (fin := false) (by decide +kernel) ⟨_, _, _, _, cf_MM, by decide, in_t5 (i := 116) rfl rfl, rfl, (fun h => by cases h), rfl, rfl⟩ rfl (fun h => by cases h) (hF2.s (j := 78) rfl) ?_
                      exact ex_return (pc := 387) (by decide +kernel) rfl h
                    · replace h := h.2 hc
                      refine ex_iload_n (pc := 369) (k := 1) (by decide +kernel) rfl ?_
                      refine ex_goto (pc := 370) (off := 4) (tgt := 374) (by decide +kernel) (by decide) ?_
                      refine ex_putI (pc := 374) (index := 182) (ci := 11) (k := 42) (fin := false) (by decide +kernel) ⟨_, _, _, _, cf_MM, by decide, in_t5 (i := 118) rfl rfl, rfl, (fun h => by cases h), rfl, rfl⟩ rfl (fun h => by cases h) (hF2.s (j := 78) rfl) ?_
                      refine ex_aload_n (pc := 377) (k := 0) (by decide +kernel) rfl ?_
                      refine ex_dup (pc := 378) (by decide +kernel) rfl ?_
                      refine ey_getI (pc := 379) (v := mi M2 78 40) (by decide +kernel) lf_MM_176 (hF2.s (j := 78) rfl) rfl ?_
                      refine ex_iconst (pc := 382) (k := 1) (v := nI 1) (by decide +kernel) (by decide) ?_
                      refine ex_iadd (pc := 383) (by decide +kernel) ?_
                      refine ex_putI (pc := 384) (index := 176) (ci := 11) (k := 40) (fin := false) (by decide +kernel) ⟨_, _, _, _, cf_MM, by decide, in_t5 (i := 116) rfl rfl, rfl, (fun h => by cases h), rfl, rfl⟩ rfl (fun h => by cases h) (hF2.s (j := 78) rfl) ?_
                      exact ex_return (pc := 387) (by decide +kernel) rfl h
                  · replace h := h.2 hc
                    refine ex_iload_n (pc := 346) (k := 1) (by decide +kernel) rfl ?_
                    refine ex_bipush (pc := 347) (k := 60) (v := nI 60) (by decide +kernel) (by decide) ?_
                    refine ex_icmp_eq (pc := 349) (off := 9) (tgt := 358) (by decide +kernel) (by decide) (fun hc => ?_) (fun hc => ?_)
                    · replace h := h.1 hc
                      refine ex_iconst (pc := 358) (k := 1) (v := nI 1) (by decide +kernel) (by decide) ?_
                      refine ex_goto (pc := 359) (off := 4) (tgt := 363) (by decide +kernel) (by decide) ?_
                      refine ex_istore_n (pc := 363) (k := 2) (lo2 := [some (.ref 78), some (.int (mi M 86 ((mi M 78 40).toNatClampNeg))), some (.int (nI 1)), none, none]) (by decide +kernel) (by decide) rfl ?_
                      refine ex_aload_n (pc := 364) (k := 0) (by decide +kernel) rfl ?_
                      refine ex_iload_n (pc := 365) (k := 2) (by decide +kernel) rfl ?_
                      refine ex_if_eq (pc := 366) (off := 7) (tgt := 373) (by decide +kernel) (by decide) (fun hc => ?_) (fun hc => ?_)
                      · replace h := h.1 hc
                        refine ex_iconst (pc := 373) (k := -1) (v := -1) (by decide +kernel) (by decide) ?_
                        refine ex_putI (pc := 374) (index := 182) (ci := 11) (k := 42) (fin := false) (by decide +kernel) ⟨_, _, _, _, cf_MM, by decide, in_t5 (i := 118) rfl rfl, rfl, (fun h => by cases h), rfl, rfl⟩ rfl (fun h => by cases h) (hF2.s (j := 78) rfl) ?_
                        refine ex_aload_n (pc := 377) (k := 0) (by decide +kernel) rfl ?_
                        refine ex_dup (pc := 378) (by decide +kernel) rfl ?_
                        refine ey_getI (pc := 379) (v := mi M2 78 40) (by decide +kernel) lf_MM_176 (hF2.s (j := 78) rfl) rfl ?_
                        refine ex_iconst (pc := 382) (k := 1) (v := nI 1) (by decide +kernel) (by decide) ?_
                        refine ex_iadd (pc := 383) (by decide +kernel) ?_
                        refine ex_putI (pc := 384) (index := 176) (ci := 11) (k := 40) (fin := false) (by decide +kernel) ⟨_, _, _, _, cf_MM, by decide, in_t5 (i := 116) rfl rfl, rfl, (fun h => by cases h), rfl, rfl⟩ rfl (fun h => by cases h) (hF2.s (j := 78) rfl) ?_
                        exact ex_return (pc := 387) (by decide +kernel) rfl h
                      · replace h := h.2 hc
                        refine ex_iload_n (pc := 369) (k := 1) (by decide +kernel) rfl ?_
                        refine ex_goto (pc := 370) (off := 4) (tgt := 374) (by decide +kernel) (by decide) ?_
                        refine ex_putI (pc := 374) (index := 182) (ci := 11) (k := 42) (fin := false) (by decide +kernel) ⟨_, _, _, _, cf_MM, by decide, in_t5 (i := 118) rfl rfl, rfl, (fun h => by cases h), rfl, rfl⟩ rfl (fun h => by cases h) (hF2.s (j := 78) rfl) ?_
                        refine ex_aload_n (pc := 377) (k := 0) (by decide +kernel) rfl ?_
                        refine ex_dup (pc := 378) (by decide +kernel) rfl ?_
                        refine ey_getI (pc := 379) (v := mi M2 78 40) (by decide +kernel) lf_MM_176 (hF2.s (j := 78) rfl) rfl ?_
                        refine ex_iconst (pc := 382) (k := 1) (v := nI 1) (by decide +kernel) (by decide) ?_
                        refine ex_iadd (pc := 383) (by decide +kernel) ?_
                        refine ex_putI (pc := 384) (index := 176) (ci := 11) (k := 40) (fin := false) (by decide +kernel) ⟨_, _, _, _, cf_MM, by decide, in_t5 (i := 116) rfl rfl, rfl, (fun h => by cases h), rfl, rfl⟩ rfl (fun h => by cases h) (hF2.s (j := 78) rfl) ?_
                        exact ex_return (pc := 387) (by decide +kernel) rfl h
                    · replace h := h.2 hc
                      refine ex_iload_n (pc := 352) (k := 1) (by decide +kernel) rfl ?_
                      refine ex_bipush (pc := 353) (k := 61) (v := nI 61) (by decide +kernel) (by decide) ?_
                      refine ex_icmp_ne (pc := 355) (off := 7) (tgt := 362) (by decide +kernel) (by decide) (fun hc => ?_) (fun hc => ?_)
                      · replace h := h.1 hc
                        refine ex_iconst (pc := 362) (k := 0) (v := nI 0) (by decide +kernel) (by decide) ?_
                        refine ex_istore_n (pc := 363) (k := 2) (lo2 := [some (.ref 78), some (.int (mi M 86 ((mi M 78 40).toNatClampNeg))), some (.int (nI 0)), none, none]) (by decide +kernel) (by decide) rfl ?_
                        refine ex_aload_n (pc := 364) (k := 0) (by decide +kernel) rfl ?_
                        refine ex_iload_n (pc := 365) (k := 2) (by decide +kernel) rfl ?_
                        refine ex_if_eq (pc := 366) (off := 7) (tgt := 373) (by decide +kernel) (by decide) (fun hc => ?_) (fun hc => ?_)
                        · replace h := h.1 hc
                          refine ex_iconst (pc := 373) (k := -1) (v := -1) (by decide +kernel) (by decide) ?_
                          refine ex_putI (pc := 374) (index := 182) (ci := 11) (k := 42) (fin := false) (by decide +kernel) ⟨_, _, _, _, cf_MM, by decide, in_t5 (i := 118) rfl rfl, rfl, (fun h => by cases h), rfl, rfl⟩ rfl (fun h => by cases h) (hF2.s (j := 78) rfl) ?_
                          refine ex_aload_n (pc := 377) (k := 0) (by decide +kernel) rfl ?_
                          refine ex_dup (pc := 378) (by decide +kernel) rfl ?_
                          refine ey_getI (pc := 379) (v := mi M2 78 40) (by decide +kernel) lf_MM_176 (hF2.s (j := 78) rfl) rfl ?_
                          refine ex_iconst (pc := 382) (k := 1) (v := nI 1) (by decide +kernel) (by decide) ?_
                          refine ex_iadd (pc := 383) (by decide +kernel) ?_
                          refine ex_putI (pc := 384) (index := 176) (ci := 11) (k := 40) (fin := false) (by decide +kernel) ⟨_, _, _, _, cf_MM, by decide, in_t5 (i := 116) rfl rfl, rfl, (fun h => by cases h), rfl, rfl⟩ rfl (fun h => by cases h) (hF2.s (j := 78) rfl) ?_
                          exact ex_return (pc := 387) (by decide +kernel) rfl h
                        · replace h := h.2 hc
                          refine ex_iload_n (pc := 369) (k := 1) (by decide +kernel) rfl ?_
                          refine ex_goto (pc := 370) (off := 4) (tgt := 374) (by decide +kernel) (by decide) ?_
                          refine ex_putI (pc := 374) (index := 182) (ci := 11) (k := 42) (fin := false) (by decide +kernel) ⟨_, _, _, _, cf_MM, by decide, in_t5 (i := 118) rfl rfl, rfl, (fun h => by cases h), rfl, rfl⟩ rfl (fun h => by cases h) (hF2.s (j := 78) rfl) ?_
                          refine ex_aload_n (pc := 377) (k := 0) (by decide +kernel) rfl ?_
                          refine ex_dup (pc := 378) (by decide +kernel) rfl ?_
                          refine ey_getI (pc := 379) (v := mi M2 78 40) (by decide +kernel) lf_MM_176 (hF2.s (j := 78) rfl) rfl ?_
                          refine ex_iconst (pc := 382) (k := 1) (v := nI 1) (by decide +kernel) (by decide) ?_
                          refine ex_iadd (pc := 383) (by decide +kernel) ?_
                          refine ex_putI (pc := 384) (index := 176) (ci := 11) (k := 40) (fin := false) (by decide +kernel) ⟨_, _, _, _, cf_MM, by decide, in_t5 (i := 116) rfl rfl, rfl, (fun h => by cases h), rfl, rfl⟩ rfl (fun h => by cases h) (hF2.s (j := 78) rfl) ?_
                          exact ex_return (pc := 387) (by decide +kernel) rfl h
                      · replace h := h.2 hc
                        refine ex_iconst (pc := 358) (k := 1) (v := nI 1) (by decide +kernel) (by decide) ?_
                        refine ex_goto (pc := 359) (off := 4) (tgt := 363) (by decide +kernel) (by decide) ?_
                        refine ex_istore_n (pc := 363) (k := 2) (lo2 := [some (.ref 78), some (.int (mi M 86 ((mi M 78 40).toNatClampNeg))), some (.int (nI 1)), none, none]) (by decide +kernel) (by decide) rfl ?_
                        refine ex_aload_n (pc := 364) (k := 0) (by decide +kernel) rfl ?_
                        refine ex_iload_n (pc := 365) (k := 2) (by decide +kernel) rfl ?_
                        refine ex_if_eq (pc := 366) (off := 7) (tgt := 373) (by decide +kernel) (by decide) (fun hc => ?_) (fun hc => ?_)
                        · replace h := h.1 hc
                          refine ex_iconst (pc := 373) (k := -1) (v := -1) (by decide +kernel) (by decide) ?_
                          refine ex_putI (pc := 374) (index := 182) (ci := 11) (k := 42) (fin := false) (by decide +kernel) ⟨_, _, _, _, cf_MM, by decide, in_t5 (i := 118) rfl rfl, rfl, (fun h => by cases h), rfl, rfl⟩ rfl (fun h => by cases h) (hF2.s (j := 78) rfl) ?_
                          refine ex_aload_n (pc := 377) (k := 0) (by decide +kernel) rfl ?_
                          refine ex_dup (pc := 378) (by decide +kernel) rfl ?_
                          refine ey_getI (pc := 379) (v := mi M2 78 40) (by decide +kernel) lf_MM_176 (hF2.s (j := 78) rfl) rfl ?_
                          refine ex_iconst (pc := 382) (k := 1) (v := nI 1) (by decide +kernel) (by decide) ?_
                          refine ex_iadd (pc := 383) (by decide +kernel) ?_
                          refine ex_putI (pc := 384) (index := 176) (ci := 11) (k := 40) (fin := false) (by decide +kernel) ⟨_, _, _, _, cf_MM, by decide, in_t5 (i := 116) rfl rfl, rfl, (fun h => by cases h), rfl, rfl⟩ rfl (fun h => by cases h) (hF2.s (j := 78) rfl) ?_
                          exact ex_return (pc := 387) (by decide +kernel) rfl h
                        · replace h := h.2 hc
                          refine ex_iload_n (pc := 369) (k := 1) (by decide +kernel) rfl ?_
                          refine ex_goto (pc := 370) (off := 4) (tgt := 374) (by decide +kernel) (by decide) ?_
                          refine ex_putI (pc := 374) (index := 182) (ci := 11) (k := 42) (fin := false) (by decide +kernel) ⟨_, _, _, _, cf_MM, by decide, in_t5 (i := 118) rfl rfl, rfl, (fun h => by cases h), rfl, rfl⟩ rfl (fun h => by cases h) (hF2.s (j := 78) rfl) ?_
                          refine ex_aload_n (pc := 377) (k := 0) (by decide +kernel) rfl ?_
                          refine ex_dup (pc := 378) (by decide +kernel) rfl ?_
                          refine ey_getI (pc := 379) (v := mi M2 78 40) (by decide +kernel) lf_MM_176 (hF2.s (j := 78) rfl) rfl ?_
                          refine ex_iconst (pc := 382) (k := 1) (v := nI 1) (by decide +kernel) (by decide) ?_
                          refine ex_iadd (pc := 383) (by decide +kernel) ?_
                          refine ex_putI (pc := 384) (index := 176) (ci := 11) (k := 40) (fin := false) (by decide +kernel) ⟨_, _, _, _, cf_MM, by decide, in_t5 (i := 116) rfl rfl, rfl, (fun h => by cases h), rfl, rfl⟩ rfl (fun h => by cases h) (hF2.s (j := 78) rfl) ?_
                          exact ex_return (pc := 387) (by decide +kernel) rfl h
      · replace h := h.2 hc
        refine ex_iconst (pc := 212) (k := 0) (v := nI 0) (by decide +kernel) (by decide) ?_
        refine ex_istore_n (pc := 213) (k := 2) (lo2 := [some (.ref 78), some (.int (mi M 86 ((mi M 78 40).toNatClampNeg))), some (.int (nI 0)), none, none]) (by decide +kernel) (by decide) rfl ?_
        exact h
    · replace h := h.2 hc
      refine ex_aload_n (pc := 103) (k := 0) (by decide +kernel) rfl ?_
      refine ex_callV (pc := 104) (as := []) (by decide +kernel) F_MM_letters (in_t6 (i := 62) rfl rfl) (hF1.s (j := 78) rfl) rfl (by decide) rfl rfl (Nat.le_of_ble_eq_true rfl) (Nat.lt_succ_self _) ⟨Nat.zero_le _, Nat.zero_le _⟩ (KC_L (Con.mono h ?_))
      intro o M3 ⟨r3, e9, hF3, h⟩
      refine ⟨r3, e9, ?_⟩
      refine ex_lstore_n (pc := 107) (k := 2) (lo2 := [some (.ref 78), some (.int (mi M 86 ((mi M 78 40).toNatClampNeg))), some (.long r3), none, none]) (by decide +kernel) (by decide) rfl ?_
      refine ex_iconst (pc := 108) (k := 0) (v := nI 0) (by decide +kernel) (by decide) ?_
      refine ex_istore (pc := 109) (k := 4) (lo2 := [some (.ref 78), some (.int (mi M 86 ((mi M 78 40).toNatClampNeg))), some (.long r3), none, some (.int (nI 0))]) (by decide +kernel) (by decide) rfl ?_
      exact h
  · replace h := h.2 hc
    exact ex_return (pc := 81) (by decide +kernel) rfl h
theorem k_MM_next_111 {d bc bs : Nat} {l1 : Int32} {l2 : Int64} {l4 : Int32} {M : Mem} {Φ : Option Value → Mem → Prop} (hF : Fm M) (h : ((nI 11) ≤ l4 → Ex (d + 1) m_MM_next bc bs 136 [some (.ref 78), some (.int l1), some (.long l2), none, some (.int l4)] [] M Φ) ∧ (¬ (nI 11) ≤ l4 → vp_in l4 11 ∧ ((lg_cmp (ml M 104 l4.toNatClampNeg) l2) = 0 → Ex (d + 1) m_MM_next bc bs 136 [some (.ref 78), some (.int l1), some (.long l2), none, some (.int l4)] [] M Φ) ∧ (¬ (lg_cmp (ml M 104 l4.toNatClampNeg) l2) = 0 → Ex (d + 1) m_MM_next bc bs 111 [some (.ref 78), some (.int l1), some (.long l2), none, some (.int (l4 + nI 1))] [] M Φ))) : Ex (d + 1) m_MM_next bc bs 111 [some (.ref 78), some (.int l1), some (.long l2), none, some (.int l4)] [] M Φ := by
  refine ex_iload (pc := 111) (k := 4) (by decide +kernel) rfl ?_
  refine ex_bipush (pc := 113) (k := 11) (v := nI 11) (by decide +kernel) (by decide) ?_
  refine ex_icmp_ge (pc := 115) (off := 21) (tgt := 136) (by decide +kernel) (by decide) (fun hc => ?_) (fun hc => ?_)
  · replace h := h.1 hc
    exact h
  · replace h := h.2 hc
    refine ex_aload_n (pc := 118) (k := 0) (by decide +kernel) rfl ?_
    refine ex_getR (pc := 119) (a := 104) (by decide +kernel) lf_MM_114 (hF.s (j := 78) rfl) (hF.r (j := 78) (k := 44) rfl rfl) ?_
    refine ex_iload (pc := 122) (k := 4) (by decide +kernel) rfl ?_
    obtain ⟨g1, h⟩ := h
    refine ey_lald (pc := 124) (v := ml M 104 l4.toNatClampNeg) (by decide +kernel) (hF.s (j := 104) rfl) g1 rfl rfl ?_
    refine ex_lload_n (pc := 125) (k := 2) (by decide +kernel) rfl ?_
    refine ex_lcmp (pc := 126) (by decide +kernel) ?_
    refine ex_if_eq (pc := 127) (off := 9) (tgt := 136) (by decide +kernel) (by decide) (fun hc => ?_) (fun hc => ?_)
    · replace h := h.1 hc
      exact h
    · replace h := h.2 hc
      refine ex_iinc (pc := 130) (i := 4) (k := 1) (v := l4 + nI 1) (lo2 := [some (.ref 78), some (.int l1), some (.long l2), none, some (.int (l4 + nI 1))]) (by decide +kernel) (by decide) rfl rfl rfl ?_
      refine ex_goto (pc := 133) (off := -22) (tgt := 111) (by decide +kernel) (by decide) ?_
      exact h
theorem k_MM_next_136 {d bc bs : Nat} {l1 : Int32} {l2 : Int64} {l4 : Int32} {M : Mem} {Φ : Option Value → Mem → Prop} (hF : Fm M) (h : ((nI 2) ≤ l4 → ((nI 8) ≤ l4 → (¬ l4 = (nI 11) → ((nI 2) ≤ l4 → Φ none (wi (wi M 78 42 (((nI 4) + l4) - (nI 8))) 78 43 (l4 - (nI 2)))) ∧ (¬ (nI 2) ≤ l4 → Φ none (wi (wi M 78 42 (((nI 4) + l4) - (nI 8))) 78 43 l4))) ∧ (l4 = (nI 11) → ((nI 2) ≤ l4 → Φ none (wi (wi M 78 42 (-1)) 78 43 (l4 - (nI 2)))) ∧ (¬ (nI 2) ≤ l4 → Φ none (wi (wi M 78 42 (-1)) 78 43 l4)))) ∧ (¬ (nI 8) ≤ l4 → ((nI 2) ≤ l4 → Φ none (wi (wi M 78 42 (nI 2)) 78 43 (l4 - (nI 2)))) ∧ (¬ (nI 2) ≤ l4 → Φ none (wi (wi M 78 42 (nI 2)) 78 43 l4)))) ∧ (¬ (nI 2) ≤ l4 → ((nI 2) ≤ l4 → Φ none (wi (wi M 78 42 (nI 3)) 78 43 (l4 - (nI 2)))) ∧ (¬ (nI 2) ≤ l4 → Φ none (wi (wi M 78 42 (nI 3)) 78 43 l4)))) : Ex (d + 1) m_MM_next bc bs 136 [some (.ref 78), some (.int l1), some (.long l2), none, some (.int l4)] [] M Φ := by
  refine ex_aload_n (pc := 136) (k := 0) (by decide +kernel) rfl ?_
  refine ex_iload (pc := 137) (k := 4) (by decide +kernel) rfl ?_
  refine ex_iconst (pc := 139) (k := 2) (v := nI 2) (by decide +kernel) (by decide) ?_
  refine ex_icmp_ge (pc := 140) (off := 7) (tgt := 147) (by decide +kernel) (by decide) (fun hc => ?_) (fun hc => ?_)
  · replace h := h.1 hc
    refine ex_iload (pc := 147) (k := 4) (by decide +kernel) rfl ?_
    refine ex_bipush (pc := 149) (k := 8) (v := nI 8) (by decide +kernel) (by decide) ?_
    refine ex_icmp_ge (pc := 151) (off := 7) (tgt := 158) (by decide +kernel) (by decide) (fun hc => ?_) (fun hc => ?_)
    · replace h := h.1 hc
      refine ex_iload (pc := 158) (k := 4) (by decide +kernel) rfl ?_
      refine ex_bipush (pc := 160) (k := 11) (v := nI 11) (by decide +kernel) (by decide) ?_
      refine ex_icmp_ne (pc := 162) (off := 7) (tgt := 169) (by decide +kernel) (by decide) (fun hc => ?_) (fun hc => ?_)
      · replace h := h.1 hc
        refine ex_iconst (pc := 169) (k := 4) (v := nI 4) (by decide +kernel) (by decide) ?_
        refine ex_iload (pc := 170) (k := 4) (by decide +kernel) rfl ?_
        refine ex_iadd (pc := 172) (by decide +kernel) ?_
        refine ex_bipush (pc := 173) (k := 8) (v := nI 8) (by decide +kernel) (by decide) ?_
        refine ex_isub (pc := 175) (by decide +kernel) ?_
        refine ex_putI (pc := 176) (index := 182) (ci := 11) (k := 42) (fin := false) (by decide +kernel) ⟨_, _, _, _, cf_MM, by decide, in_t5 (i := 118) rfl rfl, rfl, (fun h => by cases h), rfl, rfl⟩ rfl (fun h => by cases h) (hF.s (j := 78) rfl) ?_
        refine ex_aload_n (pc := 179) (k := 0) (by decide +kernel) rfl ?_
        refine ex_iload (pc := 180) (k := 4) (by decide +kernel) rfl ?_
        refine ex_iconst (pc := 182) (k := 2) (v := nI 2) (by decide +kernel) (by decide) ?_
        refine ex_icmp_ge (pc := 183) (off := 8) (tgt := 191) (by decide +kernel) (by decide) (fun hc => ?_) (fun hc => ?_)
        · replace h := h.1 hc
          refine ex_iload (pc := 191) (k := 4) (by decide +kernel) rfl ?_
          refine ex_iconst (pc := 193) (k := 2) (v := nI 2) (by decide +kernel) (by decide) ?_
          refine ex_isub (pc := 194) (by decide +kernel) ?_
          refine ex_putI (pc := 195) (index := 185) (ci := 11) (k := 43) (fin := false) (by decide +kernel) ⟨_, _, _, _, cf_MM, by decide, in_t5 (i := 119) rfl rfl, rfl, (fun h => by cases h), rfl, rfl⟩ rfl (fun h => by cases h) (hF.s (j := 78) rfl) ?_
          refine ex_goto (pc := 198) (off := 189) (tgt := 387) (by decide +kernel) (by decide) ?_
          exact ex_return (pc := 387) (by decide +kernel) rfl h
        · replace h := h.2 hc
          refine ex_iload (pc := 186) (k := 4) (by decide +kernel) rfl ?_
          refine ex_goto (pc := 188) (off := 7) (tgt := 195) (by decide +kernel) (by decide) ?_
          refine ex_putI (pc := 195) (index := 185) (ci := 11) (k := 43) (fin := false) (by decide +kernel) ⟨_, _, _, _, cf_MM, by decide, in_t5 (i := 119) rfl rfl, rfl, (fun h => by cases h), rfl, rfl⟩ rfl (fun h => by cases h) (hF.s (j := 78) rfl) ?_
          refine ex_goto (pc := 198) (off := 189) (tgt := 387) (by decide +kernel) (by decide) ?_
          exact ex_return (pc := 387) (by decide +kernel) rfl h
      · replace h := h.2 hc
        refine ex_iconst (pc := 165) (k := -1) (v := -1) (by decide +kernel) (by decide) ?_
        refine ex_goto (pc := 166) (off := 10) (tgt := 176) (by decide +kernel) (by decide) ?_
        refine ex_putI (pc := 176) (index := 182) (ci := 11) (k := 42) (fin := false) (by decide +kernel) ⟨_, _, _, _, cf_MM, by decide, in_t5 (i := 118) rfl rfl, rfl, (fun h => by cases h), rfl, rfl⟩ rfl (fun h => by cases h) (hF.s (j := 78) rfl) ?_
        refine ex_aload_n (pc := 179) (k := 0) (by decide +kernel) rfl ?_
        refine ex_iload (pc := 180) (k := 4) (by decide +kernel) rfl ?_
        refine ex_iconst (pc := 182) (k := 2) (v := nI 2) (by decide +kernel) (by decide) ?_
        refine ex_icmp_ge (pc := 183) (off := 8) (tgt := 191) (by decide +kernel) (by decide) (fun hc => ?_) (fun hc => ?_)
        · replace h := h.1 hc
          refine ex_iload (pc := 191) (k := 4) (by decide +kernel) rfl ?_
          refine ex_iconst (pc := 193) (k := 2) (v := nI 2) (by decide +kernel) (by decide) ?_
          refine ex_isub (pc := 194) (by decide +kernel) ?_
          refine ex_putI (pc := 195) (index := 185) (ci := 11) (k := 43) (fin := false) (by decide +kernel) ⟨_, _, _, _, cf_MM, by decide, in_t5 (i := 119) rfl rfl, rfl, (fun h => by cases h), rfl, rfl⟩ rfl (fun h => by cases h) (hF.s (j := 78) rfl) ?_
          refine ex_goto (pc := 198) (off := 189) (tgt := 387) (by decide +kernel) (by decide) ?_
          exact ex_return (pc := 387) (by decide +kernel) rfl h
        · replace h := h.2 hc
          refine ex_iload (pc := 186) (k := 4) (by decide +kernel) rfl ?_
          refine ex_goto (pc := 188) (off := 7) (tgt := 195) (by decide +kernel) (by decide) ?_
          refine ex_putI (pc := 195) (index := 185) (ci := 11) (k := 43) (fin := false) (by decide +kernel) ⟨_, _, _, _, cf_MM, by decide, in_t5 (i := 119) rfl rfl, rfl, (fun h => by cases h), rfl, rfl⟩ rfl (fun h => by cases h) (hF.s (j := 78) rfl) ?_
          refine ex_goto (pc := 198) (off := 189) (tgt := 387) (by decide +kernel) (by decide) ?_
          exact ex_return (pc := 387) (by decide +kernel) rfl h
    · replace h := h.2 hc
      refine ex_iconst (pc := 154) (k := 2) (v := nI 2) (by decide +kernel) (by decide) ?_
      refine ex_goto (pc := 155) (off := 21) (tgt := 176) (by decide +kernel) (by decide) ?_
      refine ex_putI (pc := 176) (index := 182) (ci := 11) (k := 42) (fin := false) (by decide +kernel) ⟨_, _, _, _, cf_MM, by decide, in_t5 (i := 118) rfl rfl, rfl, (fun h => by cases h), rfl, rfl⟩ rfl (fun h => by cases h) (hF.s (j := 78) rfl) ?_
      refine ex_aload_n (pc := 179) (k := 0) (by decide +kernel) rfl ?_
      refine ex_iload (pc := 180) (k := 4) (by decide +kernel) rfl ?_
      refine ex_iconst (pc := 182) (k := 2) (v := nI 2) (by decide +kernel) (by decide) ?_
      refine ex_icmp_ge (pc := 183) (off := 8) (tgt := 191) (by decide +kernel) (by decide) (fun hc => ?_) (fun hc => ?_)
      · replace h := h.1 hc
        refine ex_iload (pc := 191) (k := 4) (by decide +kernel) rfl ?_
        refine ex_iconst (pc := 193) (k := 2) (v := nI 2) (by decide +kernel) (by decide) ?_
        refine ex_isub (pc := 194) (by decide +kernel) ?_
        refine ex_putI (pc := 195) (index := 185) (ci := 11) (k := 43) (fin := false) (by decide +kernel) ⟨_, _, _, _, cf_MM, by decide, in_t5 (i := 119) rfl rfl, rfl, (fun h => by cases h), rfl, rfl⟩ rfl (fun h => by cases h) (hF.s (j := 78) rfl) ?_
        refine ex_goto (pc := 198) (off := 189) (tgt := 387) (by decide +kernel) (by decide) ?_
        exact ex_return (pc := 387) (by decide +kernel) rfl h
      · replace h := h.2 hc
        refine ex_iload (pc := 186) (k := 4) (by decide +kernel) rfl ?_
        refine ex_goto (pc := 188) (off := 7) (tgt := 195) (by decide +kernel) (by decide) ?_
        refine ex_putI (pc := 195) (index := 185) (ci := 11) (k := 43) (fin := false) (by decide +kernel) ⟨_, _, _, _, cf_MM, by decide, in_t5 (i := 119) rfl rfl, rfl, (fun h => by cases h), rfl, rfl⟩ rfl (fun h => by cases h) (hF.s (j := 78) rfl) ?_
        refine ex_goto (pc := 198) (off := 189) (tgt := 387) (by decide +kernel) (by decide) ?_
        exact ex_return (pc := 387) (by decide +kernel) rfl h
  · replace h := h.2 hc
    refine ex_iconst (pc := 143) (k := 3) (v := nI 3) (by decide +kernel) (by decide) ?_
    refine ex_goto (pc := 144) (off := 32) (tgt := 176) (by decide +kernel) (by decide) ?_
    refine ex_putI (pc := 176) (index := 182) (ci := 11) (k := 42) (fin := false) (by decide +kernel) ⟨_, _, _, _, cf_MM, by decide, in_t5 (i := 118) rfl rfl, rfl, (fun h => by cases h), rfl, rfl⟩ rfl (fun h => by cases h) (hF.s (j := 78) rfl) ?_
    refine ex_aload_n (pc := 179) (k := 0) (by decide +kernel) rfl ?_
    refine ex_iload (pc := 180) (k := 4) (by decide +kernel) rfl ?_
    refine ex_iconst (pc := 182) (k := 2) (v := nI 2) (by decide +kernel) (by decide) ?_
    refine ex_icmp_ge (pc := 183) (off := 8) (tgt := 191) (by decide +kernel) (by decide) (fun hc => ?_) (fun hc => ?_)
    · replace h := h.1 hc
      refine ex_iload (pc := 191) (k := 4) (by decide +kernel) rfl ?_
      refine ex_iconst (pc := 193) (k := 2) (v := nI 2) (by decide +kernel) (by decide) ?_
      refine ex_isub (pc := 194) (by decide +kernel) ?_
      refine ex_putI (pc := 195) (index := 185) (ci := 11) (k := 43) (fin := false) (by decide +kernel) ⟨_, _, _, _, cf_MM, by decide, in_t5 (i := 119) rfl rfl, rfl, (fun h => by cases h), rfl, rfl⟩ rfl (fun h => by cases h) (hF.s (j := 78) rfl) ?_
      refine ex_goto (pc := 198) (off := 189) (tgt := 387) (by decide +kernel) (by decide) ?_
      exact ex_return (pc := 387) (by decide +kernel) rfl h
    · replace h := h.2 hc
      refine ex_iload (pc := 186) (k := 4) (by decide +kernel) rfl ?_
      refine ex_goto (pc := 188) (off := 7) (tgt := 195) (by decide +kernel) (by decide) ?_
      refine ex_putI (pc := 195) (index := 185) (ci := 11) (k := 43) (fin := false) (by decide +kernel) ⟨_, _, _, _, cf_MM, by decide, in_t5 (i := 119) rfl rfl, rfl, (fun h => by cases h), rfl, rfl⟩ rfl (fun h => by cases h) (hF.s (j := 78) rfl) ?_
      refine ex_goto (pc := 198) (off := 189) (tgt := 387) (by decide +kernel) (by decide) ?_
      exact ex_return (pc := 387) (by decide +kernel) rfl h
theorem k_MM_next_214 {d bc bs : Nat} {l1 : Int32} {l2 : Int32} {M : Mem} {Φ : Option Value → Mem → Prop} (hF : Fm M) (h : ((mi M 78 11) ≤ (mi M 78 40) → Ex (d + 1) m_MM_next bc bs 293 [some (.ref 78), some (.int l1), some (.int l2), none, none] [] M Φ) ∧ (¬ (mi M 78 11) ≤ (mi M 78 40) → vp_in (mi M 78 40) 160 ∧ Con d m_MM_in 0 0 [.int (mi M 86 ((mi M 78 40).toNatClampNeg)), .int (nI 48), .int (nI 57)] M (PB fun r1 M1 => Fm M1 ∧ (r1 = false → Ex (d + 1) m_MM_next bc bs 293 [some (.ref 78), some (.int l1), some (.int l2), none, none] [] M1 Φ) ∧ (r1 = true → ((nI 4) ≤ l2 → Ex (d + 1) m_MM_next bc bs 214 [some (.ref 78), some (.int l1), some (.int (l2 + nI 1)), none, none] [] (wi (wi M1 78 43 (nI 0)) 78 40 ((mi M1 78 40) + (nI 1))) Φ) ∧ (¬ (nI 4) ≤ l2 → vp_in (mi M1 78 40) 160 ∧ Ex (d + 1) m_MM_next bc bs 214 [some (.ref 78), some (.int l1), some (.int (l2 + nI 1)), none, none] [] (wi (wi M1 78 43 ((((nI 10) * (mi M1 78 43)) + (mi M1 86 ((mi M1 78 40).toNatClampNeg))) - (nI 48))) 78 40 ((mi M1 78 40) + (nI 1))) Φ))))) : Ex (d + 1) m_MM_next bc bs 214 [some (.ref 78), some (.int l1), some (.int l2), none, none] [] M Φ := by
  refine ex_aload_n (pc := 214) (k := 0) (by decide +kernel) rfl ?_
  refine ey_getI (pc := 215) (v := mi M 78 40) (by decide +kernel) lf_MM_176 (hF.s (j := 78) rfl) rfl ?_
  refine ex_aload_n (pc := 218) (k := 0) (by decide +kernel) rfl ?_
  refine ey_getI (pc := 219) (v := mi M 78 11) (by decide +kernel) lf_MM_171 (hF.s (j := 78) rfl) rfl ?_
  refine ex_icmp_ge (pc := 222) (off := 71) (tgt := 293) (by decide +kernel) (by decide) (fun hc => ?_) (fun hc => ?_)
  · replace h := h.1 hc
    exact h
  · replace h := h.2 hc
    refine ex_aload_n (pc := 225) (k := 0) (by decide +kernel) rfl ?_
    refine ex_getR (pc := 226) (a := 86) (by decide +kernel) lf_MM_35 (hF.s (j := 78) rfl) (hF.r (j := 78) (k := 10) rfl rfl) ?_
    refine ex_aload_n (pc := 229) (k := 0) (by decide +kernel) rfl ?_
    refine ey_getI (pc := 230) (v := mi M 78 40) (by decide +kernel) lf_MM_176 (hF.s (j := 78) rfl) rfl ?_
    obtain ⟨g1, h⟩ := h
    refine ey_iald (pc := 233) (v := mi M 86 ((mi M 78 40).toNatClampNeg)) (by decide +kernel) (hF.s (j := 86) rfl) g1 rfl rfl ?_
    refine ex_bipush (pc := 234) (k := 48) (v := nI 48) (by decide +kernel) (by decide) ?_
    refine ex_bipush (pc := 236) (k := 57) (v := nI 57) (by decide +kernel) (by decide) ?_
    refine ex_callS (pc := 238) (as := [.int (mi M 86 ((mi M 78 40).toNatClampNeg)), .int (nI 48), .int (nI 57)]) (by decide +kernel) F_MM_in (in_t6 (i := 11) rfl rfl) rfl rfl (Nat.le_of_ble_eq_true rfl) (Nat.lt_succ_self _) ⟨Nat.zero_le _, Nat.zero_le _⟩ (KC_B (Con.mono h ?_))
    intro o M1 ⟨r1, e9, hF1, h⟩
    refine ⟨r1, e9, ?_⟩
    refine ey_ifeqB (pc := 241) (off := 52) (tgt := 293) (by decide +kernel) (by decide) (fun hc => ?_) (fun hc => ?_)
    · replace h := h.1 hc
      exact h
    · replace h := h.2 hc
      refine ex_aload_n (pc := 244) (k := 0) (by decide +kernel) rfl ?_
      refine ex_iload_n (pc := 245) (k := 2) (by decide +kernel) rfl ?_
      refine ex_iconst (pc := 246) (k := 4) (v := nI 4) (by decide +kernel) (by decide) ?_
      refine ex_icmp_ge (pc := 247) (off := 26) (tgt := 273) (by decide +kernel) (by decide) (fun hc => ?_) (fun hc => ?_)
      · replace h := h.1 hc
        refine ex_iconst (pc := 273) (k := 0) (v := nI 0) (by decide +kernel) (by decide) ?_
        refine ex_putI (pc := 274) (index := 185) (ci := 11) (k := 43) (fin := false) (by decide +kernel) ⟨_, _, _, _, cf_MM, by decide, in_t5 (i := 119) rfl rfl, rfl, (fun h => by cases h), rfl, rfl⟩ rfl (fun h => by cases h) (hF1.s (j := 78) rfl) ?_
        refine ex_iinc (pc := 277) (i := 2) (k := 1) (v := l2 + nI 1) (lo2 := [some (.ref 78), some (.int l1), some (.int (l2 + nI 1)), none, none]) (by decide +kernel) (by decide) rfl rfl rfl ?_
        refine ex_aload_n (pc := 280) (k := 0) (by decide +kernel) rfl ?_
        refine ex_dup (pc := 281) (by decide +kernel) rfl ?_
        refine ey_getI (pc := 282) (v := mi M1 78 40) (by decide +kernel) lf_MM_176 (hF1.s (j := 78) rfl) rfl ?_
        refine ex_iconst (pc := 285) (k := 1) (v := nI 1) (by decide +kernel) (by decide) ?_
        refine ex_iadd (pc := 286) (by decide +kernel) ?_
        refine ex_putI (pc := 287) (index := 176) (ci := 11) (k := 40) (fin := false) (by decide +kernel) ⟨_, _, _, _, cf_MM, by decide, in_t5 (i := 116) rfl rfl, rfl, (fun h => by cases h), rfl, rfl⟩ rfl (fun h => by cases h) (hF1.s (j := 78) rfl) ?_
        refine ex_goto (pc := 290) (off := -76) (tgt := 214) (by decide +kernel) (by decide) ?_
        exact h
      · replace h := h.2 hc
        refine ex_bipush (pc := 250) (k := 10) (v := nI 10) (by decide +kernel) (by decide) ?_
        refine ex_aload_n (pc := 252) (k := 0) (by decide +kernel) rfl ?_
        refine ey_getI (pc := 253) (v := mi M1 78 43) (by decide +kernel) lf_MM_185 (hF1.s (j := 78) rfl) rfl ?_
        refine ex_imul (pc := 256) (by decide +kernel) ?_
        refine ex_aload_n (pc := 257) (k := 0) (by decide +kernel) rfl ?_
        refine ex_getR (pc := 258) (a := 86) (by decide +kernel) lf_MM_35 (hF1.s (j := 78) rfl) (hF1.r (j := 78) (k := 10) rfl rfl) ?_
        refine ex_aload_n (pc := 261) (k := 0) (by decide +kernel) rfl ?_
        refine ey_getI (pc := 262) (v := mi M1 78 40) (by decide +kernel) lf_MM_176 (hF1.s (j := 78) rfl) rfl ?_
        obtain ⟨g2, h⟩ := h
        refine ey_iald (pc := 265) (v := mi M1 86 ((mi M1 78 40).toNatClampNeg)) (by decide +kernel) (hF1.s (j := 86) rfl) g2 rfl rfl ?_
        refine ex_iadd (pc := 266) (by decide +kernel) ?_
        refine ex_bipush (pc := 267) (k := 48) (v := nI 48) (by decide +kernel) (by decide) ?_
        refine ex_isub (pc := 269) (by decide +kernel) ?_
        refine ex_goto (pc := 270) (off := 4) (tgt := 274) (by decide +kernel) (by decide) ?_
        refine ex_putI (pc := 274) (index := 185) (ci := 11) (k := 43) (fin := false) (by decide +kernel) ⟨_, _, _, _, cf_MM, by decide, in_t5 (i := 119) rfl rfl, rfl, (fun h => by cases h), rfl, rfl⟩ rfl (fun h => by cases h) (hF1.s (j := 78) rfl) ?_
        refine ex_iinc (pc := 277) (i := 2) (k := 1) (v := l2 + nI 1) (lo2 := [some (.ref 78), some (.int l1), some (.int (l2 + nI 1)), none, none]) (by decide +kernel) (by decide) rfl rfl rfl ?_
        refine ex_aload_n (pc := 280) (k := 0) (by decide +kernel) rfl ?_
        refine ex_dup (pc := 281) (by decide +kernel) rfl ?_
        refine ey_getI (pc := 282) (v := mi M1 78 40) (by decide +kernel) lf_MM_176 (hF1.s (j := 78) rfl) rfl ?_
        refine ex_iconst (pc := 285) (k := 1) (v := nI 1) (by decide +kernel) (by decide) ?_
        refine ex_iadd (pc := 286) (by decide +kernel) ?_
        refine ex_putI (pc := 287) (index := 176) (ci := 11) (k := 40) (fin := false) (by decide +kernel) ⟨_, _, _, _, cf_MM, by decide, in_t5 (i := 116) rfl rfl, rfl, (fun h => by cases h), rfl, rfl⟩ rfl (fun h => by cases h) (hF1.s (j := 78) rfl) ?_
        refine ex_goto (pc := 290) (off := -76) (tgt := 214) (by decide +kernel) (by decide) ?_
        exact h
theorem k_MM_next_293 {d bc bs : Nat} {l1 : Int32} {l2 : Int32} {M : Mem} {Φ : Option Value → Mem → Prop} (hF : Fm M) (h : (l2 ≤ (nI 4) → Φ none (wi M 78 42 (nI 1))) ∧ (¬ l2 ≤ (nI 4) → Φ none (wi M 78 42 (-1)))) : Ex (d + 1) m_MM_next bc bs 293 [some (.ref 78), some (.int l1), some (.int l2), none, none] [] M Φ := by
  refine ex_aload_n (pc := 293) (k := 0) (by decide +kernel) rfl ?_
  refine ex_iload_n (pc := 294) (k := 2) (by decide +kernel) rfl ?_
  refine ex_iconst (pc := 295) (k := 4) (v := nI 4) (by decide +kernel) (by decide) ?_
  refine ex_icmp_le (pc := 296) (off := 7) (tgt := 303) (by decide +kernel) (by decide) (fun hc => ?_) (fun hc => ?_)
  · replace h := h.1 hc
    refine ex_iconst (pc := 303) (k := 1) (v := nI 1) (by decide +kernel) (by decide) ?_
    refine ex_putI (pc := 304) (index := 182) (ci := 11) (k := 42) (fin := false) (by decide +kernel) ⟨_, _, _, _, cf_MM, by decide, in_t5 (i := 118) rfl rfl, rfl, (fun h => by cases h), rfl, rfl⟩ rfl (fun h => by cases h) (hF.s (j := 78) rfl) ?_
    refine ex_goto (pc := 307) (off := 80) (tgt := 387) (by decide +kernel) (by decide) ?_
    exact ex_return (pc := 387) (by decide +kernel) rfl h
  · replace h := h.2 hc
    refine ex_iconst (pc := 299) (k := -1) (v := -1) (by decide +kernel) (by decide) ?_
    refine ex_goto (pc := 300) (off := 4) (tgt := 304) (by decide +kernel) (by decide) ?_
    refine ex_putI (pc := 304) (index := 182) (ci := 11) (k := 42) (fin := false) (by decide +kernel) ⟨_, _, _, _, cf_MM, by decide, in_t5 (i := 118) rfl rfl, rfl, (fun h => by cases h), rfl, rfl⟩ rfl (fun h => by cases h) (hF.s (j := 78) rfl) ?_
    refine ex_goto (pc := 307) (off := 80) (tgt := 387) (by decide +kernel) (by decide) ?_
    exact ex_return (pc := 387) (by decide +kernel) rfl h
theorem k_MM_rank_0 {d bc bs : Nat} {l0 : Int32} {M : Mem} {Φ : Option Value → Mem → Prop} (hF : Fm M) (h : (¬ l0 = 0 → (¬ l0 = (nI 11) → (¬ l0 = (nI 12) → (¬ l0 = (nI 13) → ((nI 15) < l0 → ((nI 17) < l0 → (¬ l0 = (nI 18) → Φ (some (.int (nI 7))) M) ∧ (l0 = (nI 18) → Φ (some (.int (nI 6))) M)) ∧ (¬ (nI 17) < l0 → Φ (some (.int (nI 5))) M)) ∧ (¬ (nI 15) < l0 → Φ (some (.int (nI 4))) M)) ∧ (l0 = (nI 13) → Φ (some (.int (nI 3))) M)) ∧ (l0 = (nI 12) → Φ (some (.int (nI 2))) M)) ∧ (l0 = (nI 11) → Φ (some (.int (nI 1))) M)) ∧ (l0 = 0 → Φ (some (.int (nI 0))) M)) : Ex (d + 1) m_MM_rank bc bs 0 [some (.int l0)] [] M Φ := by
  refine ex_iload_n (pc := 0) (k := 0) (by decide +kernel) rfl ?_
  refine ex_if_ne (pc := 1) (off := 7) (tgt := 8) (by decide +kernel) (by decide) (fun hc => ?_) (fun hc => ?_)
  · replace h := h.1 hc
    refine ex_iload_n (pc := 8) (k := 0) (by decide +kernel) rfl ?_
    refine ex_bipush (pc := 9) (k := 11) (v := nI 11) (by decide +kernel) (by decide) ?_
    refine ex_icmp_ne (pc := 11) (off := 7) (tgt := 18) (by decide +kernel) (by decide) (fun hc => ?_) (fun hc => ?_)
    · replace h := h.1 hc
      refine ex_iload_n (pc := 18) (k := 0) (by decide +kernel) rfl ?_
      refine ex_bipush (pc := 19) (k := 12) (v := nI 12) (by decide +kernel) (by decide) ?_
      refine ex_icmp_ne (pc := 21) (off := 7) (tgt := 28) (by decide +kernel) (by decide) (fun hc => ?_) (fun hc => ?_)
      · replace h := h.1 hc
        refine ex_iload_n (pc := 28) (k := 0) (by decide +kernel) rfl ?_
        refine ex_bipush (pc := 29) (k := 13) (v := nI 13) (by decide +kernel) (by decide) ?_
        refine ex_icmp_ne (pc := 31) (off := 7) (tgt := 38) (by decide +kernel) (by decide) (fun hc => ?_) (fun hc => ?_)
        · replace h := h.1 hc
          refine ex_iload_n (pc := 38) (k := 0) (by decide +kernel) rfl ?_
          refine ex_bipush (pc := 39) (k := 15) (v := nI 15) (by decide +kernel) (by decide) ?_
          refine ex_icmp_gt (pc := 41) (off := 7) (tgt := 48) (by decide +kernel) (by decide) (fun hc => ?_) (fun hc => ?_)
          · replace h := h.1 hc
            refine ex_iload_n (pc := 48) (k := 0) (by decide +kernel) rfl ?_
            refine ex_bipush (pc := 49) (k := 17) (v := nI 17) (by decide +kernel) (by decide) ?_
            refine ex_icmp_gt (pc := 51) (off := 7) (tgt := 58) (by decide +kernel) (by decide) (fun hc => ?_) (fun hc => ?_)
            · replace h := h.1 hc
              refine ex_iload_n (pc := 58) (k := 0) (by decide +kernel) rfl ?_
              refine ex_bipush (pc := 59) (k := 18) (v := nI 18) (by decide +kernel) (by decide) ?_
              refine ex_icmp_ne (pc := 61) (off := 8) (tgt := 69) (by decide +kernel) (by decide) (fun hc => ?_) (fun hc => ?_)
              · replace h := h.1 hc
                refine ex_bipush (pc := 69) (k := 7) (v := nI 7) (by decide +kernel) (by decide) ?_
                exact ex_ireturn (pc := 71) (by decide +kernel) rfl rfl h
              · replace h := h.2 hc
                refine ex_bipush (pc := 64) (k := 6) (v := nI 6) (by decide +kernel) (by decide) ?_
                refine ex_goto (pc := 66) (off := 5) (tgt := 71) (by decide +kernel) (by decide) ?_
                exact ex_ireturn (pc := 71) (by decide +kernel) rfl rfl h
            · replace h := h.2 hc
              refine ex_iconst (pc := 54) (k := 5) (v := nI 5) (by decide +kernel) (by decide) ?_
              refine ex_goto (pc := 55) (off := 16) (tgt := 71) (by decide +kernel) (by decide) ?_
              exact ex_ireturn (pc := 71) (by decide +kernel) rfl rfl h
          · replace h := h.2 hc
            refine ex_iconst (pc := 44) (k := 4) (v := nI 4) (by decide +kernel) (by decide) ?_
            refine ex_goto (pc := 45) (off := 26) (tgt := 71) (by decide +kernel) (by decide) ?_
            exact ex_ireturn (pc := 71) (by decide +kernel) rfl rfl h
        · replace h := h.2 hc
          refine ex_iconst (pc := 34) (k := 3) (v := nI 3) (by decide +kernel) (by decide) ?_
          refine ex_goto (pc := 35) (off := 36) (tgt := 71) (by decide +kernel) (by decide) ?_
          exact ex_ireturn (pc := 71) (by decide +kernel) rfl rfl h
      · replace h := h.2 hc
        refine ex_iconst (pc := 24) (k := 2) (v := nI 2) (by decide +kernel) (by decide) ?_
        refine ex_goto (pc := 25) (off := 46) (tgt := 71) (by decide +kernel) (by decide) ?_
        exact ex_ireturn (pc := 71) (by decide +kernel) rfl rfl h
    · replace h := h.2 hc
      refine ex_iconst (pc := 14) (k := 1) (v := nI 1) (by decide +kernel) (by decide) ?_
      refine ex_goto (pc := 15) (off := 56) (tgt := 71) (by decide +kernel) (by decide) ?_
      exact ex_ireturn (pc := 71) (by decide +kernel) rfl rfl h
  · replace h := h.2 hc
    refine ex_iconst (pc := 4) (k := 0) (v := nI 0) (by decide +kernel) (by decide) ?_
    refine ex_goto (pc := 5) (off := 66) (tgt := 71) (by decide +kernel) (by decide) ?_
    exact ex_ireturn (pc := 71) (by decide +kernel) rfl rfl h
theorem k_MM_puts_0 {d bc bs : Nat} {l1 : Int32} {M : Mem} {Φ : Option Value → Mem → Prop} (hF : Fm M) (h : vp_in (((nI 200) * (mi M 78 14)) + (mi M 78 48)) 1200 ∧ Φ none (wi (wi M 87 ((((nI 200) * (mi M 78 14)) + (mi M 78 48)).toNatClampNeg) l1) 78 48 ((mi M 78 48) + (nI 1)))) : Ex (d + 1) m_MM_puts bc bs 0 [some (.ref 78), some (.int l1)] [] M Φ := by
  refine ex_aload_n (pc := 0) (k := 0) (by decide +kernel) rfl ?_
  refine ex_getR (pc := 1) (a := 87) (by decide +kernel) lf_MM_38 (hF.s (j := 78) rfl) (hF.r (j := 78) (k := 12) rfl rfl) ?_
  refine ex_sipush (pc := 4) (k := 200) (v := nI 200) (by decide +kernel) (by decide) ?_
  refine ex_aload_n (pc := 7) (k := 0) (by decide +kernel) rfl ?_
  refine ey_getI (pc := 8) (v := mi M 78 14) (by decide +kernel) lf_MM_44 (hF.s (j := 78) rfl) rfl ?_
  refine ex_imul (pc := 11) (by decide +kernel) ?_
  refine ex_aload_n (pc := 12) (k := 0) (by decide +kernel) rfl ?_
  refine ey_getI (pc := 13) (v := mi M 78 48) (by decide +kernel) lf_MM_192 (hF.s (j := 78) rfl) rfl ?_
  refine ex_iadd (pc := 16) (by decide +kernel) ?_
  refine ex_iload_n (pc := 17) (k := 1) (by decide +kernel) rfl ?_
  obtain ⟨g1, h⟩ := h
  refine ey_iast (pc := 18) (by decide +kernel) (hF.s (j := 87) rfl) g1 rfl ?_
  refine ex_aload_n (pc := 19) (k := 0) (by decide +kernel) rfl ?_
  refine ex_dup (pc := 20) (by decide +kernel) rfl ?_
  refine ey_getI (pc := 21) (v := mi M 78 48) (by decide +kernel) lf_MM_192 (hF.s (j := 78) rfl) rfl ?_
  refine ex_iconst (pc := 24) (k := 1) (v := nI 1) (by decide +kernel) (by decide) ?_
  refine ex_iadd (pc := 25) (by decide +kernel) ?_
  refine ex_putI (pc := 26) (index := 192) (ci := 11) (k := 48) (fin := false) (by decide +kernel) ⟨_, _, _, _, cf_MM, by decide, in_t5 (i := 124) rfl rfl, rfl, (fun h => by cases h), rfl, rfl⟩ rfl (fun h => by cases h) (hF.s (j := 78) rfl) ?_
  exact ex_return (pc := 29) (by decide +kernel) rfl h
theorem k_MM_unwinds_0 {d bc bs : Nat} {l1 : Int32} {M : Mem} {Φ : Option Value → Mem → Prop} (hF : Fm M) (h : ((mi M 78 46) ≤ 0 → Φ none M) ∧ (¬ (mi M 78 46) ≤ 0 → vp_in ((mi M 78 46) - (nI 1)) 200 ∧ Con d m_MM_rank 0 0 [.int (mi M 105 (((mi M 78 46) - (nI 1)).toNatClampNeg))] M (PI fun r1 M1 => Fm M1 ∧ (r1 < l1 → Φ none M1) ∧ (¬ r1 < l1 → vp_in ((mi M1 78 46) - (nI 1)) 200 ∧ ((mi M1 105 (((mi M1 78 46) - (nI 1)).toNatClampNeg)) = (nI 13) → Con d m_MM_puts 0 0 [.ref 78, .int (mi M1 105 (((mi M1 78 46) - (nI 1)).toNatClampNeg))] (wi (wi M1 78 46 ((mi M1 78 46) - (nI 1))) 78 47 ((mi M1 78 47) - (nI 1))) (PV fun M2 => Fm M2 ∧ Ex (d + 1) m_MM_unwinds bc bs 0 [some (.ref 78), some (.int l1), none] [] M2 Φ)) ∧ (¬ (mi M1 105 (((mi M1 78 46) - (nI 1)).toNatClampNeg)) = (nI 13) → (¬ (mi M1 105 (((mi M1 78 46) - (nI 1)).toNatClampNeg)) = (nI 19) → Con d m_MM_puts 0 0 [.ref 78, .int (mi M1 105 (((mi M1 78 46) - (nI 1)).toNatClampNeg))] (wi (wi M1 78 46 ((mi M1 78 46) - (nI 1))) 78 47 ((mi M1 78 47) - (nI 0))) (PV fun M3 => Fm M3 ∧ Ex (d + 1) m_MM_unwinds bc bs 0 [some (.ref 78), some (.int l1), none] [] M3 Φ)) ∧ ((mi M1 105 (((mi M1 78 46) - (nI 1)).toNatClampNeg)) = (nI 19) → Con d m_MM_puts 0 0 [.ref 78, .int (mi M1 105 (((mi M1 78 46) - (nI 1)).toNatClampNeg))] (wi (wi M1 78 46 ((mi M1 78 46) - (nI 1))) 78 47 ((mi M1 78 47) - (nI 1))) (PV fun M4 => Fm M4 ∧ Ex (d + 1) m_MM_unwinds bc bs 0 [some (.ref 78), some (.int l1), none] [] M4 Φ))))))) : Ex (d + 1) m_MM_unwinds bc bs 0 [some (.ref 78), some (.int l1), none] [] M Φ := by
  refine ex_aload_n (pc := 0) (k := 0) (by decide +kernel) rfl ?_
  refine ey_getI (pc := 1) (v := mi M 78 46) (by decide +kernel) lf_MM_195 (hF.s (j := 78) rfl) rfl ?_
  refine ex_if_le (pc := 4) (off := 75) (tgt := 79) (by decide +kernel) (by decide) (fun hc => ?_) (fun hc => ?_)
  · replace h := h.1 hc
    exact ex_return (pc := 79) (by decide +kernel) rfl h
  · replace h := h.2 hc
    refine ex_aload_n (pc := 7) (k := 0) (by decide +kernel) rfl ?_
    refine ex_getR (pc := 8) (a := 105) (by decide +kernel) lf_MM_118 (hF.s (j := 78) rfl) (hF.r (j := 78) (k := 45) rfl rfl) ?_
    refine ex_aload_n (pc := 11) (k := 0) (by decide +kernel) rfl ?_
    refine ey_getI (pc := 12) (v := mi M 78 46) (by decide +kernel) lf_MM_195 (hF.s (j := 78) rfl) rfl ?_
    refine ex_iconst (pc := 15) (k := 1) (v := nI 1) (by decide +kernel) (by decide) ?_
    refine ex_isub (pc := 16) (by decide +kernel) ?_
    obtain ⟨g1, h⟩ := h
    refine ey_iald (pc := 17) (v := mi M 105 (((mi M 78 46) - (nI 1)).toNatClampNeg)) (by decide +kernel) (hF.s (j := 105) rfl) g1 rfl rfl ?_
    refine ex_callS (pc := 18) (as := [.int (mi M 105 (((mi M 78 46) - (nI 1)).toNatClampNeg))]) (by decide +kernel) F_MM_rank (in_t6 (i := 79) rfl rfl) rfl rfl (Nat.le_of_ble_eq_true rfl) (Nat.lt_succ_self _) ⟨Nat.zero_le _, Nat.zero_le _⟩ (KC_I (Con.mono h ?_))
    intro o M1 ⟨r1, e9, hF1, h⟩
    refine ⟨r1, e9, ?_⟩
    refine ex_iload_n (pc := 21) (k := 1) (by decide +kernel) rfl ?_
    refine ex_icmp_lt (pc := 22) (off := 57) (tgt := 79) (by decide +kernel) (by decide) (fun hc => ?_) (fun hc => ?_)
    · replace h := h.1 hc
      exact ex_return (pc := 79) (by decide +kernel) rfl h
    · replace h := h.2 hc
      refine ex_aload_n (pc := 25) (k := 0) (by decide +kernel) rfl ?_
      refine ex_dup (pc := 26) (by decide +kernel) rfl ?_
      refine ey_getI (pc := 27) (v := mi M1 78 46) (by decide +kernel) lf_MM_195 (hF1.s (j := 78) rfl) rfl ?_
      refine ex_iconst (pc := 30) (k := 1) (v := nI 1) (by decide +kernel) (by decide) ?_
      refine ex_isub (pc := 31) (by decide +kernel) ?_
      refine ex_putI (pc := 32) (index := 195) (ci := 11) (k := 46) (fin := false) (by decide +kernel) ⟨_, _, _, _, cf_MM, by decide, in_t5 (i := 122) rfl rfl, rfl, (fun h => by cases h), rfl, rfl⟩ rfl (fun h => by cases h) (hF1.s (j := 78) rfl) ?_
      refine ex_aload_n (pc := 35) (k := 0) (by decide +kernel) rfl ?_
      refine ex_getR (pc := 36) (a := 105) (by decide +kernel) lf_MM_118 (hF1.s (j := 78) rfl) (hF1.r (j := 78) (k := 45) rfl rfl) ?_
      refine ex_aload_n (pc := 39) (k := 0) (by decide +kernel) rfl ?_
      refine ey_getI (pc := 40) (v := (mi M1 78 46) - (nI 1)) (by decide +kernel) lf_MM_195 (hF1.s (j := 78) rfl) rfl ?_
      obtain ⟨g2, h⟩ := h
      refine ey_iald (pc := 43) (v := mi M1 105 (((mi M1 78 46) - (nI 1)).toNatClampNeg)) (by decide +kernel) (hF1.s (j := 105) rfl) g2 rfl rfl ?_
      refine ex_istore_n (pc := 44) (k := 2) (lo2 := [some (.ref 78), some (.int l1), some (.int (mi M1 105 (((mi M1 78 46) - (nI 1)).toNatClampNeg)))]) (by decide +kernel) (by decide) rfl ?_
      refine ex_aload_n (pc := 45) (k := 0) (by decide +kernel) rfl ?_
      refine ex_dup (pc := 46) (by decide +kernel) rfl ?_
      refine ey_getI (pc := 47) (v := mi M1 78 47) (by decide +kernel) lf_MM_202 (hF1.s (j := 78) rfl) rfl ?_
      refine ex_iload_n (pc := 50) (k := 2) (by decide +kernel) rfl ?_
      refine ex_bipush (pc := 51) (k := 13) (v := nI 13) (by decide +kernel) (by decide) ?_
      refine ex_icmp_eq (pc := 53) (off := 9) (tgt := 62) (by decide +kernel) (by decide) (fun hc => ?_) (fun hc => ?_)
      · replace h := h.1 hc
        refine ex_iconst (pc := 62) (k := 1) (v := nI 1) (by decide +kernel) (by decide) ?_
        refine ex_goto (pc := 63) (off := 4) (tgt := 67) (by decide +kernel) (by decide) ?_
        refine ex_isub (pc := 67) (by decide +kernel) ?_
        refine ex_putI (pc := 68) (index := 202) (ci := 11) (k := 47) (fin := false) (by decide +kernel) ⟨_, _, _, _, cf_MM, by decide, in_t5 (i := 123) rfl rfl, rfl, (fun h => by cases h), rfl, rfl⟩ rfl (fun h => by cases h) (hF1.s (j := 78) rfl) ?_
        refine ex_aload_n (pc := 71) (k := 0) (by decide +kernel) rfl ?_
        refine ex_iload_n (pc := 72) (k := 2) (by decide +kernel) rfl ?_
        refine ex_callV (pc := 73) (as := [.int (mi M1 105 (((mi M1 78 46) - (nI 1)).toNatClampNeg))]) (by decide +kernel) F_MM_puts (in_t6 (i := 71) rfl rfl) (hF1.s (j := 78) rfl) rfl (by decide) rfl rfl (Nat.le_of_ble_eq_true rfl) (Nat.lt_succ_self _) ⟨Nat.zero_le _, Nat.zero_le _⟩ (KC_V (Con.mono h ?_))
        intro o M2 ⟨e9, hF2, h⟩
        refine ⟨e9, ?_⟩
        refine ex_goto (pc := 76) (off := -76) (tgt := 0) (by decide +kernel) (by decide) ?_
        exact Ex.msk [true, true, false] h
      · replace h := h.2 hc
        refine ex_iload_n (pc := 56) (k := 2) (by decide +kernel) rfl ?_
        refine ex_bipush (pc := 57) (k := 19) (v := nI 19) (by decide +kernel) (by decide) ?_
        refine ex_icmp_ne (pc := 59) (off := 7) (tgt := 66) (by decide +kernel) (by decide) (fun hc => ?_) (fun hc => ?_)
        · replace h := h.1 hc
          refine ex_iconst (pc := 66) (k := 0) (v := nI 0) (by decide +kernel) (by decide) ?_
          refine ex_isub (pc := 67) (by decide +kernel) ?_
          refine ex_putI (pc := 68) (index := 202) (ci := 11) (k := 47) (fin := false) (by decide +kernel) ⟨_, _, _, _, cf_MM, by decide, in_t5 (i := 123) rfl rfl, rfl, (fun h => by cases h), rfl, rfl⟩ rfl (fun h => by cases h) (hF1.s (j := 78) rfl) ?_
          refine ex_aload_n (pc := 71) (k := 0) (by decide +kernel) rfl ?_
          refine ex_iload_n (pc := 72) (k := 2) (by decide +kernel) rfl ?_
          refine ex_callV (pc := 73) (as := [.int (mi M1 105 (((mi M1 78 46) - (nI 1)).toNatClampNeg))]) (by decide +kernel) F_MM_puts (in_t6 (i := 71) rfl rfl) (hF1.s (j := 78) rfl) rfl (by decide) rfl rfl (Nat.le_of_ble_eq_true rfl) (Nat.lt_succ_self _) ⟨Nat.zero_le _, Nat.zero_le _⟩ (KC_V (Con.mono h ?_))
          intro o M3 ⟨e9, hF3, h⟩
          refine ⟨e9, ?_⟩
          refine ex_goto (pc := 76) (off := -76) (tgt := 0) (by decide +kernel) (by decide) ?_
          exact Ex.msk [true, true, false] h
        · replace h := h.2 hc
          refine ex_iconst (pc := 62) (k := 1) (v := nI 1) (by decide +kernel) (by decide) ?_
          refine ex_goto (pc := 63) (off := 4) (tgt := 67) (by decide +kernel) (by decide) ?_
          refine ex_isub (pc := 67) (by decide +kernel) ?_
          refine ex_putI (pc := 68) (index := 202) (ci := 11) (k := 47) (fin := false) (by decide +kernel) ⟨_, _, _, _, cf_MM, by decide, in_t5 (i := 123) rfl rfl, rfl, (fun h => by cases h), rfl, rfl⟩ rfl (fun h => by cases h) (hF1.s (j := 78) rfl) ?_
          refine ex_aload_n (pc := 71) (k := 0) (by decide +kernel) rfl ?_
          refine ex_iload_n (pc := 72) (k := 2) (by decide +kernel) rfl ?_
          refine ex_callV (pc := 73) (as := [.int (mi M1 105 (((mi M1 78 46) - (nI 1)).toNatClampNeg))]) (by decide +kernel) F_MM_puts (in_t6 (i := 71) rfl rfl) (hF1.s (j := 78) rfl) rfl (by decide) rfl rfl (Nat.le_of_ble_eq_true rfl) (Nat.lt_succ_self _) ⟨Nat.zero_le _, Nat.zero_le _⟩ (KC_V (Con.mono h ?_))
          intro o M4 ⟨e9, hF4, h⟩
          refine ⟨e9, ?_⟩
          refine ex_goto (pc := 76) (off := -76) (tgt := 0) (by decide +kernel) (by decide) ?_
          exact Ex.msk [true, true, false] h
theorem k_MM_holds_0 {d bc bs : Nat} {l1 : Int32} {M : Mem} {Φ : Option Value → Mem → Prop} (hF : Fm M) (h : vp_in (mi M 78 46) 200 ∧ Φ none (wi (wi M 105 ((mi M 78 46).toNatClampNeg) l1) 78 46 ((mi M 78 46) + (nI 1)))) : Ex (d + 1) m_MM_holds bc bs 0 [some (.ref 78), some (.int l1)] [] M Φ := by
  refine ex_aload_n (pc := 0) (k := 0) (by decide +kernel) rfl ?_
  refine ex_getR (pc := 1) (a := 105) (by decide +kernel) lf_MM_118 (hF.s (j := 78) rfl) (hF.r (j := 78) (k := 45) rfl rfl) ?_
  refine ex_aload_n (pc := 4) (k := 0) (by decide +kernel) rfl ?_
  refine ey_getI (pc := 5) (v := mi M 78 46) (by decide +kernel) lf_MM_195 (hF.s (j := 78) rfl) rfl ?_
  refine ex_iload_n (pc := 8) (k := 1) (by decide +kernel) rfl ?_
  obtain ⟨g1, h⟩ := h
  refine ey_iast (pc := 9) (by decide +kernel) (hF.s (j := 105) rfl) g1 rfl ?_
  refine ex_aload_n (pc := 10) (k := 0) (by decide +kernel) rfl ?_
  refine ex_dup (pc := 11) (by decide +kernel) rfl ?_
  refine ey_getI (pc := 12) (v := mi M 78 46) (by decide +kernel) lf_MM_195 (hF.s (j := 78) rfl) rfl ?_
  refine ex_iconst (pc := 15) (k := 1) (v := nI 1) (by decide +kernel) (by decide) ?_
  refine ex_iadd (pc := 16) (by decide +kernel) ?_
  refine ex_putI (pc := 17) (index := 195) (ci := 11) (k := 46) (fin := false) (by decide +kernel) ⟨_, _, _, _, cf_MM, by decide, in_t5 (i := 122) rfl rfl, rfl, (fun h => by cases h), rfl, rfl⟩ rfl (fun h => by cases h) (hF.s (j := 78) rfl) ?_
  exact ex_return (pc := 20) (by decide +kernel) rfl h
theorem k_MM_opensOne_0 {d bc bs : Nat} {l1 : Int32} {M : Mem} {Φ : Option Value → Mem → Prop} (hF : Fm M) (h : (¬ (mi M 78 47) = (nI 5) → Con d m_MM_holds 0 0 [.ref 78, .int l1] (wi M 78 47 ((mi M 78 47) + (nI 1))) (PV fun M1 => Fm M1 ∧ Φ (some (.int (b2i true))) M1)) ∧ ((mi M 78 47) = (nI 5) → Φ (some (.int (b2i false))) M)) : Ex (d + 1) m_MM_opensOne bc bs 0 [some (.ref 78), some (.int l1)] [] M Φ := by
  refine ex_aload_n (pc := 0) (k := 0) (by decide +kernel) rfl ?_
  refine ey_getI (pc := 1) (v := mi M 78 47) (by decide +kernel) lf_MM_202 (hF.s (j := 78) rfl) rfl ?_
  refine ex_iconst (pc := 4) (k := 5) (v := nI 5) (by decide +kernel) (by decide) ?_
  refine ex_icmp_ne (pc := 5) (off := 5) (tgt := 10) (by decide +kernel) (by decide) (fun hc => ?_) (fun hc => ?_)
  · replace h := h.1 hc
    refine ex_aload_n (pc := 10) (k := 0) (by decide +kernel) rfl ?_
    refine ex_dup (pc := 11) (by decide +kernel) rfl ?_
    refine ey_getI (pc := 12) (v := mi M 78 47) (by decide +kernel) lf_MM_202 (hF.s (j := 78) rfl) rfl ?_
    refine ex_iconst (pc := 15) (k := 1) (v := nI 1) (by decide +kernel) (by decide) ?_
    refine ex_iadd (pc := 16) (by decide +kernel) ?_
    refine ex_putI (pc := 17) (index := 202) (ci := 11) (k := 47) (fin := false) (by decide +kernel) ⟨_, _, _, _, cf_MM, by decide, in_t5 (i := 123) rfl rfl, rfl, (fun h => by cases h), rfl, rfl⟩ rfl (fun h => by cases h) (hF.s (j := 78) rfl) ?_
    refine ex_aload_n (pc := 20) (k := 0) (by decide +kernel) rfl ?_
    refine ex_iload_n (pc := 21) (k := 1) (by decide +kernel) rfl ?_
    refine ex_callV (pc := 22) (as := [.int l1]) (by decide +kernel) F_MM_holds (in_t6 (i := 86) rfl rfl) (hF.s (j := 78) rfl) rfl (by decide) rfl rfl (Nat.le_of_ble_eq_true rfl) (Nat.lt_succ_self _) ⟨Nat.zero_le _, Nat.zero_le _⟩ (KC_V (Con.mono h ?_))
    intro o M1 ⟨e9, hF1, h⟩
    refine ⟨e9, ?_⟩
    refine ex_iconst (pc := 25) (k := 1) (v := nI 1) (by decide +kernel) (by decide) ?_
    exact ex_ireturn (pc := 26) (v := b2i true) (by decide +kernel) rfl (b2i_n _) h
  · replace h := h.2 hc
    refine ex_iconst (pc := 8) (k := 0) (v := nI 0) (by decide +kernel) (by decide) ?_
    exact ex_ireturn (pc := 9) (v := b2i false) (by decide +kernel) rfl (b2i_n _) h
theorem k_MM_between_0 {d bc bs : Nat} {l1 : Int32} {M : Mem} {Φ : Option Value → Mem → Prop} (hF : Fm M) (h : Con d m_MM_rank 0 0 [.int l1] M (PI fun r1 M1 => Fm M1 ∧ (¬ r1 = (nI 4) → Con d m_MM_rank 0 0 [.int l1] M1 (PI fun r2 M2 => Fm M2 ∧ Con d m_MM_unwinds 0 0 [.ref 78, .int r2] M2 (PV fun M3 => Fm M3 ∧ Con d m_MM_rank 0 0 [.int l1] M3 (PI fun r3 M4 => Fm M4 ∧ (¬ r3 = (nI 4) → Ex (d + 1) m_MM_between bc bs 55 [some (.ref 78), some (.int l1)] [] M4 Φ) ∧ (r3 = (nI 4) → ((mi M4 78 46) ≤ 0 → Ex (d + 1) m_MM_between bc bs 55 [some (.ref 78), some (.int l1)] [] M4 Φ) ∧ (¬ (mi M4 78 46) ≤ 0 → vp_in ((mi M4 78 46) - (nI 1)) 200 ∧ Con d m_MM_rank 0 0 [.int (mi M4 105 (((mi M4 78 46) - (nI 1)).toNatClampNeg))] M4 (PI fun r4 M5 => Fm M5 ∧ (¬ r4 = (nI 4) → Ex (d + 1) m_MM_between bc bs 55 [some (.ref 78), some (.int l1)] [] M5 Φ) ∧ (r4 = (nI 4) → Φ (some (.int (b2i false))) M5)))))))) ∧ (r1 = (nI 4) → Con d m_MM_unwinds 0 0 [.ref 78, .int (nI 5)] M1 (PV fun M6 => Fm M6 ∧ Con d m_MM_rank 0 0 [.int l1] M6 (PI fun r5 M7 => Fm M7 ∧ (¬ r5 = (nI 4) → Ex (d + 1) m_MM_between bc bs 55 [some (.ref 78), some (.int l1)] [] M7 Φ) ∧ (r5 = (nI 4) → ((mi M7 78 46) ≤ 0 → Ex (d + 1) m_MM_between bc bs 55 [some (.ref 78), some (.int l1)] [] M7 Φ) ∧ (¬ (mi M7 78 46) ≤ 0 → vp_in ((mi M7 78 46) - (nI 1)) 200 ∧ Con d m_MM_rank 0 0 [.int (mi M7 105 (((mi M7 78 46) - (nI 1)).toNatClampNeg))] M7 (PI fun r6 M8 => Fm M8 ∧ (¬ r6 = (nI 4) → Ex (d + 1) m_MM_between bc bs 55 [some (.ref 78), some (.int l1)] [] M8 Φ) ∧ (r6 = (nI 4) → Φ (some (.int (b2i false))) M8))))))))) : Ex (d + 1) m_MM_between bc bs 0 [some (.ref 78), some (.int l1)] [] M Φ := by
  refine ex_aload_n (pc := 0) (k := 0) (by decide +kernel) rfl ?_
  refine ex_iload_n (pc := 1) (k := 1) (by decide +kernel) rfl ?_
  refine ex_callS (pc := 2) (as := [.int l1]) (by decide +kernel) F_MM_rank (in_t6 (i := 79) rfl rfl) rfl rfl (Nat.le_of_ble_eq_true rfl) (Nat.lt_succ_self _) ⟨Nat.zero_le _, Nat.zero_le _⟩ (KC_I (Con.mono h ?_))
  intro o M1 ⟨r1, e9, hF1, h⟩
  refine ⟨r1, e9, ?_⟩
  refine ex_iconst (pc := 5) (k := 4) (v := nI 4) (by decide +kernel) (by decide) ?_
  refine ex_icmp_ne (pc := 6) (off := 7) (tgt := 13) (by decide +kernel) (by decide) (fun hc => ?_) (fun hc => ?_)
  · replace h := h.1 hc
    refine ex_iload_n (pc := 13) (k := 1) (by decide +kernel) rfl ?_
    refine ex_callS (pc := 14) (as := [.int l1]) (by decide +kernel) F_MM_rank (in_t6 (i := 79) rfl rfl) rfl rfl (Nat.le_of_ble_eq_true rfl) (Nat.lt_succ_self _) ⟨Nat.zero_le _, Nat.zero_le _⟩ (KC_I (Con.mono h ?_))
    intro o M2 ⟨r2, e9, hF2, h⟩
    refine ⟨r2, e9, ?_⟩
    refine ex_callV (pc := 17) (as := [.int r2]) (by decide +kernel) F_MM_unwinds (in_t6 (i := 75) rfl rfl) (hF2.s (j := 78) rfl) rfl (by decide) rfl rfl (Nat.le_of_ble_eq_true rfl) (Nat.lt_succ_self _) ⟨Nat.zero_le _, Nat.zero_le _⟩ (KC_V (Con.mono h ?_))
    intro o M3 ⟨e9, hF3, h⟩
    refine ⟨e9, ?_⟩
    refine ex_iload_n (pc := 20) (k := 1) (by decide +kernel) rfl ?_
    refine ex_callS (pc := 21) (as := [.int l1]) (by decide +kernel) F_MM_rank (in_t6 (i := 79) rfl rfl) rfl rfl (Nat.le_of_ble_eq_true rfl) (Nat.lt_succ_self _) ⟨Nat.zero_le _, Nat.zero_le _⟩ (KC_I (Con.mono h ?_))
    intro o M4 ⟨r3, e9, hF4, h⟩
    refine ⟨r3, e9, ?_⟩
    refine ex_iconst (pc := 24) (k := 4) (v := nI 4) (by decide +kernel) (by decide) ?_
    refine ex_icmp_ne (pc := 25) (off := 30) (tgt := 55) (by decide +kernel) (by decide) (fun hc => ?_) (fun hc => ?_)
    · replace h := h.1 hc
      exact h
    · replace h := h.2 hc
      refine ex_aload_n (pc := 28) (k := 0) (by decide +kernel) rfl ?_
      refine ey_getI (pc := 29) (v := mi M4 78 46) (by decide +kernel) lf_MM_195 (hF4.s (j := 78) rfl) rfl ?_
      refine ex_if_le (pc := 32) (off := 23) (tgt := 55) (by decide +kernel) (by decide) (fun hc => ?_) (fun hc => ?_)
      · replace h := h.1 hc
        exact h
      · replace h := h.2 hc
        refine ex_aload_n (pc := 35) (k := 0) (by decide +kernel) rfl ?_
        refine ex_getR (pc := 36) (a := 105) (by decide +kernel) lf_MM_118 (hF4.s (j := 78) rfl) (hF4.r (j := 78) (k := 45) rfl rfl) ?_
        refine ex_aload_n (pc := 39) (k := 0) (by decide +kernel) rfl ?_
        refine ey_getI (pc := 40) (v := mi M4 78 46) (by decide +kernel) lf_MM_195 (hF4.s (j := 78) rfl) rfl ?_
        refine ex_iconst (pc := 43) (k := 1) (v := nI 1) (by decide +kernel) (by decide) ?_
        refine ex_isub (pc := 44) (by decide +kernel) ?_
        obtain ⟨g1, h⟩ := h
        refine ey_iald (pc := 45) (v := mi M4 105 (((mi M4 78 46) - (nI 1)).toNatClampNeg)) (by decide +kernel) (hF4.s (j := 105) rfl) g1 rfl rfl ?_
        refine ex_callS (pc := 46) (as := [.int (mi M4 105 (((mi M4 78 46) - (nI 1)).toNatClampNeg))]) (by decide +kernel) F_MM_rank (in_t6 (i := 79) rfl rfl) rfl rfl (Nat.le_of_ble_eq_true rfl) (Nat.lt_succ_self _) ⟨Nat.zero_le _, Nat.zero_le _⟩ (KC_I (Con.mono h ?_))
        intro o M5 ⟨r4, e9, hF5, h⟩
        refine ⟨r4, e9, ?_⟩
        refine ex_iconst (pc := 49) (k := 4) (v := nI 4) (by decide +kernel) (by decide) ?_
        refine ex_icmp_ne (pc := 50) (off := 5) (tgt := 55) (by decide +kernel) (by decide) (fun hc => ?_) (fun hc => ?_)
        · replace h := h.1 hc
          exact h
        · replace h := h.2 hc
          refine ex_iconst (pc := 53) (k := 0) (v := nI 0) (by decide +kernel) (by decide) ?_
          exact ex_ireturn (pc := 54) (v := b2i false) (by decide +kernel) rfl (b2i_n _) h
  · replace h := h.2 hc
    refine ex_iconst (pc := 9) (k := 5) (v := nI 5) (by decide +kernel) (by decide) ?_
    refine ex_goto (pc := 10) (off := 7) (tgt := 17) (by decide +kernel) (by decide) ?_
    refine ex_callV (pc := 17) (as := [.int (nI 5)]) (by decide +kernel) F_MM_unwinds (in_t6 (i := 75) rfl rfl) (hF1.s (j := 78) rfl) rfl (by decide) rfl rfl (Nat.le_of_ble_eq_true rfl) (Nat.lt_succ_self _) ⟨Nat.zero_le _, Nat.zero_le _⟩ (KC_V (Con.mono h ?_))
    intro o M6 ⟨e9, hF6, h⟩
    refine ⟨e9, ?_⟩
    refine ex_iload_n (pc := 20) (k := 1) (by decide +kernel) rfl ?_
    refine ex_callS (pc := 21) (as := [.int l1]) (by decide +kernel) F_MM_rank (in_t6 (i := 79) rfl rfl) rfl rfl (Nat.le_of_ble_eq_true rfl) (Nat.lt_succ_self _) ⟨Nat.zero_le _, Nat.zero_le _⟩ (KC_I (Con.mono h ?_))
    intro o M7 ⟨r5, e9, hF7, h⟩
    refine ⟨r5, e9, ?_⟩
    refine ex_iconst (pc := 24) (k := 4) (v := nI 4) (by decide +kernel) (by decide) ?_
    refine ex_icmp_ne (pc := 25) (off := 30) (tgt := 55) (by decide +kernel) (by decide) (fun hc => ?_) (fun hc => ?_)
    · replace h := h.1 hc
      exact h
    · replace h := h.2 hc
      refine ex_aload_n (pc := 28) (k := 0) (by decide +kernel) rfl ?_
      refine ey_getI (pc := 29) (v := mi M7 78 46) (by decide +kernel) lf_MM_195 (hF7.s (j := 78) rfl) rfl ?_
      refine ex_if_le (pc := 32) (off := 23) (tgt := 55) (by decide +kernel) (by decide) (fun hc => ?_) (fun hc => ?_)
      · replace h := h.1 hc
        exact h
      · replace h := h.2 hc
        refine ex_aload_n (pc := 35) (k := 0) (by decide +kernel) rfl ?_
        refine ex_getR (pc := 36) (a := 105) (by decide +kernel) lf_MM_118 (hF7.s (j := 78) rfl) (hF7.r (j := 78) (k := 45) rfl rfl) ?_
        refine ex_aload_n (pc := 39) (k := 0) (by decide +kernel) rfl ?_
        refine ey_getI (pc := 40) (v := mi M7 78 46) (by decide +kernel) lf_MM_195 (hF7.s (j := 78) rfl) rfl ?_
        refine ex_iconst (pc := 43) (k := 1) (v := nI 1) (by decide +kernel) (by decide) ?_
        refine ex_isub (pc := 44) (by decide +kernel) ?_
        obtain ⟨g2, h⟩ := h
        refine ey_iald (pc := 45) (v := mi M7 105 (((mi M7 78 46) - (nI 1)).toNatClampNeg)) (by decide +kernel) (hF7.s (j := 105) rfl) g2 rfl rfl ?_
        refine ex_callS (pc := 46) (as := [.int (mi M7 105 (((mi M7 78 46) - (nI 1)).toNatClampNeg))]) (by decide +kernel) F_MM_rank (in_t6 (i := 79) rfl rfl) rfl rfl (Nat.le_of_ble_eq_true rfl) (Nat.lt_succ_self _) ⟨Nat.zero_le _, Nat.zero_le _⟩ (KC_I (Con.mono h ?_))
        intro o M8 ⟨r6, e9, hF8, h⟩
        refine ⟨r6, e9, ?_⟩
        refine ex_iconst (pc := 49) (k := 4) (v := nI 4) (by decide +kernel) (by decide) ?_
        refine ex_icmp_ne (pc := 50) (off := 5) (tgt := 55) (by decide +kernel) (by decide) (fun hc => ?_) (fun hc => ?_)
        · replace h := h.1 hc
          exact h
        · replace h := h.2 hc
          refine ex_iconst (pc := 53) (k := 0) (v := nI 0) (by decide +kernel) (by decide) ?_
          exact ex_ireturn (pc := 54) (v := b2i false) (by decide +kernel) rfl (b2i_n _) h
theorem k_MM_between_55 {d bc bs : Nat} {l1 : Int32} {M : Mem} {Φ : Option Value → Mem → Prop} (hF : Fm M) (h : Con d m_MM_holds 0 0 [.ref 78, .int l1] M (PV fun M1 => Fm M1 ∧ Φ (some (.int (b2i true))) M1)) : Ex (d + 1) m_MM_between bc bs 55 [some (.ref 78), some (.int l1)] [] M Φ := by
  refine ex_aload_n (pc := 55) (k := 0) (by decide +kernel) rfl ?_
  refine ex_iload_n (pc := 56) (k := 1) (by decide +kernel) rfl ?_
  refine ex_callV (pc := 57) (as := [.int l1]) (by decide +kernel) F_MM_holds (in_t6 (i := 86) rfl rfl) (hF.s (j := 78) rfl) rfl (by decide) rfl rfl (Nat.le_of_ble_eq_true rfl) (Nat.lt_succ_self _) ⟨Nat.zero_le _, Nat.zero_le _⟩ (KC_V (Con.mono h ?_))
  intro o M1 ⟨e9, hF1, h⟩
  refine ⟨e9, ?_⟩
  refine ex_iconst (pc := 60) (k := 1) (v := nI 1) (by decide +kernel) (by decide) ?_
  exact ex_ireturn (pc := 61) (v := b2i true) (by decide +kernel) rfl (b2i_n _) h
theorem k_MM_signOf_0 {d bc bs : Nat}  {M : Mem} {Φ : Option Value → Mem → Prop} (hF : Fm M) (h : (¬ (mi M 78 42) = (nI 4) → (¬ (mi M 78 42) = (nI 5) → (¬ (mi M 78 42) = (nI 60) → (¬ (mi M 78 42) = (nI 61) → (¬ (mi M 78 42) = (nI 43) → (¬ (mi M 78 42) = (nI 45) → (¬ (mi M 78 42) = (nI 42) → Φ (some (.int (-1))) M) ∧ ((mi M 78 42) = (nI 42) → Φ (some (.int (nI 18))) M)) ∧ ((mi M 78 42) = (nI 45) → Φ (some (.int (nI 17))) M)) ∧ ((mi M 78 42) = (nI 43) → Φ (some (.int (nI 16))) M)) ∧ ((mi M 78 42) = (nI 61) → Φ (some (.int (nI 15))) M)) ∧ ((mi M 78 42) = (nI 60) → Φ (some (.int (nI 14))) M)) ∧ ((mi M 78 42) = (nI 5) → Φ (some (.int (nI 12))) M)) ∧ ((mi M 78 42) = (nI 4) → Φ (some (.int (nI 11))) M)) : Ex (d + 1) m_MM_signOf bc bs 0 [some (.ref 78)] [] M Φ := by
  refine ex_aload_n (pc := 0) (k := 0) (by decide +kernel) rfl ?_
  refine ey_getI (pc := 1) (v := mi M 78 42) (by decide +kernel) lf_MM_182 (hF.s (j := 78) rfl) rfl ?_
  refine ex_iconst (pc := 4) (k := 4) (v := nI 4) (by decide +kernel) (by decide) ?_
  refine ex_icmp_ne (pc := 5) (off := 8) (tgt := 13) (by decide +kernel) (by decide) (fun hc => ?_) (fun hc => ?_)
  · replace h := h.1 hc
    refine ex_aload_n (pc := 13) (k := 0) (by decide +kernel) rfl ?_
    refine ey_getI (pc := 14) (v := mi M 78 42) (by decide +kernel) lf_MM_182 (hF.s (j := 78) rfl) rfl ?_
    refine ex_iconst (pc := 17) (k := 5) (v := nI 5) (by decide +kernel) (by decide) ?_
    refine ex_icmp_ne (pc := 18) (off := 8) (tgt := 26) (by decide +kernel) (by decide) (fun hc => ?_) (fun hc => ?_)
    · replace h := h.1 hc
      refine ex_aload_n (pc := 26) (k := 0) (by decide +kernel) rfl ?_
      refine ey_getI (pc := 27) (v := mi M 78 42) (by decide +kernel) lf_MM_182 (hF.s (j := 78) rfl) rfl ?_
      refine ex_bipush (pc := 30) (k := 60) (v := nI 60) (by decide +kernel) (by decide) ?_
      refine ex_icmp_ne (pc := 32) (off := 8) (tgt := 40) (by decide +kernel) (by decide) (fun hc => ?_) (fun hc => ?_)
      · replace h := h.1 hc
        refine ex_aload_n (pc := 40) (k := 0) (by decide +kernel) rfl ?_
        refine ey_getI (pc := 41) (v := mi M 78 42) (by decide +kernel) lf_MM_182 (hF.s (j := 78) rfl) rfl ?_
        refine ex_bipush (pc := 44) (k := 61) (v := nI 61) (by decide +kernel) (by decide) ?_
        refine ex_icmp_ne (pc := 46) (off := 8) (tgt := 54) (by decide +kernel) (by decide) (fun hc => ?_) (fun hc => ?_)
        · replace h := h.1 hc
          refine ex_aload_n (pc := 54) (k := 0) (by decide +kernel) rfl ?_
          refine ey_getI (pc := 55) (v := mi M 78 42) (by decide +kernel) lf_MM_182 (hF.s (j := 78) rfl) rfl ?_
          refine ex_bipush (pc := 58) (k := 43) (v := nI 43) (by decide +kernel) (by decide) ?_
          refine ex_icmp_ne (pc := 60) (off := 8) (tgt := 68) (by decide +kernel) (by decide) (fun hc => ?_) (fun hc => ?_)
          · replace h := h.1 hc
            refine ex_aload_n (pc := 68) (k := 0) (by decide +kernel) rfl ?_
            refine ey_getI (pc := 69) (v := mi M 78 42) (by decide +kernel) lf_MM_182 (hF.s (j := 78) rfl) rfl ?_
            refine ex_bipush (pc := 72) (k := 45) (v := nI 45) (by decide +kernel) (by decide) ?_
            refine ex_icmp_ne (pc := 74) (off := 8) (tgt := 82) (by decide +kernel) (by decide) (fun hc => ?_) (fun hc => ?_)
            · replace h := h.1 hc
              refine ex_aload_n (pc := 82) (k := 0) (by decide +kernel) rfl ?_
              refine ey_getI (pc := 83) (v := mi M 78 42) (by decide +kernel) lf_MM_182 (hF.s (j := 78) rfl) rfl ?_
              refine ex_bipush (pc := 86) (k := 42) (v := nI 42) (by decide +kernel) (by decide) ?_
              refine ex_icmp_ne (pc := 88) (off := 8) (tgt := 96) (by decide +kernel) (by decide) (fun hc => ?_) (fun hc => ?_)
              · replace h := h.1 hc
                refine ex_iconst (pc := 96) (k := -1) (v := -1) (by decide +kernel) (by decide) ?_
                exact ex_ireturn (pc := 97) (by decide +kernel) rfl rfl h
              · replace h := h.2 hc
                refine ex_bipush (pc := 91) (k := 18) (v := nI 18) (by decide +kernel) (by decide) ?_
                refine ex_goto (pc := 93) (off := 4) (tgt := 97) (by decide +kernel) (by decide) ?_
                exact ex_ireturn (pc := 97) (by decide +kernel) rfl rfl h
            · replace h := h.2 hc
              refine ex_bipush (pc := 77) (k := 17) (v := nI 17) (by decide +kernel) (by decide) ?_
              refine ex_goto (pc := 79) (off := 18) (tgt := 97) (by decide +kernel) (by decide) ?_
              exact ex_ireturn (pc := 97) (by decide +kernel) rfl rfl h
          · replace h := h.2 hc
            refine ex_bipush (pc := 63) (k := 16) (v := nI 16) (by decide +kernel) (by decide) ?_
            refine ex_goto (pc := 65) (off := 32) (tgt := 97) (by decide +kernel) (by decide) ?_
            exact ex_ireturn (pc := 97) (by decide +kernel) rfl rfl h
        · replace h := h.2 hc
          refine ex_bipush (pc := 49) (k := 15) (v := nI 15) (by decide +kernel) (by decide) ?_
          refine ex_goto (pc := 51) (off := 46) (tgt := 97) (by decide +kernel) (by decide) ?_
          exact ex_ireturn (pc := 97) (by decide +kernel) rfl rfl h
      · replace h := h.2 hc
        refine ex_bipush (pc := 35) (k := 14) (v := nI 14) (by decide +kernel) (by decide) ?_
        refine ex_goto (pc := 37) (off := 60) (tgt := 97) (by decide +kernel) (by decide) ?_
        exact ex_ireturn (pc := 97) (by decide +kernel) rfl rfl h
    · replace h := h.2 hc
      refine ex_bipush (pc := 21) (k := 12) (v := nI 12) (by decide +kernel) (by decide) ?_
      refine ex_goto (pc := 23) (off := 74) (tgt := 97) (by decide +kernel) (by decide) ?_
      exact ex_ireturn (pc := 97) (by decide +kernel) rfl rfl h
  · replace h := h.2 hc
    refine ex_bipush (pc := 8) (k := 11) (v := nI 11) (by decide +kernel) (by decide) ?_
    refine ex_goto (pc := 10) (off := 87) (tgt := 97) (by decide +kernel) (by decide) ?_
    exact ex_ireturn (pc := 97) (by decide +kernel) rfl rfl h
theorem k_MM_eRead_0 {d bc bs : Nat}  {M : Mem} {Φ : Option Value → Mem → Prop} (hF : Fm M) (h : Ex (d + 1) m_MM_eRead bc bs 14 [some (.ref 78), some (.int (nI 1)), some (.int (nI 1)), none] [] (wi (wi M 78 46 (nI 0)) 78 47 (nI 0)) Φ) : Ex (d + 1) m_MM_eRead bc bs 0 [some (.ref 78), none, none, none] [] M Φ := by
  refine ex_aload_n (pc := 0) (k := 0) (by decide +kernel) rfl ?_
  refine ex_iconst (pc := 1) (k := 0) (v := nI 0) (by decide +kernel) (by decide) ?_
  refine ex_putI (pc := 2) (index := 195) (ci := 11) (k := 46) (fin := false) (by decide +kernel) ⟨_, _, _, _, cf_MM, by decide, in_t5 (i := 122) rfl rfl, rfl, (fun h => by cases h), rfl, rfl⟩ rfl (fun h => by cases h) (hF.s (j := 78) rfl) ?_
  refine ex_aload_n (pc := 5) (k := 0) (by decide +kernel) rfl ?_
  refine ex_iconst (pc := 6) (k := 0) (v := nI 0) (by decide +kernel) (by decide) ?_
  refine ex_putI (pc := 7) (index := 202) (ci := 11) (k := 47) (fin := false) (by decide +kernel) ⟨_, _, _, _, cf_MM, by decide, in_t5 (i := 123) rfl rfl, rfl, (fun h => by cases h), rfl, rfl⟩ rfl (fun h => by cases h) (hF.s (j := 78) rfl) ?_
  refine ex_iconst (pc := 10) (k := 1) (v := nI 1) (by decide +kernel) (by decide) ?_
  refine ex_istore_n (pc := 11) (k := 1) (lo2 := [some (.ref 78), some (.int (nI 1)), none, none]) (by decide +kernel) (by decide) rfl ?_
  refine ex_iconst (pc := 12) (k := 1) (v := nI 1) (by decide +kernel) (by decide) ?_
  refine ex_istore_n (pc := 13) (k := 2) (lo2 := [some (.ref 78), some (.int (nI 1)), some (.int (nI 1)), none]) (by decide +kernel) (by decide) rfl ?_
  exact h
theorem k_MM_eRead_14 {d bc bs : Nat} {l1 : Int32} {l2 : Int32} {M : Mem} {Φ : Option Value → Mem → Prop} (hF : Fm M) (h : Con d m_MM_next 0 0 [.ref 78] M (PV fun M1 => Fm M1 ∧ (l1 = 0 → (¬ (mi M1 78 42) = (nI 59) → (¬ (mi M1 78 42) = (nI 41) → Con d m_MM_signOf 0 0 [.ref 78] M1 (PI fun r1 M2 => Fm M2 ∧ (r1 = (-1) → Φ (some (.int (b2i false))) M2) ∧ (¬ r1 = (-1) → Con d m_MM_between 0 0 [.ref 78, .int r1] M2 (PB fun r2 M3 => Fm M3 ∧ (r2 = true → ((nI 12) < r1 → Ex (d + 1) m_MM_eRead bc bs 14 [some (.ref 78), some (.int (nI 1)), some (.int (nI 0)), none] [] M3 Φ) ∧ (¬ (nI 12) < r1 → Ex (d + 1) m_MM_eRead bc bs 14 [some (.ref 78), some (.int (nI 1)), some (.int (nI 1)), none] [] M3 Φ)) ∧ (r2 = false → Φ (some (.int (b2i false))) M3))))) ∧ ((mi M1 78 42) = (nI 41) → Con d m_MM_unwinds 0 0 [.ref 78, .int (nI 1)] M1 (PV fun M4 => Fm M4 ∧ (¬ (mi M4 78 46) = 0 → Con d m_MM_unwinds 0 0 [.ref 78, .int (nI 7)] (wi (wi M4 78 46 ((mi M4 78 46) - (nI 1))) 78 47 ((mi M4 78 47) - (nI 1))) (PV fun M5 => Fm M5 ∧ Ex (d + 1) m_MM_eRead bc bs 14 [some (.ref 78), some (.int l1), some (.int l2), none] [] M5 Φ)) ∧ ((mi M4 78 46) = 0 → Φ (some (.int (b2i false))) M4)))) ∧ ((mi M1 78 42) = (nI 59) → Con d m_MM_unwinds 0 0 [.ref 78, .int (nI 1)] M1 (PV fun M6 => Fm M6 ∧ (¬ (mi M6 78 46) = 0 → Φ (some (.int (b2i false))) M6) ∧ ((mi M6 78 46) = 0 → Φ (some (.int (b2i true))) M6)))) ∧ (¬ l1 = 0 → ((mi M1 78 42) = (nI 1) → Ex (d + 1) m_MM_eRead bc bs 38 [some (.ref 78), some (.int l1), some (.int l2), none] [] M1 Φ) ∧ (¬ (mi M1 78 42) = (nI 1) → (¬ (mi M1 78 42) = (nI 2) → (¬ (mi M1 78 42) = (nI 6) → Ex (d + 1) m_MM_eRead bc bs 99 [some (.ref 78), some (.int l1), some (.int l2), none] [] M1 Φ) ∧ ((mi M1 78 42) = (nI 6) → (l2 = 0 → Ex (d + 1) m_MM_eRead bc bs 99 [some (.ref 78), some (.int l1), some (.int l2), none] [] M1 Φ) ∧ (¬ l2 = 0 → Con d m_MM_opensOne 0 0 [.ref 78, .int (nI 13)] M1 (PB fun r3 M7 => Fm M7 ∧ (r3 = true → Ex (d + 1) m_MM_eRead bc bs 14 [some (.ref 78), some (.int l1), some (.int l2), none] [] M7 Φ) ∧ (r3 = false → Φ (some (.int (b2i false))) M7))))) ∧ ((mi M1 78 42) = (nI 2) → Ex (d + 1) m_MM_eRead bc bs 38 [some (.ref 78), some (.int l1), some (.int l2), none] [] M1 Φ))))) : Ex (d + 1) m_MM_eRead bc bs 14 [some (.ref 78), some (.int l1), some (.int l2), none] [] M Φ := by
  refine ex_aload_n (pc := 14) (k := 0) (by decide +kernel) rfl ?_
  refine ex_callV (pc := 15) (as := []) (by decide +kernel) F_MM_next (in_t6 (i := 58) rfl rfl) (hF.s (j := 78) rfl) rfl (by decide) rfl rfl (Nat.le_of_ble_eq_true rfl) (Nat.lt_succ_self _) ⟨Nat.zero_le _, Nat.zero_le _⟩ (KC_V (Con.mono h ?_))
  intro o M1 ⟨e9, hF1, h⟩
  refine ⟨e9, ?_⟩
  refine ex_iload_n (pc := 18) (k := 1) (by decide +kernel) rfl ?_
  refine ex_if_eq (pc := 19) (off := 131) (tgt := 150) (by decide +kernel) (by decide) (fun hc => ?_) (fun hc => ?_)
  · replace h := h.1 hc
    refine ex_aload_n (pc := 150) (k := 0) (by decide +kernel) rfl ?_
    refine ey_getI (pc := 151) (v := mi M1 78 42) (by decide +kernel) lf_MM_182 (hF1.s (j := 78) rfl) rfl ?_
    refine ex_bipush (pc := 154) (k := 59) (v := nI 59) (by decide +kernel) (by decide) ?_
    refine ex_icmp_ne (pc := 156) (off := 21) (tgt := 177) (by decide +kernel) (by decide) (fun hc => ?_) (fun hc => ?_)
    · replace h := h.1 hc
      refine ex_aload_n (pc := 177) (k := 0) (by decide +kernel) rfl ?_
      refine ey_getI (pc := 178) (v := mi M1 78 42) (by decide +kernel) lf_MM_182 (hF1.s (j := 78) rfl) rfl ?_
      refine ex_bipush (pc := 181) (k := 41) (v := nI 41) (by decide +kernel) (by decide) ?_
      refine ex_icmp_ne (pc := 183) (off := 46) (tgt := 229) (by decide +kernel) (by decide) (fun hc => ?_) (fun hc => ?_)
      · replace h := h.1 hc
        refine ex_aload_n (pc := 229) (k := 0) (by decide +kernel) rfl ?_
        refine ex_callV (pc := 230) (as := []) (by decide +kernel) F_MM_signOf (in_t6 (i := 90) rfl rfl) (hF1.s (j := 78) rfl) rfl (by decide) rfl rfl (Nat.le_of_ble_eq_true rfl) (Nat.lt_succ_self _) ⟨Nat.zero_le _, Nat.zero_le _⟩ (KC_I (Con.mono h ?_))
        intro o M2 ⟨r1, e9, hF2, h⟩
        refine ⟨r1, e9, ?_⟩
        refine ex_istore_n (pc := 233) (k := 3) (lo2 := [some (.ref 78), some (.int l1), some (.int l2), some (.int r1)]) (by decide +kernel) (by decide) rfl ?_
        refine ex_iload_n (pc := 234) (k := 3) (by decide +kernel) rfl ?_
        refine ex_iconst (pc := 235) (k := -1) (v := -1) (by decide +kernel) (by decide) ?_
        refine ex_icmp_eq (pc := 236) (off := 11) (tgt := 247) (by decide +kernel) (by decide) (fun hc => ?_) (fun hc => ?_)
        · replace h := h.1 hc
          refine ex_iconst (pc := 247) (k := 0) (v := nI 0) (by decide +kernel) (by decide) ?_
          exact ex_ireturn (pc := 248) (v := b2i false) (by decide +kernel) rfl (b2i_n _) h
        · replace h := h.2 hc
          refine ex_aload_n (pc := 239) (k := 0) (by decide +kernel) rfl ?_
          refine ex_iload_n (pc := 240) (k := 3) (by decide +kernel) rfl ?_
          refine ex_callV (pc := 241) (as := [.int r1]) (by decide +kernel) F_MM_between (in_t6 (i := 94) rfl rfl) (hF2.s (j := 78) rfl) rfl (by decide) rfl rfl (Nat.le_of_ble_eq_true rfl) (Nat.lt_succ_self _) ⟨Nat.zero_le _, Nat.zero_le _⟩ (KC_B (Con.mono h ?_))
          intro o M3 ⟨r2, e9, hF3, h⟩
          refine ⟨r2, e9, ?_⟩
          refine ey_ifneB (pc := 244) (off := 5) (tgt := 249) (by decide +kernel) (by decide) (fun hc => ?_) (fun hc => ?_)
          · replace h := h.1 hc
            refine ex_iconst (pc := 249) (k := 1) (v := nI 1) (by decide +kernel) (by decide) ?_
            refine ex_istore_n (pc := 250) (k := 1) (lo2 := [some (.ref 78), some (.int (nI 1)), some (.int l2), some (.int r1)]) (by decide +kernel) (by decide) rfl ?_
            refine ex_iload_n (pc := 251) (k := 3) (by decide +kernel) rfl ?_
            refine ex_bipush (pc := 252) (k := 12) (v := nI 12) (by decide +kernel) (by decide) ?_
            refine ex_icmp_gt (pc := 254) (off := 7) (tgt := 261) (by decide +kernel) (by decide) (fun hc => ?_) (fun hc => ?_)
            · replace h := h.1 hc
              refine ex_iconst (pc := 261) (k := 0) (v := nI 0) (by decide +kernel) (by decide) ?_
              refine ex_istore_n (pc := 262) (k := 2) (lo2 := [some (.ref 78), some (.int (nI 1)), some (.int (nI 0)), some (.int r1)]) (by decide +kernel) (by decide) rfl ?_
              refine ex_goto (pc := 263) (off := -249) (tgt := 14) (by decide +kernel) (by decide) ?_
              exact Ex.msk [true, true, true, false] h
            · replace h := h.2 hc
              refine ex_iconst (pc := 257) (k := 1) (v := nI 1) (by decide +kernel) (by decide) ?_
              refine ex_goto (pc := 258) (off := 4) (tgt := 262) (by decide +kernel) (by decide) ?_
              refine ex_istore_n (pc := 262) (k := 2) (lo2 := [some (.ref 78), some (.int (nI 1)), some (.int (nI 1)), some (.int r1)]) (by decide +kernel) (by decide) rfl ?_
              refine ex_goto (pc := 263) (off := -249) (tgt := 14) (by decide +kernel) (by decide) ?_
              exact Ex.msk [true, true, true, false] h
          · replace h := h.2 hc
            refine ex_iconst (pc := 247) (k := 0) (v := nI 0) (by decide +kernel) (by decide) ?_
            exact ex_ireturn (pc := 248) (v := b2i false) (by decide +kernel) rfl (b2i_n _) h
      · replace h := h.2 hc
        refine ex_aload_n (pc := 186) (k := 0) (by decide +kernel) rfl ?_
        refine ex_iconst (pc := 187) (k := 1) (v := nI 1) (by decide +kernel) (by decide) ?_
        refine ex_callV (pc := 188) (as := [.int (nI 1)]) (by decide +kernel) F_MM_unwinds (in_t6 (i := 75) rfl rfl) (hF1.s (j := 78) rfl) rfl (by decide) rfl rfl (Nat.le_of_ble_eq_true rfl) (Nat.lt_succ_self _) ⟨Nat.zero_le _, Nat.zero_le _⟩ (KC_V (Con.mono h ?_))
        intro o M4 ⟨e9, hF4, h⟩
        refine ⟨e9, ?_⟩
        refine ex_aload_n (pc := 191) (k := 0) (by decide +kernel) rfl ?_
        refine ey_getI (pc := 192) (v := mi M4 78 46) (by decide +kernel) lf_MM_195 (hF4.s (j := 78) rfl) rfl ?_
        refine ex_if_ne (pc := 195) (off := 5) (tgt := 200) (by decide +kernel) (by decide) (fun hc => ?_) (fun hc => ?_)
        · replace h := h.1 hc
          refine ex_aload_n (pc := 200) (k := 0) (by decide +kernel) rfl ?_
          refine ex_dup (pc := 201) (by decide +kernel) rfl ?_
          refine ey_getI (pc := 202) (v := mi M4 78 46) (by decide +kernel) lf_MM_195 (hF4.s (j := 78) rfl) rfl ?_
          refine ex_iconst (pc := 205) (k := 1) (v := nI 1) (by decide +kernel) (by decide) ?_
          refine ex_isub (pc := 206) (by decide +kernel) ?_
          refine ex_putI (pc := 207) (index := 195) (ci := 11) (k := 46) (fin := false) (by decide +kernel) ⟨_, _, _, _, cf_MM, by decide, in_t5 (i := 122) rfl rfl, rfl, (fun h => by cases h), rfl, rfl⟩ rfl (fun h => by cases h) (hF4.s (j := 78) rfl) ?_
          refine ex_aload_n (pc := 210) (k := 0) (by decide +kernel) rfl ?_
          refine ex_dup (pc := 211) (by decide +kernel) rfl ?_
          refine ey_getI (pc := 212) (v := mi M4 78 47) (by decide +kernel) lf_MM_202 (hF4.s (j := 78) rfl) rfl ?_
          refine ex_iconst (pc := 215) (k := 1) (v := nI 1) (by decide +kernel) (by decide) ?_
          refine ex_isub (pc := 216) (by decide +kernel) ?_
          refine ex_putI (pc := 217) (index := 202) (ci := 11) (k := 47) (fin := false) (by decide +kernel) ⟨_, _, _, _, cf_MM, by decide, in_t5 (i := 123) rfl rfl, rfl, (fun h => by cases h), rfl, rfl⟩ rfl (fun h => by cases h) (hF4.s (j := 78) rfl) ?_
          refine ex_aload_n (pc := 220) (k := 0) (by decide +kernel) rfl ?_
          refine ex_bipush (pc := 221) (k := 7) (v := nI 7) (by decide +kernel) (by decide) ?_
          refine ex_callV (pc := 223) (as := [.int (nI 7)]) (by decide +kernel) F_MM_unwinds (in_t6 (i := 75) rfl rfl) (hF4.s (j := 78) rfl) rfl (by decide) rfl rfl (Nat.le_of_ble_eq_true rfl) (Nat.lt_succ_self _) ⟨Nat.zero_le _, Nat.zero_le _⟩ (KC_V (Con.mono h ?_))
          intro o M5 ⟨e9, hF5, h⟩
          refine ⟨e9, ?_⟩
          refine ex_goto (pc := 226) (off := -212) (tgt := 14) (by decide +kernel) (by decide) ?_
          exact h
        · replace h := h.2 hc
          refine ex_iconst (pc := 198) (k := 0) (v := nI 0) (by decide +kernel) (by decide) ?_
          exact ex_ireturn (pc := 199) (v := b2i false) (by decide +kernel) rfl (b2i_n _) h
    · replace h := h.2 hc
      refine ex_aload_n (pc := 159) (k := 0) (by decide +kernel) rfl ?_
      refine ex_iconst (pc := 160) (k := 1) (v := nI 1) (by decide +kernel) (by decide) ?_
      refine ex_callV (pc := 161) (as := [.int (nI 1)]) (by decide +kernel) F_MM_unwinds (in_t6 (i := 75) rfl rfl) (hF1.s (j := 78) rfl) rfl (by decide) rfl rfl (Nat.le_of_ble_eq_true rfl) (Nat.lt_succ_self _) ⟨Nat.zero_le _, Nat.zero_le _⟩ (KC_V (Con.mono h ?_))
      intro o M6 ⟨e9, hF6, h⟩
      refine ⟨e9, ?_⟩
      refine ex_aload_n (pc := 164) (k := 0) (by decide +kernel) rfl ?_
      refine ey_getI (pc := 165) (v := mi M6 78 46) (by decide +kernel) lf_MM_195 (hF6.s (j := 78) rfl) rfl ?_
      refine ex_if_ne (pc := 168) (off := 7) (tgt := 175) (by decide +kernel) (by decide) (fun hc => ?_) (fun hc => ?_)
      · replace h := h.1 hc
        refine ex_iconst (pc := 175) (k := 0) (v := nI 0) (by decide +kernel) (by decide) ?_
        exact ex_ireturn (pc := 176) (v := b2i false) (by decide +kernel) rfl (b2i_n _) h
      · replace h := h.2 hc
        refine ex_iconst (pc := 171) (k := 1) (v := nI 1) (by decide +kernel) (by decide) ?_
        refine ex_goto (pc := 172) (off := 4) (tgt := 176) (by decide +kernel) (by decide) ?_
        exact ex_ireturn (pc := 176) (v := b2i true) (by decide +kernel) rfl (b2i_n _) h
  · replace h := h.2 hc
    refine ex_aload_n (pc := 22) (k := 0) (by decide +kernel) rfl ?_
    refine ey_getI (pc := 23) (v := mi M1 78 42) (by decide +kernel) lf_MM_182 (hF1.s (j := 78) rfl) rfl ?_
    refine ex_iconst (pc := 26) (k := 1) (v := nI 1) (by decide +kernel) (by decide) ?_
    refine ex_icmp_eq (pc := 27) (off := 11) (tgt := 38) (by decide +kernel) (by decide) (fun hc => ?_) (fun hc => ?_)
    · replace h := h.1 hc
      exact h
    · replace h := h.2 hc
      refine ex_aload_n (pc := 30) (k := 0) (by decide +kernel) rfl ?_
      refine ey_getI (pc := 31) (v := mi M1 78 42) (by decide +kernel) lf_MM_182 (hF1.s (j := 78) rfl) rfl ?_
      refine ex_iconst (pc := 34) (k := 2) (v := nI 2) (by decide +kernel) (by decide) ?_
      refine ex_icmp_ne (pc := 35) (off := 40) (tgt := 75) (by decide +kernel) (by decide) (fun hc => ?_) (fun hc => ?_)
      · replace h := h.1 hc
        refine ex_aload_n (pc := 75) (k := 0) (by decide +kernel) rfl ?_
        refine ey_getI (pc := 76) (v := mi M1 78 42) (by decide +kernel) lf_MM_182 (hF1.s (j := 78) rfl) rfl ?_
        refine ex_bipush (pc := 79) (k := 6) (v := nI 6) (by decide +kernel) (by decide) ?_
        refine ex_icmp_ne (pc := 81) (off := 18) (tgt := 99) (by decide +kernel) (by decide) (fun hc => ?_) (fun hc => ?_)
        · replace h := h.1 hc
          exact h
        · replace h := h.2 hc
          refine ex_iload_n (pc := 84) (k := 2) (by decide +kernel) rfl ?_
          refine ex_if_eq (pc := 85) (off := 14) (tgt := 99) (by decide +kernel) (by decide) (fun hc => ?_) (fun hc => ?_)
          · replace h := h.1 hc
            exact h
          · replace h := h.2 hc
            refine ex_aload_n (pc := 88) (k := 0) (by decide +kernel) rfl ?_
            refine ex_bipush (pc := 89) (k := 13) (v := nI 13) (by decide +kernel) (by decide) ?_
            refine ex_callV (pc := 91) (as := [.int (nI 13)]) (by decide +kernel) F_MM_opensOne (in_t6 (i := 82) rfl rfl) (hF1.s (j := 78) rfl) rfl (by decide) rfl rfl (Nat.le_of_ble_eq_true rfl) (Nat.lt_succ_self _) ⟨Nat.zero_le _, Nat.zero_le _⟩ (KC_B (Con.mono h ?_))
            intro o M7 ⟨r3, e9, hF7, h⟩
            refine ⟨r3, e9, ?_⟩
            refine ey_ifneB (pc := 94) (off := -80) (tgt := 14) (by decide +kernel) (by decide) (fun hc => ?_) (fun hc => ?_)
            · replace h := h.1 hc
              exact h
            · replace h := h.2 hc
              refine ex_iconst (pc := 97) (k := 0) (v := nI 0) (by decide +kernel) (by decide) ?_
              exact ex_ireturn (pc := 98) (v := b2i false) (by decide +kernel) rfl (b2i_n _) h
      · replace h := h.2 hc
        exact h
theorem k_MM_eRead_38 {d bc bs : Nat} {l1 : Int32} {l2 : Int32} {M : Mem} {Φ : Option Value → Mem → Prop} (hF : Fm M) (h : (¬ (mi M 78 42) = (nI 1) → Con d m_MM_puts 0 0 [.ref 78, .int (mi M 78 43)] M (PV fun M1 => Fm M1 ∧ Con d m_MM_unwinds 0 0 [.ref 78, .int (nI 7)] M1 (PV fun M2 => Fm M2 ∧ Ex (d + 1) m_MM_eRead bc bs 14 [some (.ref 78), some (.int (nI 0)), some (.int l2), none] [] M2 Φ))) ∧ ((mi M 78 42) = (nI 1) → Con d m_MM_puts 0 0 [.ref 78, .int ((nI 100000) + (mi M 78 43))] M (PV fun M3 => Fm M3 ∧ Con d m_MM_unwinds 0 0 [.ref 78, .int (nI 7)] M3 (PV fun M4 => Fm M4 ∧ Ex (d + 1) m_MM_eRead bc bs 14 [some (.ref 78), some (.int (nI 0)), some (.int l2), none] [] M4 Φ)))) : Ex (d + 1) m_MM_eRead bc bs 38 [some (.ref 78), some (.int l1), some (.int l2), none] [] M Φ := by
  refine ex_aload_n (pc := 38) (k := 0) (by decide +kernel) rfl ?_
  refine ex_aload_n (pc := 39) (k := 0) (by decide +kernel) rfl ?_
  refine ey_getI (pc := 40) (v := mi M 78 42) (by decide +kernel) lf_MM_182 (hF.s (j := 78) rfl) rfl ?_
  refine ex_iconst (pc := 43) (k := 1) (v := nI 1) (by decide +kernel) (by decide) ?_
  refine ex_icmp_ne (pc := 44) (off := 13) (tgt := 57) (by decide +kernel) (by decide) (fun hc => ?_) (fun hc => ?_)
  · replace h := h.1 hc
    refine ex_aload_n (pc := 57) (k := 0) (by decide +kernel) rfl ?_
    refine ey_getI (pc := 58) (v := mi M 78 43) (by decide +kernel) lf_MM_185 (hF.s (j := 78) rfl) rfl ?_
    refine ex_callV (pc := 61) (as := [.int (mi M 78 43)]) (by decide +kernel) F_MM_puts (in_t6 (i := 71) rfl rfl) (hF.s (j := 78) rfl) rfl (by decide) rfl rfl (Nat.le_of_ble_eq_true rfl) (Nat.lt_succ_self _) ⟨Nat.zero_le _, Nat.zero_le _⟩ (KC_V (Con.mono h ?_))
    intro o M1 ⟨e9, hF1, h⟩
    refine ⟨e9, ?_⟩
    refine ex_aload_n (pc := 64) (k := 0) (by decide +kernel) rfl ?_
    refine ex_bipush (pc := 65) (k := 7) (v := nI 7) (by decide +kernel) (by decide) ?_
    refine ex_callV (pc := 67) (as := [.int (nI 7)]) (by decide +kernel) F_MM_unwinds (in_t6 (i := 75) rfl rfl) (hF1.s (j := 78) rfl) rfl (by decide) rfl rfl (Nat.le_of_ble_eq_true rfl) (Nat.lt_succ_self _) ⟨Nat.zero_le _, Nat.zero_le _⟩ (KC_V (Con.mono h ?_))
    intro o M2 ⟨e9, hF2, h⟩
    refine ⟨e9, ?_⟩
    refine ex_iconst (pc := 70) (k := 0) (v := nI 0) (by decide +kernel) (by decide) ?_
    refine ex_istore_n (pc := 71) (k := 1) (lo2 := [some (.ref 78), some (.int (nI 0)), some (.int l2), none]) (by decide +kernel) (by decide) rfl ?_
    refine ex_goto (pc := 72) (off := -58) (tgt := 14) (by decide +kernel) (by decide) ?_
    exact h
  · replace h := h.2 hc
    refine ex_ldc (pc := 47) (v := nI 100000) (by decide +kernel) (in_t6 (i := 70) rfl rfl) ?_
    refine ex_aload_n (pc := 49) (k := 0) (by decide +kernel) rfl ?_
    refine ey_getI (pc := 50) (v := mi M 78 43) (by decide +kernel) lf_MM_185 (hF.s (j := 78) rfl) rfl ?_
    refine ex_iadd (pc := 53) (by decide +kernel) ?_
    refine ex_goto (pc := 54) (off := 7) (tgt := 61) (by decide +kernel) (by decide) ?_
    refine ex_callV (pc := 61) (as := [.int ((nI 100000) + (mi M 78 43))]) (by decide +kernel) F_MM_puts (in_t6 (i := 71) rfl rfl) (hF.s (j := 78) rfl) rfl (by decide) rfl rfl (Nat.le_of_ble_eq_true rfl) (Nat.lt_succ_self _) ⟨Nat.zero_le _, Nat.zero_le _⟩ (KC_V (Con.mono h ?_))
    intro o M3 ⟨e9, hF3, h⟩
    refine ⟨e9, ?_⟩
    refine ex_aload_n (pc := 64) (k := 0) (by decide +kernel) rfl ?_
    refine ex_bipush (pc := 65) (k := 7) (v := nI 7) (by decide +kernel) (by decide) ?_
    refine ex_callV (pc := 67) (as := [.int (nI 7)]) (by decide +kernel) F_MM_unwinds (in_t6 (i := 75) rfl rfl) (hF3.s (j := 78) rfl) rfl (by decide) rfl rfl (Nat.le_of_ble_eq_true rfl) (Nat.lt_succ_self _) ⟨Nat.zero_le _, Nat.zero_le _⟩ (KC_V (Con.mono h ?_))
    intro o M4 ⟨e9, hF4, h⟩
    refine ⟨e9, ?_⟩
    refine ex_iconst (pc := 70) (k := 0) (v := nI 0) (by decide +kernel) (by decide) ?_
    refine ex_istore_n (pc := 71) (k := 1) (lo2 := [some (.ref 78), some (.int (nI 0)), some (.int l2), none]) (by decide +kernel) (by decide) rfl ?_
    refine ex_goto (pc := 72) (off := -58) (tgt := 14) (by decide +kernel) (by decide) ?_
    exact h
theorem k_MM_eRead_99 {d bc bs : Nat} {l1 : Int32} {l2 : Int32} {M : Mem} {Φ : Option Value → Mem → Prop} (hF : Fm M) (h : (¬ (mi M 78 42) = (nI 45) → (¬ (mi M 78 42) = (nI 40) → Φ (some (.int (b2i false))) M) ∧ ((mi M 78 42) = (nI 40) → Con d m_MM_opensOne 0 0 [.ref 78, .int (nI 0)] M (PB fun r1 M1 => Fm M1 ∧ (r1 = true → Ex (d + 1) m_MM_eRead bc bs 14 [some (.ref 78), some (.int l1), some (.int (nI 1)), none] [] M1 Φ) ∧ (r1 = false → Φ (some (.int (b2i false))) M1)))) ∧ ((mi M 78 42) = (nI 45) → Con d m_MM_opensOne 0 0 [.ref 78, .int (nI 19)] M (PB fun r2 M2 => Fm M2 ∧ (r2 = true → Ex (d + 1) m_MM_eRead bc bs 14 [some (.ref 78), some (.int l1), some (.int (nI 0)), none] [] M2 Φ) ∧ (r2 = false → Φ (some (.int (b2i false))) M2)))) : Ex (d + 1) m_MM_eRead bc bs 99 [some (.ref 78), some (.int l1), some (.int l2), none] [] M Φ := by
  refine ex_aload_n (pc := 99) (k := 0) (by decide +kernel) rfl ?_
  refine ey_getI (pc := 100) (v := mi M 78 42) (by decide +kernel) lf_MM_182 (hF.s (j := 78) rfl) rfl ?_
  refine ex_bipush (pc := 103) (k := 45) (v := nI 45) (by decide +kernel) (by decide) ?_
  refine ex_icmp_ne (pc := 105) (off := 19) (tgt := 124) (by decide +kernel) (by decide) (fun hc => ?_) (fun hc => ?_)
  · replace h := h.1 hc
    refine ex_aload_n (pc := 124) (k := 0) (by decide +kernel) rfl ?_
    refine ey_getI (pc := 125) (v := mi M 78 42) (by decide +kernel) lf_MM_182 (hF.s (j := 78) rfl) rfl ?_
    refine ex_bipush (pc := 128) (k := 40) (v := nI 40) (by decide +kernel) (by decide) ?_
    refine ex_icmp_ne (pc := 130) (off := 18) (tgt := 148) (by decide +kernel) (by decide) (fun hc => ?_) (fun hc => ?_)
    · replace h := h.1 hc
      refine ex_iconst (pc := 148) (k := 0) (v := nI 0) (by decide +kernel) (by decide) ?_
      exact ex_ireturn (pc := 149) (v := b2i false) (by decide +kernel) rfl (b2i_n _) h
    · replace h := h.2 hc
      refine ex_aload_n (pc := 133) (k := 0) (by decide +kernel) rfl ?_
      refine ex_iconst (pc := 134) (k := 0) (v := nI 0) (by decide +kernel) (by decide) ?_
      refine ex_callV (pc := 135) (as := [.int (nI 0)]) (by decide +kernel) F_MM_opensOne (in_t6 (i := 82) rfl rfl) (hF.s (j := 78) rfl) rfl (by decide) rfl rfl (Nat.le_of_ble_eq_true rfl) (Nat.lt_succ_self _) ⟨Nat.zero_le _, Nat.zero_le _⟩ (KC_B (Con.mono h ?_))
      intro o M1 ⟨r1, e9, hF1, h⟩
      refine ⟨r1, e9, ?_⟩
      refine ey_ifneB (pc := 138) (off := 5) (tgt := 143) (by decide +kernel) (by decide) (fun hc => ?_) (fun hc => ?_)
      · replace h := h.1 hc
        refine ex_iconst (pc := 143) (k := 1) (v := nI 1) (by decide +kernel) (by decide) ?_
        refine ex_istore_n (pc := 144) (k := 2) (lo2 := [some (.ref 78), some (.int l1), some (.int (nI 1)), none]) (by decide +kernel) (by decide) rfl ?_
        refine ex_goto (pc := 145) (off := -131) (tgt := 14) (by decide +kernel) (by decide) ?_
        exact h
      · replace h := h.2 hc
        refine ex_iconst (pc := 141) (k := 0) (v := nI 0) (by decide +kernel) (by decide) ?_
        exact ex_ireturn (pc := 142) (v := b2i false) (by decide +kernel) rfl (b2i_n _) h
  · replace h := h.2 hc
    refine ex_aload_n (pc := 108) (k := 0) (by decide +kernel) rfl ?_
    refine ex_bipush (pc := 109) (k := 19) (v := nI 19) (by decide +kernel) (by decide) ?_
    refine ex_callV (pc := 111) (as := [.int (nI 19)]) (by decide +kernel) F_MM_opensOne (in_t6 (i := 82) rfl rfl) (hF.s (j := 78) rfl) rfl (by decide) rfl rfl (Nat.le_of_ble_eq_true rfl) (Nat.lt_succ_self _) ⟨Nat.zero_le _, Nat.zero_le _⟩ (KC_B (Con.mono h ?_))
    intro o M2 ⟨r2, e9, hF2, h⟩
    refine ⟨r2, e9, ?_⟩
    refine ey_ifneB (pc := 114) (off := 5) (tgt := 119) (by decide +kernel) (by decide) (fun hc => ?_) (fun hc => ?_)
    · replace h := h.1 hc
      refine ex_iconst (pc := 119) (k := 0) (v := nI 0) (by decide +kernel) (by decide) ?_
      refine ex_istore_n (pc := 120) (k := 2) (lo2 := [some (.ref 78), some (.int l1), some (.int (nI 0)), none]) (by decide +kernel) (by decide) rfl ?_
      refine ex_goto (pc := 121) (off := -107) (tgt := 14) (by decide +kernel) (by decide) ?_
      exact h
    · replace h := h.2 hc
      refine ex_iconst (pc := 117) (k := 0) (v := nI 0) (by decide +kernel) (by decide) ?_
      exact ex_ireturn (pc := 118) (v := b2i false) (by decide +kernel) rfl (b2i_n _) h
theorem k_MM_text_0 {d bc bs : Nat}  {M : Mem} {Φ : Option Value → Mem → Prop} (hF : Fm M) (h : (¬ (mi M 78 14) = (nI 6) → Ex (d + 1) m_MM_text bc bs 26 [some (.ref 78), some (.int (nI 1)), some (.int (nI 0))] [] (wi (wi M 78 40 (nI 0)) 78 48 (nI 0)) Φ) ∧ ((mi M 78 14) = (nI 6) → Φ (some (.int (-4))) M)) : Ex (d + 1) m_MM_text bc bs 0 [some (.ref 78), none, none] [] M Φ := by
  refine ex_aload_n (pc := 0) (k := 0) (by decide +kernel) rfl ?_
  refine ey_getI (pc := 1) (v := mi M 78 14) (by decide +kernel) lf_MM_44 (hF.s (j := 78) rfl) rfl ?_
  refine ex_bipush (pc := 4) (k := 6) (v := nI 6) (by decide +kernel) (by decide) ?_
  refine ex_icmp_ne (pc := 6) (off := 6) (tgt := 12) (by decide +kernel) (by decide) (fun hc => ?_) (fun hc => ?_)
  · replace h := h.1 hc
    refine ex_aload_n (pc := 12) (k := 0) (by decide +kernel) rfl ?_
    refine ex_iconst (pc := 13) (k := 0) (v := nI 0) (by decide +kernel) (by decide) ?_
    refine ex_putI (pc := 14) (index := 176) (ci := 11) (k := 40) (fin := false) (by decide +kernel) ⟨_, _, _, _, cf_MM, by decide, in_t5 (i := 116) rfl rfl, rfl, (fun h => by cases h), rfl, rfl⟩ rfl (fun h => by cases h) (hF.s (j := 78) rfl) ?_
    refine ex_aload_n (pc := 17) (k := 0) (by decide +kernel) rfl ?_
    refine ex_iconst (pc := 18) (k := 0) (v := nI 0) (by decide +kernel) (by decide) ?_
    refine ex_putI (pc := 19) (index := 192) (ci := 11) (k := 48) (fin := false) (by decide +kernel) ⟨_, _, _, _, cf_MM, by decide, in_t5 (i := 124) rfl rfl, rfl, (fun h => by cases h), rfl, rfl⟩ rfl (fun h => by cases h) (hF.s (j := 78) rfl) ?_
    refine ex_iconst (pc := 22) (k := 1) (v := nI 1) (by decide +kernel) (by decide) ?_
    refine ex_istore_n (pc := 23) (k := 1) (lo2 := [some (.ref 78), some (.int (nI 1)), none]) (by decide +kernel) (by decide) rfl ?_
    refine ex_iconst (pc := 24) (k := 0) (v := nI 0) (by decide +kernel) (by decide) ?_
    refine ex_istore_n (pc := 25) (k := 2) (lo2 := [some (.ref 78), some (.int (nI 1)), some (.int (nI 0))]) (by decide +kernel) (by decide) rfl ?_
    exact h
  · replace h := h.2 hc
    refine ex_bipush (pc := 9) (k := -4) (v := -4) (by decide +kernel) (by decide) ?_
    exact ex_ireturn (pc := 11) (by decide +kernel) rfl rfl h
theorem k_MM_text_26 {d bc bs : Nat} {l1 : Int32} {l2 : Int32} {M : Mem} {Φ : Option Value → Mem → Prop} (hF : Fm M) (h : ((nI 2) ≤ l2 → Ex (d + 1) m_MM_text bc bs 101 [some (.ref 78), some (.int l1), some (.int l2)] [] M Φ) ∧ (¬ (nI 2) ≤ l2 → (l1 = 0 → Ex (d + 1) m_MM_text bc bs 101 [some (.ref 78), some (.int l1), some (.int l2)] [] M Φ) ∧ (¬ l1 = 0 → Con d m_MM_next 0 0 [.ref 78] M (PV fun M1 => Fm M1 ∧ (¬ (mi M1 78 42) = (nI 3) → Ex (d + 1) m_MM_text bc bs 59 [some (.ref 78), some (.int l1), some (.int l2)] [] M1 Φ) ∧ ((mi M1 78 42) = (nI 3) → (¬ (mi M1 78 43) = l2 → Ex (d + 1) m_MM_text bc bs 59 [some (.ref 78), some (.int l1), some (.int l2)] [] M1 Φ) ∧ ((mi M1 78 43) = l2 → vp_in (((nI 4) * (mi M1 78 14)) + l2) 24 ∧ ((nI 1) = 0 → Ex (d + 1) m_MM_text bc bs 26 [some (.ref 78), some (.int (nI 0)), some (.int (l2 + nI 1))] [] (wi M1 88 ((((nI 4) * (mi M1 78 14)) + l2).toNatClampNeg) (mi M1 78 48)) Φ) ∧ (¬ (nI 1) = 0 → Con d m_MM_eRead 0 0 [.ref 78] (wi M1 88 ((((nI 4) * (mi M1 78 14)) + l2).toNatClampNeg) (mi M1 78 48)) (PB fun r1 M2 => Fm M2 ∧ (r1 = false → Ex (d + 1) m_MM_text bc bs 26 [some (.ref 78), some (.int (nI 0)), some (.int (l2 + nI 1))] [] M2 Φ) ∧ (r1 = true → Ex (d + 1) m_MM_text bc bs 26 [some (.ref 78), some (.int (nI 1)), some (.int (l2 + nI 1))] [] M2 Φ))))))))) : Ex (d + 1) m_MM_text bc bs 26 [some (.ref 78), some (.int l1), some (.int l2)] [] M Φ := by
  refine ex_iload_n (pc := 26) (k := 2) (by decide +kernel) rfl ?_
  refine ex_iconst (pc := 27) (k := 2) (v := nI 2) (by decide +kernel) (by decide) ?_
  refine ex_icmp_ge (pc := 28) (off := 73) (tgt := 101) (by decide +kernel) (by decide) (fun hc => ?_) (fun hc => ?_)
  · replace h := h.1 hc
    exact h
  · replace h := h.2 hc
    refine ex_iload_n (pc := 31) (k := 1) (by decide +kernel) rfl ?_
    refine ex_if_eq (pc := 32) (off := 69) (tgt := 101) (by decide +kernel) (by decide) (fun hc => ?_) (fun hc => ?_)
    · replace h := h.1 hc
      exact h
    · replace h := h.2 hc
      refine ex_aload_n (pc := 35) (k := 0) (by decide +kernel) rfl ?_
      refine ex_callV (pc := 36) (as := []) (by decide +kernel) F_MM_next (in_t6 (i := 58) rfl rfl) (hF.s (j := 78) rfl) rfl (by decide) rfl rfl (Nat.le_of_ble_eq_true rfl) (Nat.lt_succ_self _) ⟨Nat.zero_le _, Nat.zero_le _⟩ (KC_V (Con.mono h ?_))
      intro o M1 ⟨e9, hF1, h⟩
      refine ⟨e9, ?_⟩
      refine ex_aload_n (pc := 39) (k := 0) (by decide +kernel) rfl ?_
      refine ey_getI (pc := 40) (v := mi M1 78 42) (by decide +kernel) lf_MM_182 (hF1.s (j := 78) rfl) rfl ?_
      refine ex_iconst (pc := 43) (k := 3) (v := nI 3) (by decide +kernel) (by decide) ?_
      refine ex_icmp_ne (pc := 44) (off := 15) (tgt := 59) (by decide +kernel) (by decide) (fun hc => ?_) (fun hc => ?_)
      · replace h := h.1 hc
        exact h
      · replace h := h.2 hc
        refine ex_aload_n (pc := 47) (k := 0) (by decide +kernel) rfl ?_
        refine ey_getI (pc := 48) (v := mi M1 78 43) (by decide +kernel) lf_MM_185 (hF1.s (j := 78) rfl) rfl ?_
        refine ex_iload_n (pc := 51) (k := 2) (by decide +kernel) rfl ?_
        refine ex_icmp_ne (pc := 52) (off := 7) (tgt := 59) (by decide +kernel) (by decide) (fun hc => ?_) (fun hc => ?_)
        · replace h := h.1 hc
          exact h
        · replace h := h.2 hc
          refine ex_iconst (pc := 55) (k := 1) (v := nI 1) (by decide +kernel) (by decide) ?_
          refine ex_goto (pc := 56) (off := 4) (tgt := 60) (by decide +kernel) (by decide) ?_
          refine ex_istore_n (pc := 60) (k := 1) (lo2 := [some (.ref 78), some (.int (nI 1)), some (.int l2)]) (by decide +kernel) (by decide) rfl ?_
          refine ex_aload_n (pc := 61) (k := 0) (by decide +kernel) rfl ?_
          refine ex_getR (pc := 62) (a := 88) (by decide +kernel) lf_MM_41 (hF1.s (j := 78) rfl) (hF1.r (j := 78) (k := 13) rfl rfl) ?_
          refine ex_iconst (pc := 65) (k := 4) (v := nI 4) (by decide +kernel) (by decide) ?_
          refine ex_aload_n (pc := 66) (k := 0) (by decide +kernel) rfl ?_
          refine ey_getI (pc := 67) (v := mi M1 78 14) (by decide +kernel) lf_MM_44 (hF1.s (j := 78) rfl) rfl ?_
          refine ex_imul (pc := 70) (by decide +kernel) ?_
          refine ex_iload_n (pc := 71) (k := 2) (by decide +kernel) rfl ?_
          refine ex_iadd (pc := 72) (by decide +kernel) ?_
          refine ex_aload_n (pc := 73) (k := 0) (by decide +kernel) rfl ?_
          refine ey_getI (pc := 74) (v := mi M1 78 48) (by decide +kernel) lf_MM_192 (hF1.s (j := 78) rfl) rfl ?_
          obtain ⟨g1, h⟩ := h
          refine ey_iast (pc := 77) (by decide +kernel) (hF1.s (j := 88) rfl) g1 rfl ?_
          refine ex_iload_n (pc := 78) (k := 1) (by decide +kernel) rfl ?_
          refine ex_if_eq (pc := 79) (off := 14) (tgt := 93) (by decide +kernel) (by decide) (fun hc => ?_) (fun hc => ?_)
          · replace h := h.1 hc
            refine ex_iconst (pc := 93) (k := 0) (v := nI 0) (by decide +kernel) (by decide) ?_
            refine ex_istore_n (pc := 94) (k := 1) (lo2 := [some (.ref 78), some (.int (nI 0)), some (.int l2)]) (by decide +kernel) (by decide) rfl ?_
            refine ex_iinc (pc := 95) (i := 2) (k := 1) (v := l2 + nI 1) (lo2 := [some (.ref 78), some (.int (nI 0)), some (.int (l2 + nI 1))]) (by decide +kernel) (by decide) rfl rfl rfl ?_
            refine ex_goto (pc := 98) (off := -72) (tgt := 26) (by decide +kernel) (by decide) ?_
            exact h
          · replace h := h.2 hc
            refine ex_aload_n (pc := 82) (k := 0) (by decide +kernel) rfl ?_
            refine ex_callV (pc := 83) (as := []) (by decide +kernel) F_MM_eRead (in_t6 (i := 66) rfl rfl) (hF1.s (j := 78) rfl) rfl (by decide) rfl rfl (Nat.le_of_ble_eq_true rfl) (Nat.lt_succ_self _) ⟨Nat.zero_le _, Nat.zero_le _⟩ (KC_B (Con.mono h ?_))
            intro o M2 ⟨r1, e9, hF2, h⟩
            refine ⟨r1, e9, ?_⟩
            refine ey_ifeqB (pc := 86) (off := 7) (tgt := 93) (by decide +kernel) (by decide) (fun hc => ?_) (fun hc => ?_)
            · replace h := h.1 hc
              refine ex_iconst (pc := 93) (k := 0) (v := nI 0) (by decide +kernel) (by decide) ?_
              refine ex_istore_n (pc := 94) (k := 1) (lo2 := [some (.ref 78), some (.int (nI 0)), some (.int l2)]) (by decide +kernel) (by decide) rfl ?_
              refine ex_iinc (pc := 95) (i := 2) (k := 1) (v := l2 + nI 1) (lo2 := [some (.ref 78), some (.int (nI 0)), some (.int (l2 + nI 1))]) (by decide +kernel) (by decide) rfl rfl rfl ?_
              refine ex_goto (pc := 98) (off := -72) (tgt := 26) (by decide +kernel) (by decide) ?_
              exact h
            · replace h := h.2 hc
              refine ex_iconst (pc := 89) (k := 1) (v := nI 1) (by decide +kernel) (by decide) ?_
              refine ex_goto (pc := 90) (off := 4) (tgt := 94) (by decide +kernel) (by decide) ?_
              refine ex_istore_n (pc := 94) (k := 1) (lo2 := [some (.ref 78), some (.int (nI 1)), some (.int l2)]) (by decide +kernel) (by decide) rfl ?_
              refine ex_iinc (pc := 95) (i := 2) (k := 1) (v := l2 + nI 1) (lo2 := [some (.ref 78), some (.int (nI 1)), some (.int (l2 + nI 1))]) (by decide +kernel) (by decide) rfl rfl rfl ?_
              refine ex_goto (pc := 98) (off := -72) (tgt := 26) (by decide +kernel) (by decide) ?_
              exact h
