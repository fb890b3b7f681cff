/-! printed blocks: MarketDays -/
theorem k_MD_town_0 {d bc bs : Nat} {l1 : Int32} {M : Mem} {Φ : Option Value → Mem → Prop} (hF : Fx M) (h : (l1 < 0 → Φ (some (.int (-2))) M) ∧ (¬ l1 < 0 → (l1 ≤ (nI 99) → Con d m_Land_settle 0 0 [.ref 1, .int l1] M (PB fun r1 M1 => Fx M1 ∧ (r1 = false → Φ (some (.int (-4))) M1) ∧ (r1 = true → Φ (some (.int ((mi M1 1 8) - (nI 1)))) M1))) ∧ (¬ l1 ≤ (nI 99) → Φ (some (.int (-2))) M))) : Ex (d + 1) m_MD_town bc bs 0 [some (.ref 0), some (.int l1)] [] M Φ := by
  refine ex_iload_n (pc := 0) (k := 1) (by decide +kernel) rfl ?_
  refine ex_if_lt (pc := 1) (off := 9) (tgt := 10) (by decide +kernel) (by decide) (fun hc => ?_) (fun hc => ?_)
  · replace h := h.1 hc
    refine ex_bipush (pc := 10) (k := -2) (v := -2) (by decide +kernel) (by decide) ?_
    exact ex_ireturn (pc := 12) (by decide +kernel) rfl rfl h
  · replace h := h.2 hc
    refine ex_iload_n (pc := 4) (k := 1) (by decide +kernel) rfl ?_
    refine ex_bipush (pc := 5) (k := 99) (v := nI 99) (by decide +kernel) (by decide) ?_
    refine ex_icmp_le (pc := 7) (off := 6) (tgt := 13) (by decide +kernel) (by decide) (fun hc => ?_) (fun hc => ?_)
    · replace h := h.1 hc
      refine ex_aload_n (pc := 13) (k := 0) (by decide +kernel) rfl ?_
      refine ex_getR (pc := 14) (a := 1) (by decide +kernel) lf_MD_10 (hF.s (j := 0) rfl) (hF.r (j := 0) (k := 0) rfl rfl) ?_
      refine ex_iload_n (pc := 17) (k := 1) (by decide +kernel) rfl ?_
      refine ex_callV (pc := 18) (as := [.int l1]) (by decide +kernel) F_Land_settle (in_t3 (i := 34) rfl rfl) (hF.s (j := 1) rfl) rfl (by decide) rfl rfl (Nat.le_of_ble_eq_true rfl) (Nat.lt_succ_self _) ⟨Nat.zero_le _, Nat.zero_le _⟩ (KC_B (Con.mono h ?_))
      intro o M1 ⟨r1, e9, hF1, h⟩
      refine ⟨r1, e9, ?_⟩
      refine ey_ifeqB (pc := 21) (off := 15) (tgt := 36) (by decide +kernel) (by decide) (fun hc => ?_) (fun hc => ?_)
      · replace h := h.1 hc
        refine ex_bipush (pc := 36) (k := -4) (v := -4) (by decide +kernel) (by decide) ?_
        exact ex_ireturn (pc := 38) (by decide +kernel) rfl rfl h
      · replace h := h.2 hc
        refine ex_aload_n (pc := 24) (k := 0) (by decide +kernel) rfl ?_
        refine ex_getR (pc := 25) (a := 1) (by decide +kernel) lf_MD_10 (hF1.s (j := 0) rfl) (hF1.r (j := 0) (k := 0) rfl rfl) ?_
        refine ey_getI (pc := 28) (v := mi M1 1 8) (by decide +kernel) lf_MD_109 (hF1.s (j := 1) rfl) rfl ?_
        refine ex_iconst (pc := 31) (k := 1) (v := nI 1) (by decide +kernel) (by decide) ?_
        refine ex_isub (pc := 32) (by decide +kernel) ?_
        refine ex_goto (pc := 33) (off := 5) (tgt := 38) (by decide +kernel) (by decide) ?_
        exact ex_ireturn (pc := 38) (by decide +kernel) rfl rfl h
    · replace h := h.2 hc
      refine ex_bipush (pc := 10) (k := -2) (v := -2) (by decide +kernel) (by decide) ?_
      exact ex_ireturn (pc := 12) (by decide +kernel) rfl rfl h
theorem k_MD_road_0 {d bc bs : Nat} {l1 : Int32} {l2 : Int32} {l3 : Int32} {M : Mem} {Φ : Option Value → Mem → Prop} (hF : Fx M) (h : Con d m_Land_hasTown 0 0 [.ref 1, .int l1] M (PB fun r1 M1 => Fx M1 ∧ (r1 = false → Φ (some (.int (-1))) M1) ∧ (r1 = true → Con d m_Land_hasTown 0 0 [.ref 1, .int l2] M1 (PB fun r2 M2 => Fx M2 ∧ (r2 = true → (l1 = l2 → Φ (some (.int (-2))) M2) ∧ (¬ l1 = l2 → (l3 < 0 → Φ (some (.int (-2))) M2) ∧ (¬ l3 < 0 → (l3 ≤ (nI 50) → Con d m_Land_lay 0 0 [.ref 1, .int l1, .int l2, .int l3] M2 (PI fun r3 M3 => Fx M3 ∧ Φ (some (.int r3)) M3)) ∧ (¬ l3 ≤ (nI 50) → Φ (some (.int (-2))) M2)))) ∧ (r2 = false → Φ (some (.int (-1))) M2))))) : Ex (d + 1) m_MD_road bc bs 0 [some (.ref 0), some (.int l1), some (.int l2), some (.int l3)] [] M Φ := by
  refine ex_aload_n (pc := 0) (k := 0) (by decide +kernel) rfl ?_
  refine ex_getR (pc := 1) (a := 1) (by decide +kernel) lf_MD_10 (hF.s (j := 0) rfl) (hF.r (j := 0) (k := 0) rfl rfl) ?_
  refine ex_iload_n (pc := 4) (k := 1) (by decide +kernel) rfl ?_
  refine ex_callV (pc := 5) (as := [.int l1]) (by decide +kernel) F_Land_hasTown (in_t3 (i := 47) rfl rfl) (hF.s (j := 1) rfl) rfl (by decide) rfl rfl (Nat.le_of_ble_eq_true rfl) (Nat.lt_succ_self _) ⟨Nat.zero_le _, Nat.zero_le _⟩ (KC_B (Con.mono h ?_))
  intro o M1 ⟨r1, e9, hF1, h⟩
  refine ⟨r1, e9, ?_⟩
  refine ey_ifeqB (pc := 8) (off := 14) (tgt := 22) (by decide +kernel) (by decide) (fun hc => ?_) (fun hc => ?_)
  · replace h := h.1 hc
    refine ex_iconst (pc := 22) (k := -1) (v := -1) (by decide +kernel) (by decide) ?_
    exact ex_ireturn (pc := 23) (by decide +kernel) rfl rfl h
  · replace h := h.2 hc
    refine ex_aload_n (pc := 11) (k := 0) (by decide +kernel) rfl ?_
    refine ex_getR (pc := 12) (a := 1) (by decide +kernel) lf_MD_10 (hF1.s (j := 0) rfl) (hF1.r (j := 0) (k := 0) rfl rfl) ?_
    refine ex_iload_n (pc := 15) (k := 2) (by decide +kernel) rfl ?_
    refine ex_callV (pc := 16) (as := [.int l2]) (by decide +kernel) F_Land_hasTown (in_t3 (i := 47) rfl rfl) (hF1.s (j := 1) rfl) rfl (by decide) rfl rfl (Nat.le_of_ble_eq_true rfl) (Nat.lt_succ_self _) ⟨Nat.zero_le _, Nat.zero_le _⟩ (KC_B (Con.mono h ?_))
    intro o M2 ⟨r2, e9, hF2, h⟩
    refine ⟨r2, e9, ?_⟩
    refine ey_ifneB (pc := 19) (off := 5) (tgt := 24) (by decide +kernel) (by decide) (fun hc => ?_) (fun hc => ?_)
    · replace h := h.1 hc
      refine ex_iload_n (pc := 24) (k := 1) (by decide +kernel) rfl ?_
      refine ex_iload_n (pc := 25) (k := 2) (by decide +kernel) rfl ?_
      refine ex_icmp_eq (pc := 26) (off := 13) (tgt := 39) (by decide +kernel) (by decide) (fun hc => ?_) (fun hc => ?_)
      · replace h := h.1 hc
        refine ex_bipush (pc := 39) (k := -2) (v := -2) (by decide +kernel) (by decide) ?_
        exact ex_ireturn (pc := 41) (by decide +kernel) rfl rfl h
      · replace h := h.2 hc
        refine ex_iload_n (pc := 29) (k := 3) (by decide +kernel) rfl ?_
        refine ex_if_lt (pc := 30) (off := 9) (tgt := 39) (by decide +kernel) (by decide) (fun hc => ?_) (fun hc => ?_)
        · replace h := h.1 hc
          refine ex_bipush (pc := 39) (k := -2) (v := -2) (by decide +kernel) (by decide) ?_
          exact ex_ireturn (pc := 41) (by decide +kernel) rfl rfl h
        · replace h := h.2 hc
          refine ex_iload_n (pc := 33) (k := 3) (by decide +kernel) rfl ?_
          refine ex_bipush (pc := 34) (k := 50) (v := nI 50) (by decide +kernel) (by decide) ?_
          refine ex_icmp_le (pc := 36) (off := 6) (tgt := 42) (by decide +kernel) (by decide) (fun hc => ?_) (fun hc => ?_)
          · replace h := h.1 hc
            refine ex_aload_n (pc := 42) (k := 0) (by decide +kernel) rfl ?_
            refine ex_getR (pc := 43) (a := 1) (by decide +kernel) lf_MD_10 (hF2.s (j := 0) rfl) (hF2.r (j := 0) (k := 0) rfl rfl) ?_
            refine ex_iload_n (pc := 46) (k := 1) (by decide +kernel) rfl ?_
            refine ex_iload_n (pc := 47) (k := 2) (by decide +kernel) rfl ?_
            refine ex_iload_n (pc := 48) (k := 3) (by decide +kernel) rfl ?_
            refine ex_callV (pc := 49) (as := [.int l1, .int l2, .int l3]) (by decide +kernel) F_Land_lay (in_t3 (i := 51) rfl rfl) (hF2.s (j := 1) rfl) rfl (by decide) rfl rfl (Nat.le_of_ble_eq_true rfl) (Nat.lt_succ_self _) ⟨Nat.zero_le _, Nat.zero_le _⟩ (KC_I (Con.mono h ?_))
            intro o M3 ⟨r3, e9, hF3, h⟩
            refine ⟨r3, e9, ?_⟩
            exact ex_ireturn (pc := 52) (by decide +kernel) rfl rfl h
          · replace h := h.2 hc
            refine ex_bipush (pc := 39) (k := -2) (v := -2) (by decide +kernel) (by decide) ?_
            exact ex_ireturn (pc := 41) (by decide +kernel) rfl rfl h
    · replace h := h.2 hc
      refine ex_iconst (pc := 22) (k := -1) (v := -1) (by decide +kernel) (by decide) ?_
      exact ex_ireturn (pc := 23) (by decide +kernel) rfl rfl h
theorem k_MD_hours_0 {d bc bs : Nat} {l1 : Int32} {l2 : Int32} {M : Mem} {Φ : Option Value → Mem → Prop} (hF : Fx M) (h : Con d m_Land_hasTown 0 0 [.ref 1, .int l1] M (PB fun r1 M1 => Fx M1 ∧ (r1 = false → Φ (some (.int (-1))) M1) ∧ (r1 = true → Con d m_Land_hasTown 0 0 [.ref 1, .int l2] M1 (PB fun r2 M2 => Fx M2 ∧ (r2 = false → Φ (some (.int (-1))) M2) ∧ (r2 = true → Con d m_Land_hoursBetween 0 0 [.ref 1, .int l1, .int l2] M2 (PI fun r3 M3 => Fx M3 ∧ Φ (some (.int r3)) M3)))))) : Ex (d + 1) m_MD_hours bc bs 0 [some (.ref 0), some (.int l1), some (.int l2)] [] M Φ := by
  refine ex_aload_n (pc := 0) (k := 0) (by decide +kernel) rfl ?_
  refine ex_getR (pc := 1) (a := 1) (by decide +kernel) lf_MD_10 (hF.s (j := 0) rfl) (hF.r (j := 0) (k := 0) rfl rfl) ?_
  refine ex_iload_n (pc := 4) (k := 1) (by decide +kernel) rfl ?_
  refine ex_callV (pc := 5) (as := [.int l1]) (by decide +kernel) F_Land_hasTown (in_t3 (i := 47) rfl rfl) (hF.s (j := 1) rfl) rfl (by decide) rfl rfl (Nat.le_of_ble_eq_true rfl) (Nat.lt_succ_self _) ⟨Nat.zero_le _, Nat.zero_le _⟩ (KC_B (Con.mono h ?_))
  intro o M1 ⟨r1, e9, hF1, h⟩
  refine ⟨r1, e9, ?_⟩
  refine ey_ifeqB (pc := 8) (off := 26) (tgt := 34) (by decide +kernel) (by decide) (fun hc => ?_) (fun hc => ?_)
  · replace h := h.1 hc
    refine ex_iconst (pc := 34) (k := -1) (v := -1) (by decide +kernel) (by decide) ?_
    exact ex_ireturn (pc := 35) (by decide +kernel) rfl rfl h
  · replace h := h.2 hc
    refine ex_aload_n (pc := 11) (k := 0) (by decide +kernel) rfl ?_
    refine ex_getR (pc := 12) (a := 1) (by decide +kernel) lf_MD_10 (hF1.s (j := 0) rfl) (hF1.r (j := 0) (k := 0) rfl rfl) ?_
    refine ex_iload_n (pc := 15) (k := 2) (by decide +kernel) rfl ?_
    refine ex_callV (pc := 16) (as := [.int l2]) (by decide +kernel) F_Land_hasTown (in_t3 (i := 47) rfl rfl) (hF1.s (j := 1) rfl) rfl (by decide) rfl rfl (Nat.le_of_ble_eq_true rfl) (Nat.lt_succ_self _) ⟨Nat.zero_le _, Nat.zero_le _⟩ (KC_B (Con.mono h ?_))
    intro o M2 ⟨r2, e9, hF2, h⟩
    refine ⟨r2, e9, ?_⟩
    refine ey_ifeqB (pc := 19) (off := 15) (tgt := 34) (by decide +kernel) (by decide) (fun hc => ?_) (fun hc => ?_)
    · replace h := h.1 hc
      refine ex_iconst (pc := 34) (k := -1) (v := -1) (by decide +kernel) (by decide) ?_
      exact ex_ireturn (pc := 35) (by decide +kernel) rfl rfl h
    · replace h := h.2 hc
      refine ex_aload_n (pc := 22) (k := 0) (by decide +kernel) rfl ?_
      refine ex_getR (pc := 23) (a := 1) (by decide +kernel) lf_MD_10 (hF2.s (j := 0) rfl) (hF2.r (j := 0) (k := 0) rfl rfl) ?_
      refine ex_iload_n (pc := 26) (k := 1) (by decide +kernel) rfl ?_
      refine ex_iload_n (pc := 27) (k := 2) (by decide +kernel) rfl ?_
      refine ex_callV (pc := 28) (as := [.int l1, .int l2]) (by decide +kernel) F_Land_hoursBetween (in_t3 (i := 59) rfl rfl) (hF2.s (j := 1) rfl) rfl (by decide) rfl rfl (Nat.le_of_ble_eq_true rfl) (Nat.lt_succ_self _) ⟨Nat.zero_le _, Nat.zero_le _⟩ (KC_I (Con.mono h ?_))
      intro o M3 ⟨r3, e9, hF3, h⟩
      refine ⟨r3, e9, ?_⟩
      refine ex_goto (pc := 31) (off := 4) (tgt := 35) (by decide +kernel) (by decide) ?_
      exact ex_ireturn (pc := 35) (by decide +kernel) rfl rfl h
theorem k_MD_week_0 {d bc bs : Nat} {l1 : Int32} {M : Mem} {Φ : Option Value → Mem → Prop} (hF : Fx M) (h : (l1 < (nI 2) → Φ (some (.int (-2))) M) ∧ (¬ l1 < (nI 2) → (l1 ≤ (nI 7) → Φ (some (.int (mi M 1 9))) (wi M 1 9 l1)) ∧ (¬ l1 ≤ (nI 7) → Φ (some (.int (-2))) M))) : Ex (d + 1) m_MD_week bc bs 0 [some (.ref 0), some (.int l1), none] [] M Φ := by
  refine ex_iload_n (pc := 0) (k := 1) (by decide +kernel) rfl ?_
  refine ex_iconst (pc := 1) (k := 2) (v := nI 2) (by decide +kernel) (by decide) ?_
  refine ex_icmp_lt (pc := 2) (off := 9) (tgt := 11) (by decide +kernel) (by decide) (fun hc => ?_) (fun hc => ?_)
  · replace h := h.1 hc
    refine ex_bipush (pc := 11) (k := -2) (v := -2) (by decide +kernel) (by decide) ?_
    exact ex_ireturn (pc := 13) (by decide +kernel) rfl rfl h
  · replace h := h.2 hc
    refine ex_iload_n (pc := 5) (k := 1) (by decide +kernel) rfl ?_
    refine ex_bipush (pc := 6) (k := 7) (v := nI 7) (by decide +kernel) (by decide) ?_
    refine ex_icmp_le (pc := 8) (off := 6) (tgt := 14) (by decide +kernel) (by decide) (fun hc => ?_) (fun hc => ?_)
    · replace h := h.1 hc
      refine ex_aload_n (pc := 14) (k := 0) (by decide +kernel) rfl ?_
      refine ex_getR (pc := 15) (a := 1) (by decide +kernel) lf_MD_10 (hF.s (j := 0) rfl) (hF.r (j := 0) (k := 0) rfl rfl) ?_
      refine ey_getI (pc := 18) (v := mi M 1 9) (by decide +kernel) lf_MD_123 (hF.s (j := 1) rfl) rfl ?_
      refine ex_istore_n (pc := 21) (k := 2) (lo2 := [some (.ref 0), some (.int l1), some (.int (mi M 1 9))]) (by decide +kernel) (by decide) rfl ?_
      refine ex_aload_n (pc := 22) (k := 0) (by decide +kernel) rfl ?_
      refine ex_getR (pc := 23) (a := 1) (by decide +kernel) lf_MD_10 (hF.s (j := 0) rfl) (hF.r (j := 0) (k := 0) rfl rfl) ?_
      refine ex_iload_n (pc := 26) (k := 1) (by decide +kernel) rfl ?_
      refine ex_putI (pc := 27) (index := 123) (ci := 4) (k := 9) (fin := false) (by decide +kernel) ⟨_, _, _, _, cf_Land, by decide, in_t1 (i := 65) rfl rfl, rfl, (fun h => by cases h), rfl, rfl⟩ rfl (fun h => by cases h) (hF.s (j := 1) rfl) ?_
      refine ex_iload_n (pc := 30) (k := 2) (by decide +kernel) rfl ?_
      exact ex_ireturn (pc := 31) (by decide +kernel) rfl rfl h
    · replace h := h.2 hc
      refine ex_bipush (pc := 11) (k := -2) (v := -2) (by decide +kernel) (by decide) ?_
      exact ex_ireturn (pc := 13) (by decide +kernel) rfl rfl h
theorem k_MD_want_0 {d bc bs : Nat} {l1 : Int32} {l2 : Int32} {l3 : Int32} {M : Mem} {Φ : Option Value → Mem → Prop} (hF : Fx M) (h : Con d m_Land_hasTown 0 0 [.ref 1, .int l1] M (PB fun r1 M1 => Fx M1 ∧ (r1 = true → Con d m_MD_mayWant 0 0 [.ref 0, .int l1, .int l2, .int l3] M1 (PB fun r2 M2 => Fx M2 ∧ (r2 = true → (¬ l2 = 0 → (¬ l2 = (nI 1) → vp_in l1 6 ∧ vp_in l1 6 ∧ Φ (some (.int (mi M2 5 l1.toNatClampNeg))) (wi M2 5 l1.toNatClampNeg l3)) ∧ (l2 = (nI 1) → vp_in l1 6 ∧ vp_in l1 6 ∧ Φ (some (.int (mi M2 4 l1.toNatClampNeg))) (wi M2 4 l1.toNatClampNeg l3))) ∧ (l2 = 0 → vp_in l1 6 ∧ vp_in l1 6 ∧ Φ (some (.int (mi M2 3 l1.toNatClampNeg))) (wi M2 3 l1.toNatClampNeg l3))) ∧ (r2 = false → Φ (some (.int (-7))) M2))) ∧ (r1 = false → Φ (some (.int (-5))) M1))) : Ex (d + 1) m_MD_want bc bs 0 [some (.ref 0), some (.int l1), some (.int l2), some (.int l3), none, none] [] M Φ := by
  refine ex_aload_n (pc := 0) (k := 0) (by decide +kernel) rfl ?_
  refine ex_getR (pc := 1) (a := 1) (by decide +kernel) lf_MD_10 (hF.s (j := 0) rfl) (hF.r (j := 0) (k := 0) rfl rfl) ?_
  refine ex_iload_n (pc := 4) (k := 1) (by decide +kernel) rfl ?_
  refine ex_callV (pc := 5) (as := [.int l1]) (by decide +kernel) F_Land_hasTown (in_t3 (i := 47) rfl rfl) (hF.s (j := 1) rfl) rfl (by decide) rfl rfl (Nat.le_of_ble_eq_true rfl) (Nat.lt_succ_self _) ⟨Nat.zero_le _, Nat.zero_le _⟩ (KC_B (Con.mono h ?_))
  intro o M1 ⟨r1, e9, hF1, h⟩
  refine ⟨r1, e9, ?_⟩
  refine ey_ifneB (pc := 8) (off := 6) (tgt := 14) (by decide +kernel) (by decide) (fun hc => ?_) (fun hc => ?_)
  · replace h := h.1 hc
    refine ex_aload_n (pc := 14) (k := 0) (by decide +kernel) rfl ?_
    refine ex_iload_n (pc := 15) (k := 1) (by decide +kernel) rfl ?_
    refine ex_iload_n (pc := 16) (k := 2) (by decide +kernel) rfl ?_
    refine ex_iload_n (pc := 17) (k := 3) (by decide +kernel) rfl ?_
    refine ex_callV (pc := 18) (as := [.int l1, .int l2, .int l3]) (by decide +kernel) F_MD_mayWant (in_t3 (i := 71) rfl rfl) (hF1.s (j := 0) rfl) rfl (by decide) rfl rfl (Nat.le_of_ble_eq_true rfl) (Nat.lt_succ_self _) ⟨Nat.zero_le _, Nat.zero_le _⟩ (KC_B (Con.mono h ?_))
    intro o M2 ⟨r2, e9, hF2, h⟩
    refine ⟨r2, e9, ?_⟩
    refine ey_ifneB (pc := 21) (off := 6) (tgt := 27) (by decide +kernel) (by decide) (fun hc => ?_) (fun hc => ?_)
    · replace h := h.1 hc
      refine ex_iload_n (pc := 27) (k := 2) (by decide +kernel) rfl ?_
      refine ex_if_ne (pc := 28) (off := 13) (tgt := 41) (by decide +kernel) (by decide) (fun hc => ?_) (fun hc => ?_)
      · replace h := h.1 hc
        refine ex_iload_n (pc := 41) (k := 2) (by decide +kernel) rfl ?_
        refine ex_iconst (pc := 42) (k := 1) (v := nI 1) (by decide +kernel) (by decide) ?_
        refine ex_icmp_ne (pc := 43) (off := 13) (tgt := 56) (by decide +kernel) (by decide) (fun hc => ?_) (fun hc => ?_)
        · replace h := h.1 hc
          refine ex_aload_n (pc := 56) (k := 0) (by decide +kernel) rfl ?_
          refine ex_getR (pc := 57) (a := 1) (by decide +kernel) lf_MD_10 (hF2.s (j := 0) rfl) (hF2.r (j := 0) (k := 0) rfl rfl) ?_
          refine ex_getR (pc := 60) (a := 5) (by decide +kernel) lf_MD_137 (hF2.s (j := 1) rfl) (hF2.r (j := 1) (k := 3) rfl rfl) ?_
          refine ex_astore (pc := 63) (k := 4) (lo2 := [some (.ref 0), some (.int l1), some (.int l2), some (.int l3), some (.ref 5), none]) (by decide +kernel) (by decide) rfl ?_
          refine ex_aload (pc := 65) (k := 4) (by decide +kernel) rfl ?_
          refine ex_iload_n (pc := 67) (k := 1) (by decide +kernel) rfl ?_
          obtain ⟨g1, h⟩ := h
          refine ey_iald (pc := 68) (v := mi M2 5 l1.toNatClampNeg) (by decide +kernel) (hF2.s (j := 5) rfl) g1 rfl rfl ?_
          refine ex_istore (pc := 69) (k := 5) (lo2 := [some (.ref 0), some (.int l1), some (.int l2), some (.int l3), some (.ref 5), some (.int (mi M2 5 l1.toNatClampNeg))]) (by decide +kernel) (by decide) rfl ?_
          refine ex_aload (pc := 71) (k := 4) (by decide +kernel) rfl ?_
          refine ex_iload_n (pc := 73) (k := 1) (by decide +kernel) rfl ?_
          refine ex_iload_n (pc := 74) (k := 3) (by decide +kernel) rfl ?_
          obtain ⟨g2, h⟩ := h
          refine ey_iast (pc := 75) (by decide +kernel) (hF2.s (j := 5) rfl) g2 rfl ?_
          refine ex_iload (pc := 76) (k := 5) (by decide +kernel) rfl ?_
          exact ex_ireturn (pc := 78) (by decide +kernel) rfl rfl h
        · replace h := h.2 hc
          refine ex_aload_n (pc := 46) (k := 0) (by decide +kernel) rfl ?_
          refine ex_getR (pc := 47) (a := 1) (by decide +kernel) lf_MD_10 (hF2.s (j := 0) rfl) (hF2.r (j := 0) (k := 0) rfl rfl) ?_
          refine ex_getR (pc := 50) (a := 4) (by decide +kernel) lf_MD_134 (hF2.s (j := 1) rfl) (hF2.r (j := 1) (k := 2) rfl rfl) ?_
          refine ex_goto (pc := 53) (off := 10) (tgt := 63) (by decide +kernel) (by decide) ?_
          refine ex_astore (pc := 63) (k := 4) (lo2 := [some (.ref 0), some (.int l1), some (.int l2), some (.int l3), some (.ref 4), none]) (by decide +kernel) (by decide) rfl ?_
          refine ex_aload (pc := 65) (k := 4) (by decide +kernel) rfl ?_
          refine ex_iload_n (pc := 67) (k := 1) (by decide +kernel) rfl ?_
          obtain ⟨g3, h⟩ := h
          refine ey_iald (pc := 68) (v := mi M2 4 l1.toNatClampNeg) (by decide +kernel) (hF2.s (j := 4) rfl) g3 rfl rfl ?_
          refine ex_istore (pc := 69) (k := 5) (lo2 := [some (.ref 0), some (.int l1), some (.int l2), some (.int l3), some (.ref 4), some (.int (mi M2 4 l1.toNatClampNeg))]) (by decide +kernel) (by decide) rfl ?_
          refine ex_aload (pc := 71) (k := 4) (by decide +kernel) rfl ?_
          refine ex_iload_n (pc := 73) (k := 1) (by decide +kernel) rfl ?_
          refine ex_iload_n (pc := 74) (k := 3) (by decide +kernel) rfl ?_
          obtain ⟨g4, h⟩ := h
          refine ey_iast (pc := 75) (by decide +kernel) (hF2.s (j := 4) rfl) g4 rfl ?_
          refine ex_iload (pc := 76) (k := 5) (by decide +kernel) rfl ?_
          exact ex_ireturn (pc := 78) (by decide +kernel) rfl rfl h
      · replace h := h.2 hc
        refine ex_aload_n (pc := 31) (k := 0) (by decide +kernel) rfl ?_
        refine ex_getR (pc := 32) (a := 1) (by decide +kernel) lf_MD_10 (hF2.s (j := 0) rfl) (hF2.r (j := 0) (k := 0) rfl rfl) ?_
        refine ex_getR (pc := 35) (a := 3) (by decide +kernel) lf_MD_130 (hF2.s (j := 1) rfl) (hF2.r (j := 1) (k := 1) rfl rfl) ?_
        refine ex_goto (pc := 38) (off := 25) (tgt := 63) (by decide +kernel) (by decide) ?_
        refine ex_astore (pc := 63) (k := 4) (lo2 := [some (.ref 0), some (.int l1), some (.int l2), some (.int l3), some (.ref 3), none]) (by decide +kernel) (by decide) rfl ?_
        refine ex_aload (pc := 65) (k := 4) (by decide +kernel) rfl ?_
        refine ex_iload_n (pc := 67) (k := 1) (by decide +kernel) rfl ?_
        obtain ⟨g5, h⟩ := h
        refine ey_iald (pc := 68) (v := mi M2 3 l1.toNatClampNeg) (by decide +kernel) (hF2.s (j := 3) rfl) g5 rfl rfl ?_
        refine ex_istore (pc := 69) (k := 5) (lo2 := [some (.ref 0), some (.int l1), some (.int l2), some (.int l3), some (.ref 3), some (.int (mi M2 3 l1.toNatClampNeg))]) (by decide +kernel) (by decide) rfl ?_
        refine ex_aload (pc := 71) (k := 4) (by decide +kernel) rfl ?_
        refine ex_iload_n (pc := 73) (k := 1) (by decide +kernel) rfl ?_
        refine ex_iload_n (pc := 74) (k := 3) (by decide +kernel) rfl ?_
        obtain ⟨g6, h⟩ := h
        refine ey_iast (pc := 75) (by decide +kernel) (hF2.s (j := 3) rfl) g6 rfl ?_
        refine ex_iload (pc := 76) (k := 5) (by decide +kernel) rfl ?_
        exact ex_ireturn (pc := 78) (by decide +kernel) rfl rfl h
    · replace h := h.2 hc
      refine ex_bipush (pc := 24) (k := -7) (v := -7) (by decide +kernel) (by decide) ?_
      exact ex_ireturn (pc := 26) (by decide +kernel) rfl rfl h
  · replace h := h.2 hc
    refine ex_bipush (pc := 11) (k := -5) (v := -5) (by decide +kernel) (by decide) ?_
    exact ex_ireturn (pc := 13) (by decide +kernel) rfl rfl h
theorem k_MD_mayWant_0 {d bc bs : Nat} {l1 : Int32} {l2 : Int32} {l3 : Int32} {M : Mem} {Φ : Option Value → Mem → Prop} (hF : Fx M) (h : (l2 = nI 0 → (l3 < 0 → Φ (some (.int (b2i false))) M) ∧ (¬ l3 < 0 → ((nI 127) < l3 → Φ (some (.int (b2i false))) M) ∧ (¬ (nI 127) < l3 → Φ (some (.int (b2i true))) M))) ∧ (l2 = nI 1 → (l3 < (-1) → Φ (some (.int (b2i false))) M) ∧ (¬ l3 < (-1) → ((nI 7) ≤ l3 → Φ (some (.int (b2i false))) M) ∧ (¬ (nI 7) ≤ l3 → Φ (some (.int (b2i true))) M))) ∧ (l2 = nI 2 → (l3 = (-1) → Φ (some (.int (b2i true))) M) ∧ (¬ l3 = (-1) → Con d m_Land_hasTown 0 0 [.ref 1, .int l3] M (PB fun r1 M1 => Fx M1 ∧ (r1 = false → Φ (some (.int (b2i false))) M1) ∧ (r1 = true → (l3 = l1 → Φ (some (.int (b2i false))) M1) ∧ (¬ l3 = l1 → Φ (some (.int (b2i true))) M1))))) ∧ (¬ l2 = nI 0 → ¬ l2 = nI 1 → ¬ l2 = nI 2 → Φ (some (.int (b2i false))) M)) : Ex (d + 1) m_MD_mayWant bc bs 0 [some (.ref 0), some (.int l1), some (.int l2), some (.int l3)] [] M Φ := by
  refine ex_iload_n (pc := 0) (k := 2) (by decide +kernel) rfl ?_
  by_cases hc : l2 = nI 0
  · replace h := h.1 hc
    rw [hc]
    refine ex_tableIn (pc := 1) (dflt := 87) (l9 := 0) (h9 := 2) (offs := #[27, 43, 60]) (len := 27) (off := 27) (tgt := 28) (by decide +kernel) (by decide) (by decide) (by decide +kernel) (by decide) ?_
    refine ex_iload_n (pc := 28) (k := 3) (by decide +kernel) rfl ?_
    refine ex_if_lt (pc := 29) (off := 13) (tgt := 42) (by decide +kernel) (by decide) (fun hc => ?_) (fun hc => ?_)
    · replace h := h.1 hc
      refine ex_iconst (pc := 42) (k := 0) (v := nI 0) (by decide +kernel) (by decide) ?_
      exact ex_ireturn (pc := 43) (v := b2i false) (by decide +kernel) rfl (b2i_n _) h
    · replace h := h.2 hc
      refine ex_iload_n (pc := 32) (k := 3) (by decide +kernel) rfl ?_
      refine ex_bipush (pc := 33) (k := 127) (v := nI 127) (by decide +kernel) (by decide) ?_
      refine ex_icmp_gt (pc := 35) (off := 7) (tgt := 42) (by decide +kernel) (by decide) (fun hc => ?_) (fun hc => ?_)
      · replace h := h.1 hc
        refine ex_iconst (pc := 42) (k := 0) (v := nI 0) (by decide +kernel) (by decide) ?_
        exact ex_ireturn (pc := 43) (v := b2i false) (by decide +kernel) rfl (b2i_n _) h
      · replace h := h.2 hc
        refine ex_iconst (pc := 38) (k := 1) (v := nI 1) (by decide +kernel) (by decide) ?_
        refine ex_goto (pc := 39) (off := 4) (tgt := 43) (by decide +kernel) (by decide) ?_
        exact ex_ireturn (pc := 43) (v := b2i true) (by decide +kernel) rfl (b2i_n _) h
  replace h := h.2
  have n0 := hc
  by_cases hc : l2 = nI 1
  · replace h := h.1 hc
    rw [hc]
    refine ex_tableIn (pc := 1) (dflt := 87) (l9 := 0) (h9 := 2) (offs := #[27, 43, 60]) (len := 27) (off := 43) (tgt := 44) (by decide +kernel) (by decide) (by decide) (by decide +kernel) (by decide) ?_
    refine ex_iload_n (pc := 44) (k := 3) (by decide +kernel) rfl ?_
    refine ex_iconst (pc := 45) (k := -1) (v := -1) (by decide +kernel) (by decide) ?_
    refine ex_icmp_lt (pc := 46) (off := 13) (tgt := 59) (by decide +kernel) (by decide) (fun hc => ?_) (fun hc => ?_)
    · replace h := h.1 hc
      refine ex_iconst (pc := 59) (k := 0) (v := nI 0) (by decide +kernel) (by decide) ?_
      exact ex_ireturn (pc := 60) (v := b2i false) (by decide +kernel) rfl (b2i_n _) h
    · replace h := h.2 hc
      refine ex_iload_n (pc := 49) (k := 3) (by decide +kernel) rfl ?_
      refine ex_bipush (pc := 50) (k := 7) (v := nI 7) (by decide +kernel) (by decide) ?_
      refine ex_icmp_ge (pc := 52) (off := 7) (tgt := 59) (by decide +kernel) (by decide) (fun hc => ?_) (fun hc => ?_)
      · replace h := h.1 hc
        refine ex_iconst (pc := 59) (k := 0) (v := nI 0) (by decide +kernel) (by decide) ?_
        exact ex_ireturn (pc := 60) (v := b2i false) (by decide +kernel) rfl (b2i_n _) h
      · replace h := h.2 hc
        refine ex_iconst (pc := 55) (k := 1) (v := nI 1) (by decide +kernel) (by decide) ?_
        refine ex_goto (pc := 56) (off := 4) (tgt := 60) (by decide +kernel) (by decide) ?_
        exact ex_ireturn (pc := 60) (v := b2i true) (by decide +kernel) rfl (b2i_n _) h
  replace h := h.2
  have n1 := hc
  by_cases hc : l2 = nI 2
  · replace h := h.1 hc
    rw [hc]
    refine ex_tableIn (pc := 1) (dflt := 87) (l9 := 0) (h9 := 2) (offs := #[27, 43, 60]) (len := 27) (off := 60) (tgt := 61) (by decide +kernel) (by decide) (by decide) (by decide +kernel) (by decide) ?_
    refine ex_iload_n (pc := 61) (k := 3) (by decide +kernel) rfl ?_
    refine ex_iconst (pc := 62) (k := -1) (v := -1) (by decide +kernel) (by decide) ?_
    refine ex_icmp_eq (pc := 63) (off := 19) (tgt := 82) (by decide +kernel) (by decide) (fun hc => ?_) (fun hc => ?_)
    · replace h := h.1 hc
      refine ex_iconst (pc := 82) (k := 1) (v := nI 1) (by decide +kernel) (by decide) ?_
      refine ex_goto (pc := 83) (off := 4) (tgt := 87) (by decide +kernel) (by decide) ?_
      exact ex_ireturn (pc := 87) (v := b2i true) (by decide +kernel) rfl (b2i_n _) h
    · replace h := h.2 hc
      refine ex_aload_n (pc := 66) (k := 0) (by decide +kernel) rfl ?_
      refine ex_getR (pc := 67) (a := 1) (by decide +kernel) lf_MD_10 (hF.s (j := 0) rfl) (hF.r (j := 0) (k := 0) rfl rfl) ?_
      refine ex_iload_n (pc := 70) (k := 3) (by decide +kernel) rfl ?_
      refine ex_callV (pc := 71) (as := [.int l3]) (by decide +kernel) F_Land_hasTown (in_t3 (i := 47) rfl rfl) (hF.s (j := 1) rfl) rfl (by decide) rfl rfl (Nat.le_of_ble_eq_true rfl) (Nat.lt_succ_self _) ⟨Nat.zero_le _, Nat.zero_le _⟩ (KC_B (Con.mono h ?_))
      intro o M1 ⟨r1, e9, hF1, h⟩
      refine ⟨r1, e9, ?_⟩
      refine ey_ifeqB (pc := 74) (off := 12) (tgt := 86) (by decide +kernel) (by decide) (fun hc => ?_) (fun hc => ?_)
      · replace h := h.1 hc
        refine ex_iconst (pc := 86) (k := 0) (v := nI 0) (by decide +kernel) (by decide) ?_
        exact ex_ireturn (pc := 87) (v := b2i false) (by decide +kernel) rfl (b2i_n _) h
      · replace h := h.2 hc
        refine ex_iload_n (pc := 77) (k := 3) (by decide +kernel) rfl ?_
        refine ex_iload_n (pc := 78) (k := 1) (by decide +kernel) rfl ?_
        refine ex_icmp_eq (pc := 79) (off := 7) (tgt := 86) (by decide +kernel) (by decide) (fun hc => ?_) (fun hc => ?_)
        · replace h := h.1 hc
          refine ex_iconst (pc := 86) (k := 0) (v := nI 0) (by decide +kernel) (by decide) ?_
          exact ex_ireturn (pc := 87) (v := b2i false) (by decide +kernel) rfl (b2i_n _) h
        · replace h := h.2 hc
          refine ex_iconst (pc := 82) (k := 1) (v := nI 1) (by decide +kernel) (by decide) ?_
          refine ex_goto (pc := 83) (off := 4) (tgt := 87) (by decide +kernel) (by decide) ?_
          exact ex_ireturn (pc := 87) (v := b2i true) (by decide +kernel) rfl (b2i_n _) h
  replace h := h.2
  have n2 := hc
  refine ex_tableOut (pc := 1) (dflt := 87) (l9 := 0) (h9 := 2) (offs := #[27, 43, 60]) (len := 27) (tgt := 88) (by decide +kernel) (tab_out (fun q hq1 hq2 => ?_)) (by decide) ?_
  · rcases (show q = (0 : Int) ∨ q = (1 : Int) ∨ q = (2 : Int) by omega) with rfl | rfl | rfl
    · rw [show Int32.ofInt (0) = nI 0 by decide]; exact n0
    · rw [show Int32.ofInt (1) = nI 1 by decide]; exact n1
    · rw [show Int32.ofInt (2) = nI 2 by decide]; exact n2
  · replace h := h n0 n1 n2
    refine ex_iconst (pc := 88) (k := 0) (v := nI 0) (by decide +kernel) (by decide) ?_
    exact ex_ireturn (pc := 89) (v := b2i false) (by decide +kernel) rfl (b2i_n _) h
theorem k_MD_townTold_0 {d bc bs : Nat} {l1 : Int32} {l2 : Int32} {M : Mem} {Φ : Option Value → Mem → Prop} (hF : Fx M) (h : Con d m_Land_hasTown 0 0 [.ref 1, .int l1] M (PB fun r1 M1 => Fx M1 ∧ (r1 = true → (l2 = nI 0 → vp_in l1 6 ∧ Φ (some (.int (mi M1 2 l1.toNatClampNeg))) M1) ∧ (l2 = nI 1 → vp_in l1 6 ∧ Φ (some (.int (mi M1 3 l1.toNatClampNeg))) M1) ∧ (l2 = nI 2 → vp_in l1 6 ∧ Φ (some (.int (mi M1 4 l1.toNatClampNeg))) M1) ∧ (l2 = nI 3 → vp_in l1 6 ∧ Φ (some (.int (mi M1 5 l1.toNatClampNeg))) M1) ∧ (¬ l2 = nI 0 → ¬ l2 = nI 1 → ¬ l2 = nI 2 → ¬ l2 = nI 3 → Φ (some (.int (-7))) M1)) ∧ (r1 = false → Φ (some (.int (-5))) M1))) : Ex (d + 1) m_MD_townTold bc bs 0 [some (.ref 0), some (.int l1), some (.int l2)] [] M Φ := by
  refine ex_aload_n (pc := 0) (k := 0) (by decide +kernel) rfl ?_
  refine ex_getR (pc := 1) (a := 1) (by decide +kernel) lf_MD_10 (hF.s (j := 0) rfl) (hF.r (j := 0) (k := 0) rfl rfl) ?_
  refine ex_iload_n (pc := 4) (k := 1) (by decide +kernel) rfl ?_
  refine ex_callV (pc := 5) (as := [.int l1]) (by decide +kernel) F_Land_hasTown (in_t3 (i := 47) rfl rfl) (hF.s (j := 1) rfl) rfl (by decide) rfl rfl (Nat.le_of_ble_eq_true rfl) (Nat.lt_succ_self _) ⟨Nat.zero_le _, Nat.zero_le _⟩ (KC_B (Con.mono h ?_))
  intro o M1 ⟨r1, e9, hF1, h⟩
  refine ⟨r1, e9, ?_⟩
  refine ey_ifneB (pc := 8) (off := 6) (tgt := 14) (by decide +kernel) (by decide) (fun hc => ?_) (fun hc => ?_)
  · replace h := h.1 hc
    refine ex_iload_n (pc := 14) (k := 2) (by decide +kernel) rfl ?_
    by_cases hc : l2 = nI 0
    · replace h := h.1 hc
      rw [hc]
      refine ex_tableIn (pc := 15) (dflt := 69) (l9 := 0) (h9 := 3) (offs := #[29, 39, 49, 59]) (len := 29) (off := 29) (tgt := 44) (by decide +kernel) (by decide) (by decide) (by decide +kernel) (by decide) ?_
      refine ex_aload_n (pc := 44) (k := 0) (by decide +kernel) rfl ?_
      refine ex_getR (pc := 45) (a := 1) (by decide +kernel) lf_MD_10 (hF1.s (j := 0) rfl) (hF1.r (j := 0) (k := 0) rfl rfl) ?_
      refine ex_getR (pc := 48) (a := 2) (by decide +kernel) lf_MD_140 (hF1.s (j := 1) rfl) (hF1.r (j := 1) (k := 0) rfl rfl) ?_
      refine ex_iload_n (pc := 51) (k := 1) (by decide +kernel) rfl ?_
      obtain ⟨g1, h⟩ := h
      refine ey_iald (pc := 52) (v := mi M1 2 l1.toNatClampNeg) (by decide +kernel) (hF1.s (j := 2) rfl) g1 rfl rfl ?_
      exact ex_ireturn (pc := 53) (by decide +kernel) rfl rfl h
    replace h := h.2
    have n0 := hc
    by_cases hc : l2 = nI 1
    · replace h := h.1 hc
      rw [hc]
      refine ex_tableIn (pc := 15) (dflt := 69) (l9 := 0) (h9 := 3) (offs := #[29, 39, 49, 59]) (len := 29) (off := 39) (tgt := 54) (by decide +kernel) (by decide) (by decide) (by decide +kernel) (by decide) ?_
      refine ex_aload_n (pc := 54) (k := 0) (by decide +kernel) rfl ?_
      refine ex_getR (pc := 55) (a := 1) (by decide +kernel) lf_MD_10 (hF1.s (j := 0) rfl) (hF1.r (j := 0) (k := 0) rfl rfl) ?_
      refine ex_getR (pc := 58) (a := 3) (by decide +kernel) lf_MD_130 (hF1.s (j := 1) rfl) (hF1.r (j := 1) (k := 1) rfl rfl) ?_
      refine ex_iload_n (pc := 61) (k := 1) (by decide +kernel) rfl ?_
      obtain ⟨g2, h⟩ := h
      refine ey_iald (pc := 62) (v := mi M1 3 l1.toNatClampNeg) (by decide +kernel) (hF1.s (j := 3) rfl) g2 rfl rfl ?_
      exact ex_ireturn (pc := 63) (by decide +kernel) rfl rfl h
    replace h := h.2
    have n1 := hc
    by_cases hc : l2 = nI 2
    · replace h := h.1 hc
      rw [hc]
      refine ex_tableIn (pc := 15) (dflt := 69) (l9 := 0) (h9 := 3) (offs := #[29, 39, 49, 59]) (len := 29) (off := 49) (tgt := 64) (by decide +kernel) (by decide) (by decide) (by decide +kernel) (by decide) ?_
      refine ex_aload_n (pc := 64) (k := 0) (by decide +kernel) rfl ?_
      refine ex_getR (pc := 65) (a := 1) (by decide +kernel) lf_MD_10 (hF1.s (j := 0) rfl) (hF1.r (j := 0) (k := 0) rfl rfl) ?_
      refine ex_getR (pc := 68) (a := 4) (by decide +kernel) lf_MD_134 (hF1.s (j := 1) rfl) (hF1.r (j := 1) (k := 2) rfl rfl) ?_
      refine ex_iload_n (pc := 71) (k := 1) (by decide +kernel) rfl ?_
      obtain ⟨g3, h⟩ := h
      refine ey_iald (pc := 72) (v := mi M1 4 l1.toNatClampNeg) (by decide +kernel) (hF1.s (j := 4) rfl) g3 rfl rfl ?_
      exact ex_ireturn (pc := 73) (by decide +kernel) rfl rfl h
    replace h := h.2
    have n2 := hc
    by_cases hc : l2 = nI 3
    · replace h := h.1 hc
      rw [hc]
      refine ex_tableIn (pc := 15) (dflt := 69) (l9 := 0) (h9 := 3) (offs := #[29, 39, 49, 59]) (len := 29) (off := 59) (tgt := 74) (by decide +kernel) (by decide) (by decide) (by decide +kernel) (by decide) ?_
      refine ex_aload_n (pc := 74) (k := 0) (by decide +kernel) rfl ?_
      refine ex_getR (pc := 75) (a := 1) (by decide +kernel) lf_MD_10 (hF1.s (j := 0) rfl) (hF1.r (j := 0) (k := 0) rfl rfl) ?_
      refine ex_getR (pc := 78) (a := 5) (by decide +kernel) lf_MD_137 (hF1.s (j := 1) rfl) (hF1.r (j := 1) (k := 3) rfl rfl) ?_
      refine ex_iload_n (pc := 81) (k := 1) (by decide +kernel) rfl ?_
      obtain ⟨g4, h⟩ := h
      refine ey_iald (pc := 82) (v := mi M1 5 l1.toNatClampNeg) (by decide +kernel) (hF1.s (j := 5) rfl) g4 rfl rfl ?_
      exact ex_ireturn (pc := 83) (by decide +kernel) rfl rfl h
    replace h := h.2
    have n3 := hc
    refine ex_tableOut (pc := 15) (dflt := 69) (l9 := 0) (h9 := 3) (offs := #[29, 39, 49, 59]) (len := 29) (tgt := 84) (by decide +kernel) (tab_out (fun q hq1 hq2 => ?_)) (by decide) ?_
    · rcases (show q = (0 : Int) ∨ q = (1 : Int) ∨ q = (2 : Int) ∨ q = (3 : Int) by omega) with rfl | rfl | rfl | rfl
      · rw [show Int32.ofInt (0) = nI 0 by decide]; exact n0
      · rw [show Int32.ofInt (1) = nI 1 by decide]; exact n1
      · rw [show Int32.ofInt (2) = nI 2 by decide]; exact n2
      · rw [show Int32.ofInt (3) = nI 3 by decide]; exact n3
    · replace h := h n0 n1 n2 n3
      refine ex_bipush (pc := 84) (k := -7) (v := -7) (by decide +kernel) (by decide) ?_
      exact ex_ireturn (pc := 86) (by decide +kernel) rfl rfl h
  · replace h := h.2 hc
    refine ex_bipush (pc := 11) (k := -5) (v := -5) (by decide +kernel) (by decide) ?_
    exact ex_ireturn (pc := 13) (by decide +kernel) rfl rfl h
theorem k_MD_feast_0 {d bc bs : Nat} {l1 : Int32} {l2 : Int32} {M : Mem} {Φ : Option Value → Mem → Prop} (hF : Fx M) (h : Con d m_MD_isWeek 0 0 [.int l1] M (PB fun r1 M1 => Fx M1 ∧ (r1 = false → Φ (some (.int (-2))) M1) ∧ (r1 = true → (l2 < 0 → Φ (some (.int (-2))) M1) ∧ (¬ l2 < 0 → (l2 < (nI 7) → Con d m_Land_hold 0 0 [.ref 1, .int l1, .int l2] M1 (PB fun r2 M2 => Fx M2 ∧ (r2 = false → Φ (some (.int (-4))) M2) ∧ (r2 = true → Φ (some (.int (mi M2 1 10))) M2))) ∧ (¬ l2 < (nI 7) → Φ (some (.int (-2))) M1))))) : Ex (d + 1) m_MD_feast bc bs 0 [some (.ref 0), some (.int l1), some (.int l2)] [] M Φ := by
  refine ex_iload_n (pc := 0) (k := 1) (by decide +kernel) rfl ?_
  refine ex_callS (pc := 1) (as := [.int l1]) (by decide +kernel) F_MD_isWeek (in_t3 (i := 83) rfl rfl) rfl rfl (Nat.le_of_ble_eq_true rfl) (Nat.lt_succ_self _) ⟨Nat.zero_le _, Nat.zero_le _⟩ (KC_B (Con.mono h ?_))
  intro o M1 ⟨r1, e9, hF1, h⟩
  refine ⟨r1, e9, ?_⟩
  refine ey_ifeqB (pc := 4) (off := 13) (tgt := 17) (by decide +kernel) (by decide) (fun hc => ?_) (fun hc => ?_)
  · replace h := h.1 hc
    refine ex_bipush (pc := 17) (k := -2) (v := -2) (by decide +kernel) (by decide) ?_
    exact ex_ireturn (pc := 19) (by decide +kernel) rfl rfl h
  · replace h := h.2 hc
    refine ex_iload_n (pc := 7) (k := 2) (by decide +kernel) rfl ?_
    refine ex_if_lt (pc := 8) (off := 9) (tgt := 17) (by decide +kernel) (by decide) (fun hc => ?_) (fun hc => ?_)
    · replace h := h.1 hc
      refine ex_bipush (pc := 17) (k := -2) (v := -2) (by decide +kernel) (by decide) ?_
      exact ex_ireturn (pc := 19) (by decide +kernel) rfl rfl h
    · replace h := h.2 hc
      refine ex_iload_n (pc := 11) (k := 2) (by decide +kernel) rfl ?_
      refine ex_bipush (pc := 12) (k := 7) (v := nI 7) (by decide +kernel) (by decide) ?_
      refine ex_icmp_lt (pc := 14) (off := 6) (tgt := 20) (by decide +kernel) (by decide) (fun hc => ?_) (fun hc => ?_)
      · replace h := h.1 hc
        refine ex_aload_n (pc := 20) (k := 0) (by decide +kernel) rfl ?_
        refine ex_getR (pc := 21) (a := 1) (by decide +kernel) lf_MD_10 (hF1.s (j := 0) rfl) (hF1.r (j := 0) (k := 0) rfl rfl) ?_
        refine ex_iload_n (pc := 24) (k := 1) (by decide +kernel) rfl ?_
        refine ex_iload_n (pc := 25) (k := 2) (by decide +kernel) rfl ?_
        refine ex_callV (pc := 26) (as := [.int l1, .int l2]) (by decide +kernel) F_Land_hold (in_t3 (i := 86) rfl rfl) (hF1.s (j := 1) rfl) rfl (by decide) rfl rfl (Nat.le_of_ble_eq_true rfl) (Nat.lt_succ_self _) ⟨Nat.zero_le _, Nat.zero_le _⟩ (KC_B (Con.mono h ?_))
        intro o M2 ⟨r2, e9, hF2, h⟩
        refine ⟨r2, e9, ?_⟩
        refine ey_ifeqB (pc := 29) (off := 13) (tgt := 42) (by decide +kernel) (by decide) (fun hc => ?_) (fun hc => ?_)
        · replace h := h.1 hc
          refine ex_bipush (pc := 42) (k := -4) (v := -4) (by decide +kernel) (by decide) ?_
          exact ex_ireturn (pc := 44) (by decide +kernel) rfl rfl h
        · replace h := h.2 hc
          refine ex_aload_n (pc := 32) (k := 0) (by decide +kernel) rfl ?_
          refine ex_getR (pc := 33) (a := 1) (by decide +kernel) lf_MD_10 (hF2.s (j := 0) rfl) (hF2.r (j := 0) (k := 0) rfl rfl) ?_
          refine ey_getI (pc := 36) (v := mi M2 1 10) (by decide +kernel) lf_MD_150 (hF2.s (j := 1) rfl) rfl ?_
          refine ex_goto (pc := 39) (off := 5) (tgt := 44) (by decide +kernel) (by decide) ?_
          exact ex_ireturn (pc := 44) (by decide +kernel) rfl rfl h
      · replace h := h.2 hc
        refine ex_bipush (pc := 17) (k := -2) (v := -2) (by decide +kernel) (by decide) ?_
        exact ex_ireturn (pc := 19) (by decide +kernel) rfl rfl h
theorem k_MD_feed_0 {d bc bs : Nat} {l1 : Int64} {l3 : Int32} {M : Mem} {Φ : Option Value → Mem → Prop} (hF : Fx M) (h : (l3 < (nI 1) → Φ (some (.int (-2))) M) ∧ (¬ l3 < (nI 1) → (l3 ≤ (nI 8) → (((mi M 43 1) + l3) ≤ (nI 160) → Ex (d + 1) m_MD_feed bc bs 37 [some (.ref 0), some (.long l1), none, some (.int l3), some (.int (l3 - (nI 1)))] [] M Φ) ∧ (¬ ((mi M 43 1) + l3) ≤ (nI 160) → Φ (some (.int (-4))) M)) ∧ (¬ l3 ≤ (nI 8) → Φ (some (.int (-2))) M))) : Ex (d + 1) m_MD_feed bc bs 0 [some (.ref 0), some (.long l1), none, some (.int l3), none] [] M Φ := by
  refine ex_iload_n (pc := 0) (k := 3) (by decide +kernel) rfl ?_
  refine ex_iconst (pc := 1) (k := 1) (v := nI 1) (by decide +kernel) (by decide) ?_
  refine ex_icmp_lt (pc := 2) (off := 9) (tgt := 11) (by decide +kernel) (by decide) (fun hc => ?_) (fun hc => ?_)
  · replace h := h.1 hc
    refine ex_bipush (pc := 11) (k := -2) (v := -2) (by decide +kernel) (by decide) ?_
    exact ex_ireturn (pc := 13) (by decide +kernel) rfl rfl h
  · replace h := h.2 hc
    refine ex_iload_n (pc := 5) (k := 3) (by decide +kernel) rfl ?_
    refine ex_bipush (pc := 6) (k := 8) (v := nI 8) (by decide +kernel) (by decide) ?_
    refine ex_icmp_le (pc := 8) (off := 6) (tgt := 14) (by decide +kernel) (by decide) (fun hc => ?_) (fun hc => ?_)
    · replace h := h.1 hc
      refine ex_aload_n (pc := 14) (k := 0) (by decide +kernel) rfl ?_
      refine ex_getR (pc := 15) (a := 43) (by decide +kernel) lf_MD_26 (hF.s (j := 0) rfl) (hF.r (j := 0) (k := 3) rfl rfl) ?_
      refine ey_getI (pc := 18) (v := mi M 43 1) (by decide +kernel) lf_MD_153 (hF.s (j := 43) rfl) rfl ?_
      refine ex_iload_n (pc := 21) (k := 3) (by decide +kernel) rfl ?_
      refine ex_iadd (pc := 22) (by decide +kernel) ?_
      refine ex_sipush (pc := 23) (k := 160) (v := nI 160) (by decide +kernel) (by decide) ?_
      refine ex_icmp_le (pc := 26) (off := 6) (tgt := 32) (by decide +kernel) (by decide) (fun hc => ?_) (fun hc => ?_)
      · replace h := h.1 hc
        refine ex_iload_n (pc := 32) (k := 3) (by decide +kernel) rfl ?_
        refine ex_iconst (pc := 33) (k := 1) (v := nI 1) (by decide +kernel) (by decide) ?_
        refine ex_isub (pc := 34) (by decide +kernel) ?_
        refine ex_istore (pc := 35) (k := 4) (lo2 := [some (.ref 0), some (.long l1), none, some (.int l3), some (.int (l3 - (nI 1)))]) (by decide +kernel) (by decide) rfl ?_
        exact h
      · replace h := h.2 hc
        refine ex_bipush (pc := 29) (k := -4) (v := -4) (by decide +kernel) (by decide) ?_
        exact ex_ireturn (pc := 31) (by decide +kernel) rfl rfl h
    · replace h := h.2 hc
      refine ex_bipush (pc := 11) (k := -2) (v := -2) (by decide +kernel) (by decide) ?_
      exact ex_ireturn (pc := 13) (by decide +kernel) rfl rfl h
theorem k_MD_feed_37 {d bc bs : Nat} {l1 : Int64} {l3 : Int32} {l4 : Int32} {M : Mem} {Φ : Option Value → Mem → Prop} (hF : Fx M) (h : (l4 < 0 → Φ (some (.int (mi M 43 1))) M) ∧ (¬ l4 < 0 → Con d m_Tape_put 0 0 [.ref 43, .int ((Int64.toInt32 (l1 >>> (Int32.toInt64 ((nI 8) * l4) &&& 63))) &&& (nI 255))] M (PV fun M1 => Fx M1 ∧ Ex (d + 1) m_MD_feed bc bs 37 [some (.ref 0), some (.long l1), none, some (.int l3), some (.int (l4 + (-1)))] [] M1 Φ))) : Ex (d + 1) m_MD_feed bc bs 37 [some (.ref 0), some (.long l1), none, some (.int l3), some (.int l4)] [] M Φ := by
  refine ex_iload (pc := 37) (k := 4) (by decide +kernel) rfl ?_
  refine ex_if_lt (pc := 39) (off := 28) (tgt := 67) (by decide +kernel) (by decide) (fun hc => ?_) (fun hc => ?_)
  · replace h := h.1 hc
    refine ex_aload_n (pc := 67) (k := 0) (by decide +kernel) rfl ?_
    refine ex_getR (pc := 68) (a := 43) (by decide +kernel) lf_MD_26 (hF.s (j := 0) rfl) (hF.r (j := 0) (k := 3) rfl rfl) ?_
    refine ey_getI (pc := 71) (v := mi M 43 1) (by decide +kernel) lf_MD_153 (hF.s (j := 43) rfl) rfl ?_
    exact ex_ireturn (pc := 74) (by decide +kernel) rfl rfl h
  · replace h := h.2 hc
    refine ex_aload_n (pc := 42) (k := 0) (by decide +kernel) rfl ?_
    refine ex_getR (pc := 43) (a := 43) (by decide +kernel) lf_MD_26 (hF.s (j := 0) rfl) (hF.r (j := 0) (k := 3) rfl rfl) ?_
    refine ex_lload_n (pc := 46) (k := 1) (by decide +kernel) rfl ?_
    refine ex_bipush (pc := 47) (k := 8) (v := nI 8) (by decide +kernel) (by decide) ?_
    refine ex_iload (pc := 49) (k := 4) (by decide +kernel) rfl ?_
    refine ex_imul (pc := 51) (by decide +kernel) ?_
    refine ex_lshr (pc := 52) (by decide +kernel) ?_
    refine ex_l2i (pc := 53) (by decide +kernel) ?_
    refine ex_sipush (pc := 54) (k := 255) (v := nI 255) (by decide +kernel) (by decide) ?_
    refine ex_iand (pc := 57) (by decide +kernel) ?_
    refine ex_callV (pc := 58) (as := [.int ((Int64.toInt32 (l1 >>> (Int32.toInt64 ((nI 8) * l4) &&& 63))) &&& (nI 255))]) (by decide +kernel) F_Tape_put (in_t2 (i := 108) rfl rfl) (hF.s (j := 43) rfl) rfl (by decide) rfl rfl (Nat.le_of_ble_eq_true rfl) (Nat.lt_succ_self _) ⟨Nat.zero_le _, Nat.zero_le _⟩ (KC_V (Con.mono h ?_))
    intro o M1 ⟨e9, hF1, h⟩
    refine ⟨e9, ?_⟩
    refine ex_iinc (pc := 61) (i := 4) (k := -1) (v := l4 + (-1)) (lo2 := [some (.ref 0), some (.long l1), none, some (.int l3), some (.int (l4 + (-1)))]) (by decide +kernel) (by decide) rfl rfl rfl ?_
    refine ex_goto (pc := 64) (off := -27) (tgt := 37) (by decide +kernel) (by decide) ?_
    exact h
theorem k_MD_text_0 {d bc bs : Nat}  {M : Mem} {Φ : Option Value → Mem → Prop} (hF : Fx M) (h : (¬ (mi M 46 2) = (nI 6) → (3 ≤ bc ∧ 330 ≤ bs) ∧ Con d m_Tape_readRule 3 330 [.ref 43] M (PR fun r1 M1 => Fx M1 ∧ (r1 = none → Φ (some (.int ((-100) - (mi M1 43 2)))) M1) ∧ (∀ a2 : Nat, r1 = some a2 → Con d m_Law_learn 0 0 [.ref 46, .ref a2] M1 (PV fun M2 => Fx M2 ∧ Φ (some (.int ((mi M2 46 2) - (nI 1)))) M2)))) ∧ ((mi M 46 2) = (nI 6) → Φ (some (.int (-4))) M)) : Ex (d + 1) m_MD_text bc bs 0 [some (.ref 0), none] [] M Φ := by
  refine ex_aload_n (pc := 0) (k := 0) (by decide +kernel) rfl ?_
  refine ex_getR (pc := 1) (a := 46) (by decide +kernel) lf_MD_35 (hF.s (j := 0) rfl) (hF.r (j := 0) (k := 4) rfl rfl) ?_
  refine ey_getI (pc := 4) (v := mi M 46 2) (by decide +kernel) lf_MD_156 (hF.s (j := 46) rfl) rfl ?_
  refine ex_bipush (pc := 7) (k := 6) (v := nI 6) (by decide +kernel) (by decide) ?_
  refine ex_icmp_ne (pc := 9) (off := 6) (tgt := 15) (by decide +kernel) (by decide) (fun hc => ?_) (fun hc => ?_)
  · replace h := h.1 hc
    refine ex_aload_n (pc := 15) (k := 0) (by decide +kernel) rfl ?_
    refine ex_getR (pc := 16) (a := 43) (by decide +kernel) lf_MD_26 (hF.s (j := 0) rfl) (hF.r (j := 0) (k := 3) rfl rfl) ?_
    obtain ⟨g1, h⟩ := h
    refine ex_callV (pc := 19) (as := []) (by decide +kernel) F_Tape_readRule (in_t2 (i := 112) rfl rfl) (hF.s (j := 43) rfl) rfl (by decide) rfl rfl (Nat.le_of_ble_eq_true rfl) (Nat.lt_succ_self _) g1 (KC_R (Con.mono h ?_))
    intro o M1 ⟨r1, e9, hF1, h⟩
    refine ⟨r1, e9, ?_⟩
    cases r1 with
    | none =>
      replace h := h.1 rfl
      show Ex _ _ _ _ _ _ (Value.null :: _) _ _
      refine ex_astore_nN (pc := 22) (k := 1) (lo2 := [some (.ref 0), some (.null)]) (by decide +kernel) (by decide) rfl ?_
      refine ex_aload_nN (pc := 23) (k := 1) (by decide +kernel) rfl ?_
      refine ex_ifnonnullN (pc := 24) (off := 14) (by decide +kernel) ?_
      refine ex_bipush (pc := 27) (k := -100) (v := -100) (by decide +kernel) (by decide) ?_
      refine ex_aload_n (pc := 29) (k := 0) (by decide +kernel) rfl ?_
      refine ex_getR (pc := 30) (a := 43) (by decide +kernel) lf_MD_26 (hF1.s (j := 0) rfl) (hF1.r (j := 0) (k := 3) rfl rfl) ?_
      refine ey_getI (pc := 33) (v := mi M1 43 2) (by decide +kernel) lf_MD_159 (hF1.s (j := 43) rfl) rfl ?_
      refine ex_isub (pc := 36) (by decide +kernel) ?_
      exact ex_ireturn (pc := 37) (by decide +kernel) rfl rfl h
    | some a2 =>
      replace h := h.2 a2 rfl
      show Ex _ _ _ _ _ _ (Value.ref a2 :: _) _ _
      refine ex_astore_n (pc := 22) (k := 1) (lo2 := [some (.ref 0), some (.ref a2)]) (by decide +kernel) (by decide) rfl ?_
      refine ex_aload_n (pc := 23) (k := 1) (by decide +kernel) rfl ?_
      refine ex_ifnonnull (pc := 24) (off := 14) (tgt := 38) (by decide +kernel) (by decide) ?_
      refine ex_aload_n (pc := 38) (k := 0) (by decide +kernel) rfl ?_
      refine ex_getR (pc := 39) (a := 46) (by decide +kernel) lf_MD_35 (hF1.s (j := 0) rfl) (hF1.r (j := 0) (k := 4) rfl rfl) ?_
      refine ex_aload_n (pc := 42) (k := 1) (by decide +kernel) rfl ?_
      refine ex_callV (pc := 43) (as := [.ref a2]) (by decide +kernel) F_Law_learn (in_t2 (i := 232) rfl rfl) (hF1.s (j := 46) rfl) rfl (by decide) rfl rfl (Nat.le_of_ble_eq_true rfl) (Nat.lt_succ_self _) ⟨Nat.zero_le _, Nat.zero_le _⟩ (KC_V (Con.mono h ?_))
      intro o M2 ⟨e9, hF2, h⟩
      refine ⟨e9, ?_⟩
      refine ex_aload_n (pc := 46) (k := 0) (by decide +kernel) rfl ?_
      refine ex_getR (pc := 47) (a := 46) (by decide +kernel) lf_MD_35 (hF2.s (j := 0) rfl) (hF2.r (j := 0) (k := 4) rfl rfl) ?_
      refine ey_getI (pc := 50) (v := mi M2 46 2) (by decide +kernel) lf_MD_156 (hF2.s (j := 46) rfl) rfl ?_
      refine ex_iconst (pc := 53) (k := 1) (v := nI 1) (by decide +kernel) (by decide) ?_
      refine ex_isub (pc := 54) (by decide +kernel) ?_
      exact ex_ireturn (pc := 55) (by decide +kernel) rfl rfl h
  · replace h := h.2 hc
    refine ex_bipush (pc := 12) (k := -4) (v := -4) (by decide +kernel) (by decide) ?_
    exact ex_ireturn (pc := 14) (by decide +kernel) rfl rfl h
theorem k_MD_force_0 {d bc bs : Nat} {l1 : Int32} {M : Mem} {Φ : Option Value → Mem → Prop} (hF : Fx M) (h : (l1 < 0 → Φ (some (.int (-2))) M) ∧ (¬ l1 < 0 → (l1 < (mi M 46 2) → Φ (some (.int (mi M 1 11))) (wi M 1 11 l1)) ∧ (¬ l1 < (mi M 46 2) → Φ (some (.int (-2))) M))) : Ex (d + 1) m_MD_force bc bs 0 [some (.ref 0), some (.int l1), none] [] M Φ := by
  refine ex_iload_n (pc := 0) (k := 1) (by decide +kernel) rfl ?_
  refine ex_if_lt (pc := 1) (off := 14) (tgt := 15) (by decide +kernel) (by decide) (fun hc => ?_) (fun hc => ?_)
  · replace h := h.1 hc
    refine ex_bipush (pc := 15) (k := -2) (v := -2) (by decide +kernel) (by decide) ?_
    exact ex_ireturn (pc := 17) (by decide +kernel) rfl rfl h
  · replace h := h.2 hc
    refine ex_iload_n (pc := 4) (k := 1) (by decide +kernel) rfl ?_
    refine ex_aload_n (pc := 5) (k := 0) (by decide +kernel) rfl ?_
    refine ex_getR (pc := 6) (a := 46) (by decide +kernel) lf_MD_35 (hF.s (j := 0) rfl) (hF.r (j := 0) (k := 4) rfl rfl) ?_
    refine ey_getI (pc := 9) (v := mi M 46 2) (by decide +kernel) lf_MD_156 (hF.s (j := 46) rfl) rfl ?_
    refine ex_icmp_lt (pc := 12) (off := 6) (tgt := 18) (by decide +kernel) (by decide) (fun hc => ?_) (fun hc => ?_)
    · replace h := h.1 hc
      refine ex_aload_n (pc := 18) (k := 0) (by decide +kernel) rfl ?_
      refine ex_getR (pc := 19) (a := 1) (by decide +kernel) lf_MD_10 (hF.s (j := 0) rfl) (hF.r (j := 0) (k := 0) rfl rfl) ?_
      refine ey_getI (pc := 22) (v := mi M 1 11) (by decide +kernel) lf_MD_162 (hF.s (j := 1) rfl) rfl ?_
      refine ex_istore_n (pc := 25) (k := 2) (lo2 := [some (.ref 0), some (.int l1), some (.int (mi M 1 11))]) (by decide +kernel) (by decide) rfl ?_
      refine ex_aload_n (pc := 26) (k := 0) (by decide +kernel) rfl ?_
      refine ex_getR (pc := 27) (a := 1) (by decide +kernel) lf_MD_10 (hF.s (j := 0) rfl) (hF.r (j := 0) (k := 0) rfl rfl) ?_
      refine ex_iload_n (pc := 30) (k := 1) (by decide +kernel) rfl ?_
      refine ex_putI (pc := 31) (index := 162) (ci := 4) (k := 11) (fin := false) (by decide +kernel) ⟨_, _, _, _, cf_Land, by decide, in_t1 (i := 73) rfl rfl, rfl, (fun h => by cases h), rfl, rfl⟩ rfl (fun h => by cases h) (hF.s (j := 1) rfl) ?_
      refine ex_iload_n (pc := 34) (k := 2) (by decide +kernel) rfl ?_
      exact ex_ireturn (pc := 35) (by decide +kernel) rfl rfl h
    · replace h := h.2 hc
      refine ex_bipush (pc := 15) (k := -2) (v := -2) (by decide +kernel) (by decide) ?_
      exact ex_ireturn (pc := 17) (by decide +kernel) rfl rfl h
theorem k_MD_says_0 {d bc bs : Nat} {l1 : Int32} {l2 : Int32} {M : Mem} {Φ : Option Value → Mem → Prop} (hF : Fx M) (h : Con d m_Land_hasTown 0 0 [.ref 1, .int l1] M (PB fun r1 M1 => Fx M1 ∧ (r1 = false → Φ (some (.long (-4611686018427387904))) M1) ∧ (r1 = true → Con d m_Land_hasTown 0 0 [.ref 1, .int l2] M1 (PB fun r2 M2 => Fx M2 ∧ (r2 = false → Φ (some (.long (-4611686018427387904))) M2) ∧ (r2 = true → (¬ l1 = l2 → Con d m_Law_nearSays 0 0 [.ref 46, .int l1, .int l2, .int (mi M2 1 9)] M2 (PI fun r3 M3 => Fx M3 ∧ Φ (some (.long (Int32.toInt64 r3))) M3)) ∧ (l1 = l2 → Φ (some (.long (-4611686018427387904))) M2)))))) : Ex (d + 1) m_MD_says bc bs 0 [some (.ref 0), some (.int l1), some (.int l2)] [] M Φ := by
  refine ex_aload_n (pc := 0) (k := 0) (by decide +kernel) rfl ?_
  refine ex_getR (pc := 1) (a := 1) (by decide +kernel) lf_MD_10 (hF.s (j := 0) rfl) (hF.r (j := 0) (k := 0) rfl rfl) ?_
  refine ex_iload_n (pc := 4) (k := 1) (by decide +kernel) rfl ?_
  refine ex_callV (pc := 5) (as := [.int l1]) (by decide +kernel) F_Land_hasTown (in_t3 (i := 47) rfl rfl) (hF.s (j := 1) rfl) rfl (by decide) rfl rfl (Nat.le_of_ble_eq_true rfl) (Nat.lt_succ_self _) ⟨Nat.zero_le _, Nat.zero_le _⟩ (KC_B (Con.mono h ?_))
  intro o M1 ⟨r1, e9, hF1, h⟩
  refine ⟨r1, e9, ?_⟩
  refine ey_ifeqB (pc := 8) (off := 19) (tgt := 27) (by decide +kernel) (by decide) (fun hc => ?_) (fun hc => ?_)
  · replace h := h.1 hc
    refine ex_ldc2 (pc := 27) (v := -4611686018427387904) (by decide +kernel) (in_t3 (i := 106) rfl rfl) ?_
    exact ex_lreturn (pc := 30) (by decide +kernel) rfl h
  · replace h := h.2 hc
    refine ex_aload_n (pc := 11) (k := 0) (by decide +kernel) rfl ?_
    refine ex_getR (pc := 12) (a := 1) (by decide +kernel) lf_MD_10 (hF1.s (j := 0) rfl) (hF1.r (j := 0) (k := 0) rfl rfl) ?_
    refine ex_iload_n (pc := 15) (k := 2) (by decide +kernel) rfl ?_
    refine ex_callV (pc := 16) (as := [.int l2]) (by decide +kernel) F_Land_hasTown (in_t3 (i := 47) rfl rfl) (hF1.s (j := 1) rfl) rfl (by decide) rfl rfl (Nat.le_of_ble_eq_true rfl) (Nat.lt_succ_self _) ⟨Nat.zero_le _, Nat.zero_le _⟩ (KC_B (Con.mono h ?_))
    intro o M2 ⟨r2, e9, hF2, h⟩
    refine ⟨r2, e9, ?_⟩
    refine ey_ifeqB (pc := 19) (off := 8) (tgt := 27) (by decide +kernel) (by decide) (fun hc => ?_) (fun hc => ?_)
    · replace h := h.1 hc
      refine ex_ldc2 (pc := 27) (v := -4611686018427387904) (by decide +kernel) (in_t3 (i := 106) rfl rfl) ?_
      exact ex_lreturn (pc := 30) (by decide +kernel) rfl h
    · replace h := h.2 hc
      refine ex_iload_n (pc := 22) (k := 1) (by decide +kernel) rfl ?_
      refine ex_iload_n (pc := 23) (k := 2) (by decide +kernel) rfl ?_
      refine ex_icmp_ne (pc := 24) (off := 7) (tgt := 31) (by decide +kernel) (by decide) (fun hc => ?_) (fun hc => ?_)
      · replace h := h.1 hc
        refine ex_aload_n (pc := 31) (k := 0) (by decide +kernel) rfl ?_
        refine ex_getR (pc := 32) (a := 46) (by decide +kernel) lf_MD_35 (hF2.s (j := 0) rfl) (hF2.r (j := 0) (k := 4) rfl rfl) ?_
        refine ex_iload_n (pc := 35) (k := 1) (by decide +kernel) rfl ?_
        refine ex_iload_n (pc := 36) (k := 2) (by decide +kernel) rfl ?_
        refine ex_aload_n (pc := 37) (k := 0) (by decide +kernel) rfl ?_
        refine ex_getR (pc := 38) (a := 1) (by decide +kernel) lf_MD_10 (hF2.s (j := 0) rfl) (hF2.r (j := 0) (k := 0) rfl rfl) ?_
        refine ey_getI (pc := 41) (v := mi M2 1 9) (by decide +kernel) lf_MD_123 (hF2.s (j := 1) rfl) rfl ?_
        refine ex_callV (pc := 44) (as := [.int l1, .int l2, .int (mi M2 1 9)]) (by decide +kernel) F_Law_nearSays (in_t3 (i := 107) rfl rfl) (hF2.s (j := 46) rfl) rfl (by decide) rfl rfl (Nat.le_of_ble_eq_true rfl) (Nat.lt_succ_self _) ⟨Nat.zero_le _, Nat.zero_le _⟩ (KC_I (Con.mono h ?_))
        intro o M3 ⟨r3, e9, hF3, h⟩
        refine ⟨r3, e9, ?_⟩
        refine ex_i2l (pc := 47) (by decide +kernel) ?_
        exact ex_lreturn (pc := 48) (by decide +kernel) rfl h
      · replace h := h.2 hc
        refine ex_ldc2 (pc := 27) (v := -4611686018427387904) (by decide +kernel) (in_t3 (i := 106) rfl rfl) ?_
        exact ex_lreturn (pc := 30) (by decide +kernel) rfl h
theorem k_MD_worthOf_0 {d bc bs : Nat} {l1 : Int32} {l2 : Int32} {l3 : Int32} {l4 : Int32} {M : Mem} {Φ : Option Value → Mem → Prop} (hF : Fx M) (h : Con d m_Land_hasTown 0 0 [.ref 1, .int l1] M (PB fun r1 M1 => Fx M1 ∧ (r1 = false → Φ (some (.long (-4611686018427387904))) M1) ∧ (r1 = true → (l2 < 0 → Φ (some (.long (-4611686018427387904))) M1) ∧ (¬ l2 < 0 → (l2 < (mi M1 1 9) → (l3 < 0 → Φ (some (.long (-4611686018427387904))) M1) ∧ (¬ l3 < 0 → ((nI 99) < l3 → Φ (some (.long (-4611686018427387904))) M1) ∧ (¬ (nI 99) < l3 → (l4 < 0 → Φ (some (.long (-4611686018427387904))) M1) ∧ (¬ l4 < 0 → (l4 ≤ (nI 6) → Con d m_Law_worthOfDay 0 0 [.ref 46, .int l1, .int l2, .int l3, .int l4] M1 (PI fun r2 M2 => Fx M2 ∧ Φ (some (.long (Int32.toInt64 r2))) M2)) ∧ (¬ l4 ≤ (nI 6) → Φ (some (.long (-4611686018427387904))) M1))))) ∧ (¬ l2 < (mi M1 1 9) → Φ (some (.long (-4611686018427387904))) M1))))) : Ex (d + 1) m_MD_worthOf bc bs 0 [some (.ref 0), some (.int l1), some (.int l2), some (.int l3), some (.int l4)] [] M Φ := by
  refine ex_aload_n (pc := 0) (k := 0) (by decide +kernel) rfl ?_
  refine ex_getR (pc := 1) (a := 1) (by decide +kernel) lf_MD_10 (hF.s (j := 0) rfl) (hF.r (j := 0) (k := 0) rfl rfl) ?_
  refine ex_iload_n (pc := 4) (k := 1) (by decide +kernel) rfl ?_
  refine ex_callV (pc := 5) (as := [.int l1]) (by decide +kernel) F_Land_hasTown (in_t3 (i := 47) rfl rfl) (hF.s (j := 1) rfl) rfl (by decide) rfl rfl (Nat.le_of_ble_eq_true rfl) (Nat.lt_succ_self _) ⟨Nat.zero_le _, Nat.zero_le _⟩ (KC_B (Con.mono h ?_))
  intro o M1 ⟨r1, e9, hF1, h⟩
  refine ⟨r1, e9, ?_⟩
  refine ey_ifeqB (pc := 8) (off := 18) (tgt := 26) (by decide +kernel) (by decide) (fun hc => ?_) (fun hc => ?_)
  · replace h := h.1 hc
    refine ex_ldc2 (pc := 26) (v := -4611686018427387904) (by decide +kernel) (in_t3 (i := 106) rfl rfl) ?_
    exact ex_lreturn (pc := 29) (by decide +kernel) rfl h
  · replace h := h.2 hc
    refine ex_iload_n (pc := 11) (k := 2) (by decide +kernel) rfl ?_
    refine ex_if_lt (pc := 12) (off := 14) (tgt := 26) (by decide +kernel) (by decide) (fun hc => ?_) (fun hc => ?_)
    · replace h := h.1 hc
      refine ex_ldc2 (pc := 26) (v := -4611686018427387904) (by decide +kernel) (in_t3 (i := 106) rfl rfl) ?_
      exact ex_lreturn (pc := 29) (by decide +kernel) rfl h
    · replace h := h.2 hc
      refine ex_iload_n (pc := 15) (k := 2) (by decide +kernel) rfl ?_
      refine ex_aload_n (pc := 16) (k := 0) (by decide +kernel) rfl ?_
      refine ex_getR (pc := 17) (a := 1) (by decide +kernel) lf_MD_10 (hF1.s (j := 0) rfl) (hF1.r (j := 0) (k := 0) rfl rfl) ?_
      refine ey_getI (pc := 20) (v := mi M1 1 9) (by decide +kernel) lf_MD_123 (hF1.s (j := 1) rfl) rfl ?_
      refine ex_icmp_lt (pc := 23) (off := 7) (tgt := 30) (by decide +kernel) (by decide) (fun hc => ?_) (fun hc => ?_)
      · replace h := h.1 hc
        refine ex_iload_n (pc := 30) (k := 3) (by decide +kernel) rfl ?_
        refine ex_if_lt (pc := 31) (off := 21) (tgt := 52) (by decide +kernel) (by decide) (fun hc => ?_) (fun hc => ?_)
        · replace h := h.1 hc
          refine ex_ldc2 (pc := 52) (v := -4611686018427387904) (by decide +kernel) (in_t3 (i := 106) rfl rfl) ?_
          exact ex_lreturn (pc := 55) (by decide +kernel) rfl h
        · replace h := h.2 hc
          refine ex_iload_n (pc := 34) (k := 3) (by decide +kernel) rfl ?_
          refine ex_bipush (pc := 35) (k := 99) (v := nI 99) (by decide +kernel) (by decide) ?_
          refine ex_icmp_gt (pc := 37) (off := 15) (tgt := 52) (by decide +kernel) (by decide) (fun hc => ?_) (fun hc => ?_)
          · replace h := h.1 hc
            refine ex_ldc2 (pc := 52) (v := -4611686018427387904) (by decide +kernel) (in_t3 (i := 106) rfl rfl) ?_
            exact ex_lreturn (pc := 55) (by decide +kernel) rfl h
          · replace h := h.2 hc
            refine ex_iload (pc := 40) (k := 4) (by decide +kernel) rfl ?_
            refine ex_if_lt (pc := 42) (off := 10) (tgt := 52) (by decide +kernel) (by decide) (fun hc => ?_) (fun hc => ?_)
            · replace h := h.1 hc
              refine ex_ldc2 (pc := 52) (v := -4611686018427387904) (by decide +kernel) (in_t3 (i := 106) rfl rfl) ?_
              exact ex_lreturn (pc := 55) (by decide +kernel) rfl h
            · replace h := h.2 hc
              refine ex_iload (pc := 45) (k := 4) (by decide +kernel) rfl ?_
              refine ex_bipush (pc := 47) (k := 6) (v := nI 6) (by decide +kernel) (by decide) ?_
              refine ex_icmp_le (pc := 49) (off := 7) (tgt := 56) (by decide +kernel) (by decide) (fun hc => ?_) (fun hc => ?_)
              · replace h := h.1 hc
                refine ex_aload_n (pc := 56) (k := 0) (by decide +kernel) rfl ?_
                refine ex_getR (pc := 57) (a := 46) (by decide +kernel) lf_MD_35 (hF1.s (j := 0) rfl) (hF1.r (j := 0) (k := 4) rfl rfl) ?_
                refine ex_iload_n (pc := 60) (k := 1) (by decide +kernel) rfl ?_
                refine ex_iload_n (pc := 61) (k := 2) (by decide +kernel) rfl ?_
                refine ex_iload_n (pc := 62) (k := 3) (by decide +kernel) rfl ?_
                refine ex_iload (pc := 63) (k := 4) (by decide +kernel) rfl ?_
                refine ex_callV (pc := 65) (as := [.int l1, .int l2, .int l3, .int l4]) (by decide +kernel) F_Law_worthOfDay (in_t3 (i := 130) rfl rfl) (hF1.s (j := 46) rfl) rfl (by decide) rfl rfl (Nat.le_of_ble_eq_true rfl) (Nat.lt_succ_self _) ⟨Nat.zero_le _, Nat.zero_le _⟩ (KC_I (Con.mono h ?_))
                intro o M2 ⟨r2, e9, hF2, h⟩
                refine ⟨r2, e9, ?_⟩
                refine ex_i2l (pc := 68) (by decide +kernel) ?_
                exact ex_lreturn (pc := 69) (by decide +kernel) rfl h
              · replace h := h.2 hc
                refine ex_ldc2 (pc := 52) (v := -4611686018427387904) (by decide +kernel) (in_t3 (i := 106) rfl rfl) ?_
                exact ex_lreturn (pc := 55) (by decide +kernel) rfl h
      · replace h := h.2 hc
        refine ex_ldc2 (pc := 26) (v := -4611686018427387904) (by decide +kernel) (in_t3 (i := 106) rfl rfl) ?_
        exact ex_lreturn (pc := 29) (by decide +kernel) rfl h
theorem k_MD_giving_0 {d bc bs : Nat} {l1 : Int32} {l2 : Int32} {M : Mem} {Φ : Option Value → Mem → Prop} (hF : Fx M) (h : Con d m_MD_sheetAt 0 0 [.ref 0, .int l2] M (PR fun r1 M1 => Fx M1 ∧ (r1 = none → (l1 < 0 → Φ (some (.int (-2))) M1) ∧ (¬ l1 < 0 → ((nI 6) ≤ l1 → Φ (some (.int (-2))) M1) ∧ (¬ (nI 6) ≤ l1 → Φ (some (.int (-2))) M1))) ∧ (∀ a2 : Nat, r1 = some a2 → (l1 < 0 → Φ (some (.int (-2))) M1) ∧ (¬ l1 < 0 → ((nI 6) ≤ l1 → Φ (some (.int (-2))) M1) ∧ (¬ (nI 6) ≤ l1 → (sh M1)[a2]? = some (8, 3) ∧ Con d m_Sheet_isMissing 0 0 [.ref a2] M1 (PB fun r3 M2 => Fx M2 ∧ (r3 = false → (sh M2)[a2]? = some (8, 3) ∧ (¬ (mi M2 a2 2) = (mi M2 1 8) → Φ (some (.int (-2))) M2) ∧ ((mi M2 a2 2) = (mi M2 1 8) → Con d m_MD_mayTell 0 0 [.ref 0, .int l1, .ref a2] M2 (PB fun r4 M3 => Fx M3 ∧ (r4 = true → ((mi M3 0 6) < (nI 12) → (1 ≤ bc ∧ 2 ≤ bs) ∧ (sh M3).length < 1048576 ∧ (sh (nw M3 3 2))[a2]? = some (8, 3) ∧ ∃ a5 : Nat, mr (nw M3 3 2) a2 0 = some a5 ∧ (1 ≤ bc - 1 ∧ 40 ≤ bs - 2) ∧ Con d m_Arrays_copyOf 1 40 [.ref a5, .int (mi (nw M3 3 2) 1 8)] (nw M3 3 2) (PR fun r6 M4 => Fx M4 ∧ (r6 = none → Con d m_Giving_init 0 0 [.ref ((sh M3).length), .int l1, .null] M4 (PV fun M5 => Fx M5 ∧ vp_in (mi M3 0 6) 12 ∧ (sh M5)[((sh M3).length)]? = some (3, 2) ∧ Fx (wr M5 50 ((mi M3 0 6).toNatClampNeg) (some ((sh M3).length))) ∧ Φ (some (.int (((mi M5 0 6) + (nI 1)) - (nI 1)))) (wi (wr M5 50 ((mi M3 0 6).toNatClampNeg) (some ((sh M3).length))) 0 6 ((mi M5 0 6) + (nI 1))))) ∧ (∀ a7 : Nat, r6 = some a7 → Con d m_Giving_init 0 0 [.ref ((sh M3).length), .int l1, .ref a7] M4 (PV fun M6 => Fx M6 ∧ vp_in (mi M3 0 6) 12 ∧ (sh M6)[((sh M3).length)]? = some (3, 2) ∧ Fx (wr M6 50 ((mi M3 0 6).toNatClampNeg) (some ((sh M3).length))) ∧ Φ (some (.int (((mi M6 0 6) + (nI 1)) - (nI 1)))) (wi (wr M6 50 ((mi M3 0 6).toNatClampNeg) (some ((sh M3).length))) 0 6 ((mi M6 0 6) + (nI 1))))))) ∧ (¬ (mi M3 0 6) < (nI 12) → Φ (some (.int (-4))) M3)) ∧ (r4 = false → Φ (some (.int (-2))) M3)))) ∧ (r3 = true → Φ (some (.int (-11))) M2))))))) : Ex (d + 1) m_MD_giving bc bs 0 [some (.ref 0), some (.int l1), some (.int l2), none] [] M Φ := by
  refine ex_aload_n (pc := 0) (k := 0) (by decide +kernel) rfl ?_
  refine ex_iload_n (pc := 1) (k := 2) (by decide +kernel) rfl ?_
  refine ex_callV (pc := 2) (as := [.int l2]) (by decide +kernel) F_MD_sheetAt (in_t3 (i := 142) rfl rfl) (hF.s (j := 0) rfl) rfl (by decide) rfl rfl (Nat.le_of_ble_eq_true rfl) (Nat.lt_succ_self _) ⟨Nat.zero_le _, Nat.zero_le _⟩ (KC_R (Con.mono h ?_))
  intro o M1 ⟨r1, e9, hF1, h⟩
  refine ⟨r1, e9, ?_⟩
  cases r1 with
  | none =>
    replace h := h.1 rfl
    show Ex _ _ _ _ _ _ (Value.null :: _) _ _
    refine ex_astore_nN (pc := 5) (k := 3) (lo2 := [some (.ref 0), some (.int l1), some (.int l2), some (.null)]) (by decide +kernel) (by decide) rfl ?_
    refine ex_iload_n (pc := 6) (k := 1) (by decide +kernel) rfl ?_
    refine ex_if_lt (pc := 7) (off := 13) (tgt := 20) (by decide +kernel) (by decide) (fun hc => ?_) (fun hc => ?_)
    · replace h := h.1 hc
      refine ex_bipush (pc := 20) (k := -2) (v := -2) (by decide +kernel) (by decide) ?_
      exact ex_ireturn (pc := 22) (by decide +kernel) rfl rfl h
    · replace h := h.2 hc
      refine ex_iload_n (pc := 10) (k := 1) (by decide +kernel) rfl ?_
      refine ex_bipush (pc := 11) (k := 6) (v := nI 6) (by decide +kernel) (by decide) ?_
      refine ex_icmp_ge (pc := 13) (off := 7) (tgt := 20) (by decide +kernel) (by decide) (fun hc => ?_) (fun hc => ?_)
      · replace h := h.1 hc
        refine ex_bipush (pc := 20) (k := -2) (v := -2) (by decide +kernel) (by decide) ?_
        exact ex_ireturn (pc := 22) (by decide +kernel) rfl rfl h
      · replace h := h.2 hc
        refine ex_aload_nN (pc := 16) (k := 3) (by decide +kernel) rfl ?_
        refine ex_ifnonnullN (pc := 17) (off := 6) (by decide +kernel) ?_
        refine ex_bipush (pc := 20) (k := -2) (v := -2) (by decide +kernel) (by decide) ?_
        exact ex_ireturn (pc := 22) (by decide +kernel) rfl rfl h
  | some a2 =>
    replace h := h.2 a2 rfl
    show Ex _ _ _ _ _ _ (Value.ref a2 :: _) _ _
    refine ex_astore_n (pc := 5) (k := 3) (lo2 := [some (.ref 0), some (.int l1), some (.int l2), some (.ref a2)]) (by decide +kernel) (by decide) rfl ?_
    refine ex_iload_n (pc := 6) (k := 1) (by decide +kernel) rfl ?_
    refine ex_if_lt (pc := 7) (off := 13) (tgt := 20) (by decide +kernel) (by decide) (fun hc => ?_) (fun hc => ?_)
    · replace h := h.1 hc
      refine ex_bipush (pc := 20) (k := -2) (v := -2) (by decide +kernel) (by decide) ?_
      exact ex_ireturn (pc := 22) (by decide +kernel) rfl rfl h
    · replace h := h.2 hc
      refine ex_iload_n (pc := 10) (k := 1) (by decide +kernel) rfl ?_
      refine ex_bipush (pc := 11) (k := 6) (v := nI 6) (by decide +kernel) (by decide) ?_
      refine ex_icmp_ge (pc := 13) (off := 7) (tgt := 20) (by decide +kernel) (by decide) (fun hc => ?_) (fun hc => ?_)
      · replace h := h.1 hc
        refine ex_bipush (pc := 20) (k := -2) (v := -2) (by decide +kernel) (by decide) ?_
        exact ex_ireturn (pc := 22) (by decide +kernel) rfl rfl h
      · replace h := h.2 hc
        refine ex_aload_n (pc := 16) (k := 3) (by decide +kernel) rfl ?_
        refine ex_ifnonnull (pc := 17) (off := 6) (tgt := 23) (by decide +kernel) (by decide) ?_
        refine ex_aload_n (pc := 23) (k := 3) (by decide +kernel) rfl ?_
        obtain ⟨g1, h⟩ := h
        refine ex_callV (pc := 24) (as := []) (by decide +kernel) F_Sheet_isMissing (in_t3 (i := 146) rfl rfl) g1 rfl (by decide) rfl rfl (Nat.le_of_ble_eq_true rfl) (Nat.lt_succ_self _) ⟨Nat.zero_le _, Nat.zero_le _⟩ (KC_B (Con.mono h ?_))
        intro o M2 ⟨r3, e9, hF2, h⟩
        refine ⟨r3, e9, ?_⟩
        refine ey_ifeqB (pc := 27) (off := 6) (tgt := 33) (by decide +kernel) (by decide) (fun hc => ?_) (fun hc => ?_)
        · replace h := h.1 hc
          refine ex_aload_n (pc := 33) (k := 3) (by decide +kernel) rfl ?_
          obtain ⟨g2, h⟩ := h
          refine ey_getI (pc := 34) (v := mi M2 a2 2) (by decide +kernel) lf_MD_182 g2 rfl ?_
          refine ex_aload_n (pc := 37) (k := 0) (by decide +kernel) rfl ?_
          refine ex_getR (pc := 38) (a := 1) (by decide +kernel) lf_MD_10 (hF2.s (j := 0) rfl) (hF2.r (j := 0) (k := 0) rfl rfl) ?_
          refine ey_getI (pc := 41) (v := mi M2 1 8) (by decide +kernel) lf_MD_109 (hF2.s (j := 1) rfl) rfl ?_
          refine ex_icmp_ne (pc := 44) (off := 12) (tgt := 56) (by decide +kernel) (by decide) (fun hc => ?_) (fun hc => ?_)
          · replace h := h.1 hc
            refine ex_bipush (pc := 56) (k := -2) (v := -2) (by decide +kernel) (by decide) ?_
            exact ex_ireturn (pc := 58) (by decide +kernel) rfl rfl h
          · replace h := h.2 hc
            refine ex_aload_n (pc := 47) (k := 0) (by decide +kernel) rfl ?_
            refine ex_iload_n (pc := 48) (k := 1) (by decide +kernel) rfl ?_
            refine ex_aload_n (pc := 49) (k := 3) (by decide +kernel) rfl ?_
            refine ex_callV (pc := 50) (as := [.int l1, .ref a2]) (by decide +kernel) F_MD_mayTell (in_t3 (i := 150) rfl rfl) (hF2.s (j := 0) rfl) rfl (by decide) rfl rfl (Nat.le_of_ble_eq_true rfl) (Nat.lt_succ_self _) ⟨Nat.zero_le _, Nat.zero_le _⟩ (KC_B (Con.mono h ?_))
            intro o M3 ⟨r4, e9, hF3, h⟩
            refine ⟨r4, e9, ?_⟩
            refine ey_ifneB (pc := 53) (off := 6) (tgt := 59) (by decide +kernel) (by decide) (fun hc => ?_) (fun hc => ?_)
            · replace h := h.1 hc
              refine ex_aload_n (pc := 59) (k := 0) (by decide +kernel) rfl ?_
              refine ey_getI (pc := 60) (v := mi M3 0 6) (by decide +kernel) lf_MD_45 (hF3.s (j := 0) rfl) rfl ?_
              refine ex_bipush (pc := 63) (k := 12) (v := nI 12) (by decide +kernel) (by decide) ?_
              refine ex_icmp_lt (pc := 65) (off := 6) (tgt := 71) (by decide +kernel) (by decide) (fun hc => ?_) (fun hc => ?_)
              · replace h := h.1 hc
                refine ex_aload_n (pc := 71) (k := 0) (by decide +kernel) rfl ?_
                refine ex_getR (pc := 72) (a := 50) (by decide +kernel) lf_MD_41 (hF3.s (j := 0) rfl) (hF3.r (j := 0) (k := 5) rfl rfl) ?_
                refine ex_aload_n (pc := 75) (k := 0) (by decide +kernel) rfl ?_
                refine ey_getI (pc := 76) (v := mi M3 0 6) (by decide +kernel) lf_MD_45 (hF3.s (j := 0) rfl) rfl ?_
                obtain ⟨g3, g4, h⟩ := h
                refine ex_new (pc := 79) (by decide +kernel) (in_t1 (i := 164) rfl rfl) (in_t3 (i := 160) rfl rfl) (in_t1 (i := 19) rfl rfl) cf_Giving udv_Giving g3 g4 ?_
                refine ex_dup (pc := 82) (by decide +kernel) rfl ?_
                refine ex_iload_n (pc := 83) (k := 1) (by decide +kernel) rfl ?_
                refine ex_aload_n (pc := 84) (k := 3) (by decide +kernel) rfl ?_
                obtain ⟨g5, h⟩ := h
                obtain ⟨a5, g6, h⟩ := h
                refine ex_getR (pc := 85) (a := a5) (by decide +kernel) lf_MD_187 g5 g6 ?_
                refine ex_aload_n (pc := 88) (k := 0) (by decide +kernel) rfl ?_
                refine ex_getR (pc := 89) (a := 1) (by decide +kernel) lf_MD_10 ((Fx.fnw (M := M3) hF3 3 2).s (j := 0) rfl) ((Fx.fnw (M := M3) hF3 3 2).r (j := 0) (k := 0) rfl rfl) ?_
                refine ey_getI (pc := 92) (v := mi (nw M3 3 2) 1 8) (by decide +kernel) lf_MD_109 ((Fx.fnw (M := M3) hF3 3 2).s (j := 1) rfl) rfl ?_
                obtain ⟨g7, h⟩ := h
                refine ex_callS (pc := 95) (as := [.ref a5, .int (mi (nw M3 3 2) 1 8)]) (by decide +kernel) F_Arrays_copyOf (in_t3 (i := 161) rfl rfl) rfl rfl (Nat.le_of_ble_eq_true rfl) (Nat.lt_succ_self _) g7 (KC_R (Con.mono h ?_))
                intro o M4 ⟨r6, e9, hF4, h⟩
                refine ⟨r6, e9, ?_⟩
                cases r6 with
                | none =>
                  replace h := h.1 rfl
                  show Ex _ _ _ _ _ _ (Value.null :: _) _ _
                  refine ex_callI (pc := 98) (as := [.int l1, .null]) (by decide +kernel) F_Giving_init (in_t3 (i := 164) rfl rfl) rfl rfl rfl (Nat.le_of_ble_eq_true rfl) (Nat.lt_succ_self _) ⟨Nat.zero_le _, Nat.zero_le _⟩ (KC_V (Con.mono h ?_))
                  intro o M5 ⟨e9, hF5, h⟩
                  refine ⟨e9, ?_⟩
                  obtain ⟨g8, h⟩ := h
                  obtain ⟨g9, hF9, h⟩ := h
                  refine ex_aast (pc := 101) (by decide +kernel) (hF5.s (j := 50) rfl) g8 g9 (by decide) ?_
                  refine ex_aload_n (pc := 102) (k := 0) (by decide +kernel) rfl ?_
                  refine ex_dup (pc := 103) (by decide +kernel) rfl ?_
                  refine ey_getI (pc := 104) (v := mi M5 0 6) (by decide +kernel) lf_MD_45 (hF9.s (j := 0) rfl) rfl ?_
                  refine ex_iconst (pc := 107) (k := 1) (v := nI 1) (by decide +kernel) (by decide) ?_
                  refine ex_iadd (pc := 108) (by decide +kernel) ?_
                  refine ex_putI (pc := 109) (index := 45) (ci := 0) (k := 6) (fin := false) (by decide +kernel) ⟨_, _, _, _, cf_MD, by decide, in_t3 (i := 2) rfl rfl, rfl, (fun h => by cases h), rfl, rfl⟩ rfl (fun h => by cases h) (hF9.s (j := 0) rfl) ?_
                  refine ex_aload_n (pc := 112) (k := 0) (by decide +kernel) rfl ?_
                  refine ey_getI (pc := 113) (v := (mi M5 0 6) + (nI 1)) (by decide +kernel) lf_MD_45 (hF9.s (j := 0) rfl) rfl ?_
                  refine ex_iconst (pc := 116) (k := 1) (v := nI 1) (by decide +kernel) (by decide) ?_
                  refine ex_isub (pc := 117) (by decide +kernel) ?_
                  exact ex_ireturn (pc := 118) (by decide +kernel) rfl rfl h
                | some a7 =>
                  replace h := h.2 a7 rfl
                  show Ex _ _ _ _ _ _ (Value.ref a7 :: _) _ _
                  refine ex_callI (pc := 98) (as := [.int l1, .ref a7]) (by decide +kernel) F_Giving_init (in_t3 (i := 164) rfl rfl) rfl rfl rfl (Nat.le_of_ble_eq_true rfl) (Nat.lt_succ_self _) ⟨Nat.zero_le _, Nat.zero_le _⟩ (KC_V (Con.mono h ?_))
                  intro o M6 ⟨e9, hF6, h⟩
                  refine ⟨e9, ?_⟩
                  obtain ⟨g10, h⟩ := h
                  obtain ⟨g11, hF9, h⟩ := h
                  refine ex_aast (pc := 101) (by decide +kernel) (hF6.s (j := 50) rfl) g10 g11 (by decide) ?_
                  refine ex_aload_n (pc := 102) (k := 0) (by decide +kernel) rfl ?_
                  refine ex_dup (pc := 103) (by decide +kernel) rfl ?_
                  refine ey_getI (pc := 104) (v := mi M6 0 6) (by decide +kernel) lf_MD_45 (hF9.s (j := 0) rfl) rfl ?_
                  refine ex_iconst (pc := 107) (k := 1) (v := nI 1) (by decide +kernel) (by decide) ?_
                  refine ex_iadd (pc := 108) (by decide +kernel) ?_
                  refine ex_putI (pc := 109) (index := 45) (ci := 0) (k := 6) (fin := false) (by decide +kernel) ⟨_, _, _, _, cf_MD, by decide, in_t3 (i := 2) rfl rfl, rfl, (fun h => by cases h), rfl, rfl⟩ rfl (fun h => by cases h) (hF9.s (j := 0) rfl) ?_
                  refine ex_aload_n (pc := 112) (k := 0) (by decide +kernel) rfl ?_
                  refine ey_getI (pc := 113) (v := (mi M6 0 6) + (nI 1)) (by decide +kernel) lf_MD_45 (hF9.s (j := 0) rfl) rfl ?_
                  refine ex_iconst (pc := 116) (k := 1) (v := nI 1) (by decide +kernel) (by decide) ?_
                  refine ex_isub (pc := 117) (by decide +kernel) ?_
                  exact ex_ireturn (pc := 118) (by decide +kernel) rfl rfl h
              · replace h := h.2 hc
                refine ex_bipush (pc := 68) (k := -4) (v := -4) (by decide +kernel) (by decide) ?_
                exact ex_ireturn (pc := 70) (by decide +kernel) rfl rfl h
            · replace h := h.2 hc
              refine ex_bipush (pc := 56) (k := -2) (v := -2) (by decide +kernel) (by decide) ?_
              exact ex_ireturn (pc := 58) (by decide +kernel) rfl rfl h
        · replace h := h.2 hc
          refine ex_bipush (pc := 30) (k := -11) (v := -11) (by decide +kernel) (by decide) ?_
          exact ex_ireturn (pc := 32) (by decide +kernel) rfl rfl h
theorem k_MD_mayTell_0 {d bc bs : Nat} {l1 : Int32} {l2 : Nat} {M : Mem} {Φ : Option Value → Mem → Prop} (hF : Fx M) (h : Ex (d + 1) m_MD_mayTell bc bs 2 [some (.ref 0), some (.int l1), some (.ref l2), some (.int (nI 0))] [] M Φ) : Ex (d + 1) m_MD_mayTell bc bs 0 [some (.ref 0), some (.int l1), some (.ref l2), none] [] M Φ := by
  refine ex_iconst (pc := 0) (k := 0) (v := nI 0) (by decide +kernel) (by decide) ?_
  refine ex_istore_n (pc := 1) (k := 3) (lo2 := [some (.ref 0), some (.int l1), some (.ref l2), some (.int (nI 0))]) (by decide +kernel) (by decide) rfl ?_
  exact h
theorem k_MD_mayTell_2 {d bc bs : Nat} {l1 : Int32} {l2 : Nat} {l3 : Int32} {M : Mem} {Φ : Option Value → Mem → Prop} (hF : Fx M) (h : (sh M)[l2]? = some (8, 3) ∧ ((mi M l2 2) ≤ l3 → Φ (some (.int (b2i true))) M) ∧ (¬ (mi M l2 2) ≤ l3 → (sh M)[l2]? = some (8, 3) ∧ ∃ a1 : Nat, mr M l2 0 = some a1 ∧ ∃ N2 : Nat, (sh M)[a1]? = some (100, N2) ∧ vp_in l3 N2 ∧ Con d m_Giving_mayTell 0 0 [.int l1, .int (mi M a1 l3.toNatClampNeg), .int (mi M 1 9)] M (PB fun r3 M1 => Fx M1 ∧ (r3 = true → Ex (d + 1) m_MD_mayTell bc bs 2 [some (.ref 0), some (.int l1), some (.ref l2), some (.int (l3 + nI 1))] [] M1 Φ) ∧ (r3 = false → Φ (some (.int (b2i false))) M1)))) : Ex (d + 1) m_MD_mayTell bc bs 2 [some (.ref 0), some (.int l1), some (.ref l2), some (.int l3)] [] M Φ := by
  refine ex_iload_n (pc := 2) (k := 3) (by decide +kernel) rfl ?_
  refine ex_aload_n (pc := 3) (k := 2) (by decide +kernel) rfl ?_
  obtain ⟨g1, h⟩ := h
  refine ey_getI (pc := 4) (v := mi M l2 2) (by decide +kernel) lf_MD_182 g1 rfl ?_
  refine ex_icmp_ge (pc := 7) (off := 31) (tgt := 38) (by decide +kernel) (by decide) (fun hc => ?_) (fun hc => ?_)
  · replace h := h.1 hc
    refine ex_iconst (pc := 38) (k := 1) (v := nI 1) (by decide +kernel) (by decide) ?_
    exact ex_ireturn (pc := 39) (v := b2i true) (by decide +kernel) rfl (b2i_n _) h
  · replace h := h.2 hc
    refine ex_iload_n (pc := 10) (k := 1) (by decide +kernel) rfl ?_
    refine ex_aload_n (pc := 11) (k := 2) (by decide +kernel) rfl ?_
    obtain ⟨g2, h⟩ := h
    obtain ⟨a1, g3, h⟩ := h
    refine ex_getR (pc := 12) (a := a1) (by decide +kernel) lf_MD_187 g2 g3 ?_
    refine ex_iload_n (pc := 15) (k := 3) (by decide +kernel) rfl ?_
    obtain ⟨N2, g4, h⟩ := h
    obtain ⟨g5, h⟩ := h
    refine ey_iald (pc := 16) (v := mi M a1 l3.toNatClampNeg) (by decide +kernel) g4 g5 rfl rfl ?_
    refine ex_aload_n (pc := 17) (k := 0) (by decide +kernel) rfl ?_
    refine ex_getR (pc := 18) (a := 1) (by decide +kernel) lf_MD_10 (hF.s (j := 0) rfl) (hF.r (j := 0) (k := 0) rfl rfl) ?_
    refine ey_getI (pc := 21) (v := mi M 1 9) (by decide +kernel) lf_MD_123 (hF.s (j := 1) rfl) rfl ?_
    refine ex_callS (pc := 24) (as := [.int l1, .int (mi M a1 l3.toNatClampNeg), .int (mi M 1 9)]) (by decide +kernel) F_Giving_mayTell (in_t3 (i := 154) rfl rfl) rfl rfl (Nat.le_of_ble_eq_true rfl) (Nat.lt_succ_self _) ⟨Nat.zero_le _, Nat.zero_le _⟩ (KC_B (Con.mono h ?_))
    intro o M1 ⟨r3, e9, hF1, h⟩
    refine ⟨r3, e9, ?_⟩
    refine ey_ifneB (pc := 27) (off := 5) (tgt := 32) (by decide +kernel) (by decide) (fun hc => ?_) (fun hc => ?_)
    · replace h := h.1 hc
      refine ex_iinc (pc := 32) (i := 3) (k := 1) (v := l3 + nI 1) (lo2 := [some (.ref 0), some (.int l1), some (.ref l2), some (.int (l3 + nI 1))]) (by decide +kernel) (by decide) rfl rfl rfl ?_
      refine ex_goto (pc := 35) (off := -33) (tgt := 2) (by decide +kernel) (by decide) ?_
      exact h
    · replace h := h.2 hc
      refine ex_iconst (pc := 30) (k := 0) (v := nI 0) (by decide +kernel) (by decide) ?_
      exact ex_ireturn (pc := 31) (v := b2i false) (by decide +kernel) rfl (b2i_n _) h
theorem k_MD_marketOf_0 {d bc bs : Nat} {l1 : Int32} {l2 : Int32} {l3 : Int32} {M : Mem} {Φ : Option Value → Mem → Prop} (hF : Fx M) (h : Con d m_MD_givingAt 0 0 [.ref 0, .int l1] M (PR fun r1 M1 => Fx M1 ∧ (r1 = none → Φ (some (.int (-5))) M1) ∧ (∀ a2 : Nat, r1 = some a2 → Con d m_Land_hasTown 0 0 [.ref 1, .int l2] M1 (PB fun r3 M2 => Fx M2 ∧ (r3 = false → Φ (some (.int (-5))) M2) ∧ (r3 = true → Con d m_MD_isWeek 0 0 [.int l3] M2 (PB fun r4 M3 => Fx M3 ∧ (r4 = true → (sh M3)[a2]? = some (3, 2) ∧ Con d m_Giving_marketIn 0 0 [.ref a2, .ref 1, .int l2, .int l3] M3 (PI fun r5 M4 => Fx M4 ∧ Φ (some (.int r5)) M4)) ∧ (r4 = false → Φ (some (.int (-5))) M3))))))) : Ex (d + 1) m_MD_marketOf bc bs 0 [some (.ref 0), some (.int l1), some (.int l2), some (.int l3), none] [] M Φ := by
  refine ex_aload_n (pc := 0) (k := 0) (by decide +kernel) rfl ?_
  refine ex_iload_n (pc := 1) (k := 1) (by decide +kernel) rfl ?_
  refine ex_callV (pc := 2) (as := [.int l1]) (by decide +kernel) F_MD_givingAt (in_t3 (i := 181) rfl rfl) (hF.s (j := 0) rfl) rfl (by decide) rfl rfl (Nat.le_of_ble_eq_true rfl) (Nat.lt_succ_self _) ⟨Nat.zero_le _, Nat.zero_le _⟩ (KC_R (Con.mono h ?_))
  intro o M1 ⟨r1, e9, hF1, h⟩
  refine ⟨r1, e9, ?_⟩
  cases r1 with
  | none =>
    replace h := h.1 rfl
    show Ex _ _ _ _ _ _ (Value.null :: _) _ _
    refine ex_astoreN (pc := 5) (k := 4) (lo2 := [some (.ref 0), some (.int l1), some (.int l2), some (.int l3), some (.null)]) (by decide +kernel) (by decide) rfl ?_
    refine ex_aloadN (pc := 7) (k := 4) (by decide +kernel) rfl ?_
    refine ex_ifnullN (pc := 9) (off := 21) (tgt := 30) (by decide +kernel) (by decide) ?_
    refine ex_bipush (pc := 30) (k := -5) (v := -5) (by decide +kernel) (by decide) ?_
    exact ex_ireturn (pc := 32) (by decide +kernel) rfl rfl h
  | some a2 =>
    replace h := h.2 a2 rfl
    show Ex _ _ _ _ _ _ (Value.ref a2 :: _) _ _
    refine ex_astore (pc := 5) (k := 4) (lo2 := [some (.ref 0), some (.int l1), some (.int l2), some (.int l3), some (.ref a2)]) (by decide +kernel) (by decide) rfl ?_
    refine ex_aload (pc := 7) (k := 4) (by decide +kernel) rfl ?_
    refine ex_ifnull (pc := 9) (off := 21) (by decide +kernel) ?_
    refine ex_aload_n (pc := 12) (k := 0) (by decide +kernel) rfl ?_
    refine ex_getR (pc := 13) (a := 1) (by decide +kernel) lf_MD_10 (hF1.s (j := 0) rfl) (hF1.r (j := 0) (k := 0) rfl rfl) ?_
    refine ex_iload_n (pc := 16) (k := 2) (by decide +kernel) rfl ?_
    refine ex_callV (pc := 17) (as := [.int l2]) (by decide +kernel) F_Land_hasTown (in_t3 (i := 47) rfl rfl) (hF1.s (j := 1) rfl) rfl (by decide) rfl rfl (Nat.le_of_ble_eq_true rfl) (Nat.lt_succ_self _) ⟨Nat.zero_le _, Nat.zero_le _⟩ (KC_B (Con.mono h ?_))
    intro o M2 ⟨r3, e9, hF2, h⟩
    refine ⟨r3, e9, ?_⟩
    refine ey_ifeqB (pc := 20) (off := 10) (tgt := 30) (by decide +kernel) (by decide) (fun hc => ?_) (fun hc => ?_)
    · replace h := h.1 hc
      refine ex_bipush (pc := 30) (k := -5) (v := -5) (by decide +kernel) (by decide) ?_
      exact ex_ireturn (pc := 32) (by decide +kernel) rfl rfl h
    · replace h := h.2 hc
      refine ex_iload_n (pc := 23) (k := 3) (by decide +kernel) rfl ?_
      refine ex_callS (pc := 24) (as := [.int l3]) (by decide +kernel) F_MD_isWeek (in_t3 (i := 83) rfl rfl) rfl rfl (Nat.le_of_ble_eq_true rfl) (Nat.lt_succ_self _) ⟨Nat.zero_le _, Nat.zero_le _⟩ (KC_B (Con.mono h ?_))
      intro o M3 ⟨r4, e9, hF3, h⟩
      refine ⟨r4, e9, ?_⟩
      refine ey_ifneB (pc := 27) (off := 6) (tgt := 33) (by decide +kernel) (by decide) (fun hc => ?_) (fun hc => ?_)
      · replace h := h.1 hc
        refine ex_aload (pc := 33) (k := 4) (by decide +kernel) rfl ?_
        refine ex_aload_n (pc := 35) (k := 0) (by decide +kernel) rfl ?_
        refine ex_getR (pc := 36) (a := 1) (by decide +kernel) lf_MD_10 (hF3.s (j := 0) rfl) (hF3.r (j := 0) (k := 0) rfl rfl) ?_
        refine ex_iload_n (pc := 39) (k := 2) (by decide +kernel) rfl ?_
        refine ex_iload_n (pc := 40) (k := 3) (by decide +kernel) rfl ?_
        obtain ⟨g1, h⟩ := h
        refine ex_callV (pc := 41) (as := [.ref 1, .int l2, .int l3]) (by decide +kernel) F_Giving_marketIn (in_t3 (i := 185) rfl rfl) g1 rfl (by decide) rfl rfl (Nat.le_of_ble_eq_true rfl) (Nat.lt_succ_self _) ⟨Nat.zero_le _, Nat.zero_le _⟩ (KC_I (Con.mono h ?_))
        intro o M4 ⟨r5, e9, hF4, h⟩
        refine ⟨r5, e9, ?_⟩
        exact ex_ireturn (pc := 44) (by decide +kernel) rfl rfl h
      · replace h := h.2 hc
        refine ex_bipush (pc := 30) (k := -5) (v := -5) (by decide +kernel) (by decide) ?_
        exact ex_ireturn (pc := 32) (by decide +kernel) rfl rfl h
theorem k_MD_bar_0 {d bc bs : Nat} {l1 : Int32} {l2 : Int32} {M : Mem} {Φ : Option Value → Mem → Prop} (hF : Fx M) (h : Con d m_MD_givingAt 0 0 [.ref 0, .int l1] M (PR fun r1 M1 => Fx M1 ∧ (r1 = none → Φ (some (.int (-5))) M1) ∧ (∀ a2 : Nat, r1 = some a2 → Con d m_MD_isWeek 0 0 [.int l2] M1 (PB fun r3 M2 => Fx M2 ∧ (r3 = true → Con d m_Fair_open 0 0 [.ref 51, .ref a2, .int l2] M2 (PV fun M3 => Fx M3 ∧ Con d m_Fair_firstBar 0 0 [.ref 51] M3 (PI fun r4 M4 => Fx M4 ∧ Φ (some (.int r4)) M4))) ∧ (r3 = false → Φ (some (.int (-5))) M2))))) : Ex (d + 1) m_MD_bar bc bs 0 [some (.ref 0), some (.int l1), some (.int l2), none] [] M Φ := by
  refine ex_aload_n (pc := 0) (k := 0) (by decide +kernel) rfl ?_
  refine ex_iload_n (pc := 1) (k := 1) (by decide +kernel) rfl ?_
  refine ex_callV (pc := 2) (as := [.int l1]) (by decide +kernel) F_MD_givingAt (in_t3 (i := 181) rfl rfl) (hF.s (j := 0) rfl) rfl (by decide) rfl rfl (Nat.le_of_ble_eq_true rfl) (Nat.lt_succ_self _) ⟨Nat.zero_le _, Nat.zero_le _⟩ (KC_R (Con.mono h ?_))
  intro o M1 ⟨r1, e9, hF1, h⟩
  refine ⟨r1, e9, ?_⟩
  cases r1 with
  | none =>
    replace h := h.1 rfl
    show Ex _ _ _ _ _ _ (Value.null :: _) _ _
    refine ex_astore_nN (pc := 5) (k := 3) (lo2 := [some (.ref 0), some (.int l1), some (.int l2), some (.null)]) (by decide +kernel) (by decide) rfl ?_
    refine ex_aload_nN (pc := 6) (k := 3) (by decide +kernel) rfl ?_
    refine ex_ifnullN (pc := 7) (off := 10) (tgt := 17) (by decide +kernel) (by decide) ?_
    refine ex_bipush (pc := 17) (k := -5) (v := -5) (by decide +kernel) (by decide) ?_
    exact ex_ireturn (pc := 19) (by decide +kernel) rfl rfl h
  | some a2 =>
    replace h := h.2 a2 rfl
    show Ex _ _ _ _ _ _ (Value.ref a2 :: _) _ _
    refine ex_astore_n (pc := 5) (k := 3) (lo2 := [some (.ref 0), some (.int l1), some (.int l2), some (.ref a2)]) (by decide +kernel) (by decide) rfl ?_
    refine ex_aload_n (pc := 6) (k := 3) (by decide +kernel) rfl ?_
    refine ex_ifnull (pc := 7) (off := 10) (by decide +kernel) ?_
    refine ex_iload_n (pc := 10) (k := 2) (by decide +kernel) rfl ?_
    refine ex_callS (pc := 11) (as := [.int l2]) (by decide +kernel) F_MD_isWeek (in_t3 (i := 83) rfl rfl) rfl rfl (Nat.le_of_ble_eq_true rfl) (Nat.lt_succ_self _) ⟨Nat.zero_le _, Nat.zero_le _⟩ (KC_B (Con.mono h ?_))
    intro o M2 ⟨r3, e9, hF2, h⟩
    refine ⟨r3, e9, ?_⟩
    refine ey_ifneB (pc := 14) (off := 6) (tgt := 20) (by decide +kernel) (by decide) (fun hc => ?_) (fun hc => ?_)
    · replace h := h.1 hc
      refine ex_aload_n (pc := 20) (k := 0) (by decide +kernel) rfl ?_
      refine ex_getR (pc := 21) (a := 51) (by decide +kernel) lf_MD_54 (hF2.s (j := 0) rfl) (hF2.r (j := 0) (k := 7) rfl rfl) ?_
      refine ex_aload_n (pc := 24) (k := 3) (by decide +kernel) rfl ?_
      refine ex_iload_n (pc := 25) (k := 2) (by decide +kernel) rfl ?_
      refine ex_callV (pc := 26) (as := [.ref a2, .int l2]) (by decide +kernel) F_Fair_open (in_t3 (i := 219) rfl rfl) (hF2.s (j := 51) rfl) rfl (by decide) rfl rfl (Nat.le_of_ble_eq_true rfl) (Nat.lt_succ_self _) ⟨Nat.zero_le _, Nat.zero_le _⟩ (KC_V (Con.mono h ?_))
      intro o M3 ⟨e9, hF3, h⟩
      refine ⟨e9, ?_⟩
      refine ex_aload_n (pc := 29) (k := 0) (by decide +kernel) rfl ?_
      refine ex_getR (pc := 30) (a := 51) (by decide +kernel) lf_MD_54 (hF3.s (j := 0) rfl) (hF3.r (j := 0) (k := 7) rfl rfl) ?_
      refine ex_callV (pc := 33) (as := []) (by decide +kernel) F_Fair_firstBar (in_t3 (i := 224) rfl rfl) (hF3.s (j := 51) rfl) rfl (by decide) rfl rfl (Nat.le_of_ble_eq_true rfl) (Nat.lt_succ_self _) ⟨Nat.zero_le _, Nat.zero_le _⟩ (KC_I (Con.mono h ?_))
      intro o M4 ⟨r4, e9, hF4, h⟩
      refine ⟨r4, e9, ?_⟩
      exact ex_ireturn (pc := 36) (by decide +kernel) rfl rfl h
    · replace h := h.2 hc
      refine ex_bipush (pc := 17) (k := -5) (v := -5) (by decide +kernel) (by decide) ?_
      exact ex_ireturn (pc := 19) (by decide +kernel) rfl rfl h
theorem k_MD_lawful_0 {d bc bs : Nat} {l1 : Int32} {l2 : Int32} {M : Mem} {Φ : Option Value → Mem → Prop} (hF : Fx M) (h : Con d m_MD_givingAt 0 0 [.ref 0, .int l1] M (PR fun r1 M1 => Fx M1 ∧ (r1 = none → Φ (some (.int (-5))) M1) ∧ (∀ a2 : Nat, r1 = some a2 → Con d m_MD_isWeek 0 0 [.int l2] M1 (PB fun r3 M2 => Fx M2 ∧ (r3 = true → Ex (d + 1) m_MD_lawful bc bs 26 [some (.ref 0), some (.int l1), some (.int l2), some (.ref a2), some (.int (nI 0)), some (.int (nI 0))] [] M2 Φ) ∧ (r3 = false → Φ (some (.int (-5))) M2))))) : Ex (d + 1) m_MD_lawful bc bs 0 [some (.ref 0), some (.int l1), some (.int l2), none, none, none] [] M Φ := by
  refine ex_aload_n (pc := 0) (k := 0) (by decide +kernel) rfl ?_
  refine ex_iload_n (pc := 1) (k := 1) (by decide +kernel) rfl ?_
  refine ex_callV (pc := 2) (as := [.int l1]) (by decide +kernel) F_MD_givingAt (in_t3 (i := 181) rfl rfl) (hF.s (j := 0) rfl) rfl (by decide) rfl rfl (Nat.le_of_ble_eq_true rfl) (Nat.lt_succ_self _) ⟨Nat.zero_le _, Nat.zero_le _⟩ (KC_R (Con.mono h ?_))
  intro o M1 ⟨r1, e9, hF1, h⟩
  refine ⟨r1, e9, ?_⟩
  cases r1 with
  | none =>
    replace h := h.1 rfl
    show Ex _ _ _ _ _ _ (Value.null :: _) _ _
    refine ex_astore_nN (pc := 5) (k := 3) (lo2 := [some (.ref 0), some (.int l1), some (.int l2), some (.null), none, none]) (by decide +kernel) (by decide) rfl ?_
    refine ex_aload_nN (pc := 6) (k := 3) (by decide +kernel) rfl ?_
    refine ex_ifnullN (pc := 7) (off := 10) (tgt := 17) (by decide +kernel) (by decide) ?_
    refine ex_bipush (pc := 17) (k := -5) (v := -5) (by decide +kernel) (by decide) ?_
    exact ex_ireturn (pc := 19) (by decide +kernel) rfl rfl h
  | some a2 =>
    replace h := h.2 a2 rfl
    show Ex _ _ _ _ _ _ (Value.ref a2 :: _) _ _
    refine ex_astore_n (pc := 5) (k := 3) (lo2 := [some (.ref 0), some (.int l1), some (.int l2), some (.ref a2), none, none]) (by decide +kernel) (by decide) rfl ?_
    refine ex_aload_n (pc := 6) (k := 3) (by decide +kernel) rfl ?_
    refine ex_ifnull (pc := 7) (off := 10) (by decide +kernel) ?_
    refine ex_iload_n (pc := 10) (k := 2) (by decide +kernel) rfl ?_
    refine ex_callS (pc := 11) (as := [.int l2]) (by decide +kernel) F_MD_isWeek (in_t3 (i := 83) rfl rfl) rfl rfl (Nat.le_of_ble_eq_true rfl) (Nat.lt_succ_self _) ⟨Nat.zero_le _, Nat.zero_le _⟩ (KC_B (Con.mono h ?_))
    intro o M2 ⟨r3, e9, hF2, h⟩
    refine ⟨r3, e9, ?_⟩
    refine ey_ifneB (pc := 14) (off := 6) (tgt := 20) (by decide +kernel) (by decide) (fun hc => ?_) (fun hc => ?_)
    · replace h := h.1 hc
      refine ex_iconst (pc := 20) (k := 0) (v := nI 0) (by decide +kernel) (by decide) ?_
      refine ex_istore (pc := 21) (k := 4) (lo2 := [some (.ref 0), some (.int l1), some (.int l2), some (.ref a2), some (.int (nI 0)), none]) (by decide +kernel) (by decide) rfl ?_
      refine ex_iconst (pc := 23) (k := 0) (v := nI 0) (by decide +kernel) (by decide) ?_
      refine ex_istore (pc := 24) (k := 5) (lo2 := [some (.ref 0), some (.int l1), some (.int l2), some (.ref a2), some (.int (nI 0)), some (.int (nI 0))]) (by decide +kernel) (by decide) rfl ?_
      exact h
    · replace h := h.2 hc
      refine ex_bipush (pc := 17) (k := -5) (v := -5) (by decide +kernel) (by decide) ?_
      exact ex_ireturn (pc := 19) (by decide +kernel) rfl rfl h
theorem k_MD_lawful_26 {d bc bs : Nat} {l1 : Int32} {l2 : Int32} {l3 : Nat} {l4 : Int32} {l5 : Int32} {M : Mem} {Φ : Option Value → Mem → Prop} (hF : Fx M) (h : (l2 < l5 → Φ (some (.int l4)) M) ∧ (¬ l2 < l5 → Con d m_Fair_open 0 0 [.ref 51, .ref l3, .int l5] M (PV fun M1 => Fx M1 ∧ Con d m_Fair_firstBar 0 0 [.ref 51] M1 (PI fun r1 M2 => Fx M2 ∧ (¬ r1 = (-1) → Ex (d + 1) m_MD_lawful bc bs 26 [some (.ref 0), some (.int l1), some (.int l2), some (.ref l3), some (.int l4), some (.int (l5 + nI 1))] [] M2 Φ) ∧ (r1 = (-1) → Ex (d + 1) m_MD_lawful bc bs 26 [some (.ref 0), some (.int l1), some (.int l2), some (.ref l3), some (.int (l4 + nI 1)), some (.int (l5 + nI 1))] [] M2 Φ))))) : Ex (d + 1) m_MD_lawful bc bs 26 [some (.ref 0), some (.int l1), some (.int l2), some (.ref l3), some (.int l4), some (.int l5)] [] M Φ := by
  refine ex_iload (pc := 26) (k := 5) (by decide +kernel) rfl ?_
  refine ex_iload_n (pc := 28) (k := 2) (by decide +kernel) rfl ?_
  refine ex_icmp_gt (pc := 29) (off := 33) (tgt := 62) (by decide +kernel) (by decide) (fun hc => ?_) (fun hc => ?_)
  · replace h := h.1 hc
    refine ex_iload (pc := 62) (k := 4) (by decide +kernel) rfl ?_
    exact ex_ireturn (pc := 64) (by decide +kernel) rfl rfl h
  · replace h := h.2 hc
    refine ex_aload_n (pc := 32) (k := 0) (by decide +kernel) rfl ?_
    refine ex_getR (pc := 33) (a := 51) (by decide +kernel) lf_MD_54 (hF.s (j := 0) rfl) (hF.r (j := 0) (k := 7) rfl rfl) ?_
    refine ex_aload_n (pc := 36) (k := 3) (by decide +kernel) rfl ?_
    refine ex_iload (pc := 37) (k := 5) (by decide +kernel) rfl ?_
    refine ex_callV (pc := 39) (as := [.ref l3, .int l5]) (by decide +kernel) F_Fair_open (in_t3 (i := 219) rfl rfl) (hF.s (j := 51) rfl) rfl (by decide) rfl rfl (Nat.le_of_ble_eq_true rfl) (Nat.lt_succ_self _) ⟨Nat.zero_le _, Nat.zero_le _⟩ (KC_V (Con.mono h ?_))
    intro o M1 ⟨e9, hF1, h⟩
    refine ⟨e9, ?_⟩
    refine ex_aload_n (pc := 42) (k := 0) (by decide +kernel) rfl ?_
    refine ex_getR (pc := 43) (a := 51) (by decide +kernel) lf_MD_54 (hF1.s (j := 0) rfl) (hF1.r (j := 0) (k := 7) rfl rfl) ?_
    refine ex_callV (pc := 46) (as := []) (by decide +kernel) F_Fair_firstBar (in_t3 (i := 224) rfl rfl) (hF1.s (j := 51) rfl) rfl (by decide) rfl rfl (Nat.le_of_ble_eq_true rfl) (Nat.lt_succ_self _) ⟨Nat.zero_le _, Nat.zero_le _⟩ (KC_I (Con.mono h ?_))
    intro o M2 ⟨r1, e9, hF2, h⟩
    refine ⟨r1, e9, ?_⟩
    refine ex_iconst (pc := 49) (k := -1) (v := -1) (by decide +kernel) (by decide) ?_
    refine ex_icmp_ne (pc := 50) (off := 6) (tgt := 56) (by decide +kernel) (by decide) (fun hc => ?_) (fun hc => ?_)
    · replace h := h.1 hc
      refine ex_iinc (pc := 56) (i := 5) (k := 1) (v := l5 + nI 1) (lo2 := [some (.ref 0), some (.int l1), some (.int l2), some (.ref l3), some (.int l4), some (.int (l5 + nI 1))]) (by decide +kernel) (by decide) rfl rfl rfl ?_
      refine ex_goto (pc := 59) (off := -33) (tgt := 26) (by decide +kernel) (by decide) ?_
      exact h
    · replace h := h.2 hc
      refine ex_iinc (pc := 53) (i := 4) (k := 1) (v := l4 + nI 1) (lo2 := [some (.ref 0), some (.int l1), some (.int l2), some (.ref l3), some (.int (l4 + nI 1)), some (.int l5)]) (by decide +kernel) (by decide) rfl rfl rfl ?_
      refine ex_iinc (pc := 56) (i := 5) (k := 1) (v := l5 + nI 1) (lo2 := [some (.ref 0), some (.int l1), some (.int l2), some (.ref l3), some (.int (l4 + nI 1)), some (.int (l5 + nI 1))]) (by decide +kernel) (by decide) rfl rfl rfl ?_
      refine ex_goto (pc := 59) (off := -33) (tgt := 26) (by decide +kernel) (by decide) ?_
      exact h
theorem k_MD_judge_0 {d bc bs : Nat} {l1 : Int32} {l2 : Int32} {l3 : Int32} {M : Mem} {Φ : Option Value → Mem → Prop} (hF : Fx M) (h : Con d m_MD_givingAt 0 0 [.ref 0, .int l1] M (PR fun r1 M1 => Fx M1 ∧ (r1 = none → Φ (some (.long (-4611686018427387904))) M1) ∧ (∀ a2 : Nat, r1 = some a2 → Con d m_MD_isWeek 0 0 [.int l2] M1 (PB fun r3 M2 => Fx M2 ∧ (r3 = false → Φ (some (.long (-4611686018427387904))) M2) ∧ (r3 = true → (l3 = (-1) → Ex (d + 1) m_MD_judge bc bs 39 [some (.ref 0), some (.int l1), some (.int l2), some (.int l3), some (.ref a2)] [] M2 Φ) ∧ (¬ l3 = (-1) → Con d m_Land_hasTown 0 0 [.ref 1, .int l3] M2 (PB fun r4 M3 => Fx M3 ∧ (r4 = true → Ex (d + 1) m_MD_judge bc bs 39 [some (.ref 0), some (.int l1), some (.int l2), some (.int l3), some (.ref a2)] [] M3 Φ) ∧ (r4 = false → Φ (some (.long (-4611686018427387904))) M3)))))))) : Ex (d + 1) m_MD_judge bc bs 0 [some (.ref 0), some (.int l1), some (.int l2), some (.int l3), none] [] M Φ := by
  refine ex_aload_n (pc := 0) (k := 0) (by decide +kernel) rfl ?_
  refine ex_iload_n (pc := 1) (k := 1) (by decide +kernel) rfl ?_
  refine ex_callV (pc := 2) (as := [.int l1]) (by decide +kernel) F_MD_givingAt (in_t3 (i := 181) rfl rfl) (hF.s (j := 0) rfl) rfl (by decide) rfl rfl (Nat.le_of_ble_eq_true rfl) (Nat.lt_succ_self _) ⟨Nat.zero_le _, Nat.zero_le _⟩ (KC_R (Con.mono h ?_))
  intro o M1 ⟨r1, e9, hF1, h⟩
  refine ⟨r1, e9, ?_⟩
  cases r1 with
  | none =>
    replace h := h.1 rfl
    show Ex _ _ _ _ _ _ (Value.null :: _) _ _
    refine ex_astoreN (pc := 5) (k := 4) (lo2 := [some (.ref 0), some (.int l1), some (.int l2), some (.int l3), some (.null)]) (by decide +kernel) (by decide) rfl ?_
    refine ex_aloadN (pc := 7) (k := 4) (by decide +kernel) rfl ?_
    refine ex_ifnullN (pc := 9) (off := 26) (tgt := 35) (by decide +kernel) (by decide) ?_
    refine ex_ldc2 (pc := 35) (v := -4611686018427387904) (by decide +kernel) (in_t3 (i := 106) rfl rfl) ?_
    exact ex_lreturn (pc := 38) (by decide +kernel) rfl h
  | some a2 =>
    replace h := h.2 a2 rfl
    show Ex _ _ _ _ _ _ (Value.ref a2 :: _) _ _
    refine ex_astore (pc := 5) (k := 4) (lo2 := [some (.ref 0), some (.int l1), some (.int l2), some (.int l3), some (.ref a2)]) (by decide +kernel) (by decide) rfl ?_
    refine ex_aload (pc := 7) (k := 4) (by decide +kernel) rfl ?_
    refine ex_ifnull (pc := 9) (off := 26) (by decide +kernel) ?_
    refine ex_iload_n (pc := 12) (k := 2) (by decide +kernel) rfl ?_
    refine ex_callS (pc := 13) (as := [.int l2]) (by decide +kernel) F_MD_isWeek (in_t3 (i := 83) rfl rfl) rfl rfl (Nat.le_of_ble_eq_true rfl) (Nat.lt_succ_self _) ⟨Nat.zero_le _, Nat.zero_le _⟩ (KC_B (Con.mono h ?_))
    intro o M2 ⟨r3, e9, hF2, h⟩
    refine ⟨r3, e9, ?_⟩
    refine ey_ifeqB (pc := 16) (off := 19) (tgt := 35) (by decide +kernel) (by decide) (fun hc => ?_) (fun hc => ?_)
    · replace h := h.1 hc
      refine ex_ldc2 (pc := 35) (v := -4611686018427387904) (by decide +kernel) (in_t3 (i := 106) rfl rfl) ?_
      exact ex_lreturn (pc := 38) (by decide +kernel) rfl h
    · replace h := h.2 hc
      refine ex_iload_n (pc := 19) (k := 3) (by decide +kernel) rfl ?_
      refine ex_iconst (pc := 20) (k := -1) (v := -1) (by decide +kernel) (by decide) ?_
      refine ex_icmp_eq (pc := 21) (off := 18) (tgt := 39) (by decide +kernel) (by decide) (fun hc => ?_) (fun hc => ?_)
      · replace h := h.1 hc
        exact h
      · replace h := h.2 hc
        refine ex_aload_n (pc := 24) (k := 0) (by decide +kernel) rfl ?_
        refine ex_getR (pc := 25) (a := 1) (by decide +kernel) lf_MD_10 (hF2.s (j := 0) rfl) (hF2.r (j := 0) (k := 0) rfl rfl) ?_
        refine ex_iload_n (pc := 28) (k := 3) (by decide +kernel) rfl ?_
        refine ex_callV (pc := 29) (as := [.int l3]) (by decide +kernel) F_Land_hasTown (in_t3 (i := 47) rfl rfl) (hF2.s (j := 1) rfl) rfl (by decide) rfl rfl (Nat.le_of_ble_eq_true rfl) (Nat.lt_succ_self _) ⟨Nat.zero_le _, Nat.zero_le _⟩ (KC_B (Con.mono h ?_))
        intro o M3 ⟨r4, e9, hF3, h⟩
        refine ⟨r4, e9, ?_⟩
        refine ey_ifneB (pc := 32) (off := 7) (tgt := 39) (by decide +kernel) (by decide) (fun hc => ?_) (fun hc => ?_)
        · replace h := h.1 hc
          exact h
        · replace h := h.2 hc
          refine ex_ldc2 (pc := 35) (v := -4611686018427387904) (by decide +kernel) (in_t3 (i := 106) rfl rfl) ?_
          exact ex_lreturn (pc := 38) (by decide +kernel) rfl h
theorem k_MD_judge_39 {d bc bs : Nat} {l1 : Int32} {l2 : Int32} {l3 : Int32} {l4 : Nat} {M : Mem} {Φ : Option Value → Mem → Prop} (hF : Fx M) (h : Con d m_Fair_open 0 0 [.ref 51, .ref l4, .int l2] M (PV fun M1 => Fx M1 ∧ (¬ l3 = (-1) → Con d m_Fair_worthOfTown 0 0 [.ref 51, .int l3] M1 (PI fun r1 M2 => Fx M2 ∧ Φ (some (.long (Int32.toInt64 r1))) M2)) ∧ (l3 = (-1) → Con d m_Fair_worthOfAllBut 0 0 [.ref 51, .int (-1)] M1 (PI fun r2 M3 => Fx M3 ∧ Φ (some (.long (Int32.toInt64 r2))) M3)))) : Ex (d + 1) m_MD_judge bc bs 39 [some (.ref 0), some (.int l1), some (.int l2), some (.int l3), some (.ref l4)] [] M Φ := by
  refine ex_aload_n (pc := 39) (k := 0) (by decide +kernel) rfl ?_
  refine ex_getR (pc := 40) (a := 51) (by decide +kernel) lf_MD_54 (hF.s (j := 0) rfl) (hF.r (j := 0) (k := 7) rfl rfl) ?_
  refine ex_aload (pc := 43) (k := 4) (by decide +kernel) rfl ?_
  refine ex_iload_n (pc := 45) (k := 2) (by decide +kernel) rfl ?_
  refine ex_callV (pc := 46) (as := [.ref l4, .int l2]) (by decide +kernel) F_Fair_open (in_t3 (i := 219) rfl rfl) (hF.s (j := 51) rfl) rfl (by decide) rfl rfl (Nat.le_of_ble_eq_true rfl) (Nat.lt_succ_self _) ⟨Nat.zero_le _, Nat.zero_le _⟩ (KC_V (Con.mono h ?_))
  intro o M1 ⟨e9, hF1, h⟩
  refine ⟨e9, ?_⟩
  refine ex_iload_n (pc := 49) (k := 3) (by decide +kernel) rfl ?_
  refine ex_iconst (pc := 50) (k := -1) (v := -1) (by decide +kernel) (by decide) ?_
  refine ex_icmp_ne (pc := 51) (off := 15) (tgt := 66) (by decide +kernel) (by decide) (fun hc => ?_) (fun hc => ?_)
  · replace h := h.1 hc
    refine ex_aload_n (pc := 66) (k := 0) (by decide +kernel) rfl ?_
    refine ex_getR (pc := 67) (a := 51) (by decide +kernel) lf_MD_54 (hF1.s (j := 0) rfl) (hF1.r (j := 0) (k := 7) rfl rfl) ?_
    refine ex_iload_n (pc := 70) (k := 3) (by decide +kernel) rfl ?_
    refine ex_callV (pc := 71) (as := [.int l3]) (by decide +kernel) F_Fair_worthOfTown (in_t4 (i := 41) rfl rfl) (hF1.s (j := 51) rfl) rfl (by decide) rfl rfl (Nat.le_of_ble_eq_true rfl) (Nat.lt_succ_self _) ⟨Nat.zero_le _, Nat.zero_le _⟩ (KC_I (Con.mono h ?_))
    intro o M2 ⟨r1, e9, hF2, h⟩
    refine ⟨r1, e9, ?_⟩
    refine ex_i2l (pc := 74) (by decide +kernel) ?_
    exact ex_lreturn (pc := 75) (by decide +kernel) rfl h
  · replace h := h.2 hc
    refine ex_aload_n (pc := 54) (k := 0) (by decide +kernel) rfl ?_
    refine ex_getR (pc := 55) (a := 51) (by decide +kernel) lf_MD_54 (hF1.s (j := 0) rfl) (hF1.r (j := 0) (k := 7) rfl rfl) ?_
    refine ex_iconst (pc := 58) (k := -1) (v := -1) (by decide +kernel) (by decide) ?_
    refine ex_callV (pc := 59) (as := [.int (-1)]) (by decide +kernel) F_Fair_worthOfAllBut (in_t4 (i := 15) rfl rfl) (hF1.s (j := 51) rfl) rfl (by decide) rfl rfl (Nat.le_of_ble_eq_true rfl) (Nat.lt_succ_self _) ⟨Nat.zero_le _, Nat.zero_le _⟩ (KC_I (Con.mono h ?_))
    intro o M3 ⟨r2, e9, hF3, h⟩
    refine ⟨r2, e9, ?_⟩
    refine ex_i2l (pc := 62) (by decide +kernel) ?_
    refine ex_goto (pc := 63) (off := 12) (tgt := 75) (by decide +kernel) (by decide) ?_
    exact ex_lreturn (pc := 75) (by decide +kernel) rfl h
theorem k_MD_givingTold_0 {d bc bs : Nat} {l1 : Int32} {l2 : Int32} {M : Mem} {Φ : Option Value → Mem → Prop} (hF : Fx M) (h : Con d m_MD_givingAt 0 0 [.ref 0, .int l1] M (PR fun r1 M1 => Fx M1 ∧ (r1 = none → Φ (some (.int (-5))) M1) ∧ (∀ a2 : Nat, r1 = some a2 → (l2 = nI 0 → (sh M1)[a2]? = some (3, 2) ∧ Φ (some (.int (mi M1 a2 0))) M1) ∧ (l2 = nI 1 → (sh M1)[a2]? = some (3, 2) ∧ ∃ a3 : Nat, mr M1 a2 1 = some a3 ∧ ∃ N4 : Nat, (sh M1)[a3]? = some (100, N4) ∧ Φ (some (.int (nI N4))) M1) ∧ (l2 = nI 2 → (sh M1)[a2]? = some (3, 2) ∧ Con d m_Giving_feastsMoveIt 0 0 [.ref a2] M1 (PB fun r5 M2 => Fx M2 ∧ (r5 = false → Φ (some (.int (nI 0))) M2) ∧ (r5 = true → Φ (some (.int (nI 1))) M2))) ∧ (¬ l2 = nI 0 → ¬ l2 = nI 1 → ¬ l2 = nI 2 → Φ (some (.int (-7))) M1)))) : Ex (d + 1) m_MD_givingTold bc bs 0 [some (.ref 0), some (.int l1), some (.int l2), none] [] M Φ := by
  refine ex_aload_n (pc := 0) (k := 0) (by decide +kernel) rfl ?_
  refine ex_iload_n (pc := 1) (k := 1) (by decide +kernel) rfl ?_
  refine ex_callV (pc := 2) (as := [.int l1]) (by decide +kernel) F_MD_givingAt (in_t3 (i := 181) rfl rfl) (hF.s (j := 0) rfl) rfl (by decide) rfl rfl (Nat.le_of_ble_eq_true rfl) (Nat.lt_succ_self _) ⟨Nat.zero_le _, Nat.zero_le _⟩ (KC_R (Con.mono h ?_))
  intro o M1 ⟨r1, e9, hF1, h⟩
  refine ⟨r1, e9, ?_⟩
  cases r1 with
  | none =>
    replace h := h.1 rfl
    show Ex _ _ _ _ _ _ (Value.null :: _) _ _
    refine ex_astore_nN (pc := 5) (k := 3) (lo2 := [some (.ref 0), some (.int l1), some (.int l2), some (.null)]) (by decide +kernel) (by decide) rfl ?_
    refine ex_aload_nN (pc := 6) (k := 3) (by decide +kernel) rfl ?_
    refine ex_ifnonnullN (pc := 7) (off := 6) (by decide +kernel) ?_
    refine ex_bipush (pc := 10) (k := -5) (v := -5) (by decide +kernel) (by decide) ?_
    exact ex_ireturn (pc := 12) (by decide +kernel) rfl rfl h
  | some a2 =>
    replace h := h.2 a2 rfl
    show Ex _ _ _ _ _ _ (Value.ref a2 :: _) _ _
    refine ex_astore_n (pc := 5) (k := 3) (lo2 := [some (.ref 0), some (.int l1), some (.int l2), some (.ref a2)]) (by decide +kernel) (by decide) rfl ?_
    refine ex_aload_n (pc := 6) (k := 3) (by decide +kernel) rfl ?_
    refine ex_ifnonnull (pc := 7) (off := 6) (tgt := 13) (by decide +kernel) (by decide) ?_
    refine ex_iload_n (pc := 13) (k := 2) (by decide +kernel) rfl ?_
    by_cases hc : l2 = nI 0
    · replace h := h.1 hc
      rw [hc]
      refine ex_tableIn (pc := 14) (dflt := 50) (l9 := 0) (h9 := 2) (offs := #[26, 31, 37]) (len := 26) (off := 26) (tgt := 40) (by decide +kernel) (by decide) (by decide) (by decide +kernel) (by decide) ?_
      refine ex_aload_n (pc := 40) (k := 3) (by decide +kernel) rfl ?_
      obtain ⟨g1, h⟩ := h
      refine ey_getI (pc := 41) (v := mi M1 a2 0) (by decide +kernel) lf_MD_223 g1 rfl ?_
      exact ex_ireturn (pc := 44) (by decide +kernel) rfl rfl h
    replace h := h.2
    have n0 := hc
    by_cases hc : l2 = nI 1
    · replace h := h.1 hc
      rw [hc]
      refine ex_tableIn (pc := 14) (dflt := 50) (l9 := 0) (h9 := 2) (offs := #[26, 31, 37]) (len := 26) (off := 31) (tgt := 45) (by decide +kernel) (by decide) (by decide) (by decide +kernel) (by decide) ?_
      refine ex_aload_n (pc := 45) (k := 3) (by decide +kernel) rfl ?_
      obtain ⟨g2, h⟩ := h
      obtain ⟨a3, g3, h⟩ := h
      refine ex_getR (pc := 46) (a := a3) (by decide +kernel) lf_MD_226 g2 g3 ?_
      obtain ⟨N4, g4, h⟩ := h
      refine ex_alen (pc := 49) (by decide +kernel) g4 (by decide) ?_
      exact ex_ireturn (pc := 50) (by decide +kernel) rfl rfl h
    replace h := h.2
    have n1 := hc
    by_cases hc : l2 = nI 2
    · replace h := h.1 hc
      rw [hc]
      refine ex_tableIn (pc := 14) (dflt := 50) (l9 := 0) (h9 := 2) (offs := #[26, 31, 37]) (len := 26) (off := 37) (tgt := 51) (by decide +kernel) (by decide) (by decide) (by decide +kernel) (by decide) ?_
      refine ex_aload_n (pc := 51) (k := 3) (by decide +kernel) rfl ?_
      obtain ⟨g5, h⟩ := h
      refine ex_callV (pc := 52) (as := []) (by decide +kernel) F_Giving_feastsMoveIt (in_t4 (i := 46) rfl rfl) g5 rfl (by decide) rfl rfl (Nat.le_of_ble_eq_true rfl) (Nat.lt_succ_self _) ⟨Nat.zero_le _, Nat.zero_le _⟩ (KC_B (Con.mono h ?_))
      intro o M2 ⟨r5, e9, hF2, h⟩
      refine ⟨r5, e9, ?_⟩
      refine ey_ifeqB (pc := 55) (off := 7) (tgt := 62) (by decide +kernel) (by decide) (fun hc => ?_) (fun hc => ?_)
      · replace h := h.1 hc
        refine ex_iconst (pc := 62) (k := 0) (v := nI 0) (by decide +kernel) (by decide) ?_
        exact ex_ireturn (pc := 63) (by decide +kernel) rfl rfl h
      · replace h := h.2 hc
        refine ex_iconst (pc := 58) (k := 1) (v := nI 1) (by decide +kernel) (by decide) ?_
        refine ex_goto (pc := 59) (off := 4) (tgt := 63) (by decide +kernel) (by decide) ?_
        exact ex_ireturn (pc := 63) (by decide +kernel) rfl rfl h
    replace h := h.2
    have n2 := hc
    refine ex_tableOut (pc := 14) (dflt := 50) (l9 := 0) (h9 := 2) (offs := #[26, 31, 37]) (len := 26) (tgt := 64) (by decide +kernel) (tab_out (fun q hq1 hq2 => ?_)) (by decide) ?_
    · rcases (show q = (0 : Int) ∨ q = (1 : Int) ∨ q = (2 : Int) by omega) with rfl | rfl | rfl
      · rw [show Int32.ofInt (0) = nI 0 by decide]; exact n0
      · rw [show Int32.ofInt (1) = nI 1 by decide]; exact n1
      · rw [show Int32.ofInt (2) = nI 2 by decide]; exact n2
    · replace h := h n0 n1 n2
      refine ex_bipush (pc := 64) (k := -7) (v := -7) (by decide +kernel) (by decide) ?_
      exact ex_ireturn (pc := 66) (by decide +kernel) rfl rfl h
theorem k_MD_can_0 {d bc bs : Nat}  {M : Mem} {Φ : Option Value → Mem → Prop} (hF : Fx M) (h : Con d m_Finder_countWays 0 0 [.ref 53] M (PI fun r1 M1 => Fx M1 ∧ Φ (some (.int r1)) M1)) : Ex (d + 1) m_MD_can bc bs 0 [some (.ref 0)] [] M Φ := by
  refine ex_aload_n (pc := 0) (k := 0) (by decide +kernel) rfl ?_
  refine ex_getR (pc := 1) (a := 53) (by decide +kernel) lf_MD_61 (hF.s (j := 0) rfl) (hF.r (j := 0) (k := 8) rfl rfl) ?_
  refine ex_callV (pc := 4) (as := []) (by decide +kernel) F_Finder_countWays (in_t4 (i := 51) rfl rfl) (hF.s (j := 53) rfl) rfl (by decide) rfl rfl (Nat.le_of_ble_eq_true rfl) (Nat.lt_succ_self _) ⟨Nat.zero_le _, Nat.zero_le _⟩ (KC_I (Con.mono h ?_))
  intro o M1 ⟨r1, e9, hF1, h⟩
  refine ⟨r1, e9, ?_⟩
  exact ex_ireturn (pc := 7) (by decide +kernel) rfl rfl h
theorem k_MD_find_0 {d bc bs : Nat} {l1 : Int32} {l2 : Int32} {M : Mem} {Φ : Option Value → Mem → Prop} (hF : Fx M) (h : Con d m_MD_givingAt 0 0 [.ref 0, .int l2] M (PR fun r1 M1 => Fx M1 ∧ (r1 = none → (l1 < (nI 1) → Φ (some (.long (-4611686018427387904))) M1) ∧ (¬ l1 < (nI 1) → ((nI 3) < l1 → Φ (some (.long (-4611686018427387904))) M1) ∧ (¬ (nI 3) < l1 → (¬ l1 = (nI 3) → Con d m_Finder_seek 0 0 [.ref 53, .int l1, .null] M1 (PL fun r3 M2 => Fx M2 ∧ Φ (some (.long r3)) M2)) ∧ (l1 = (nI 3) → Φ (some (.long (-4611686018427387904))) M1)))) ∧ (∀ a2 : Nat, r1 = some a2 → (l1 < (nI 1) → Φ (some (.long (-4611686018427387904))) M1) ∧ (¬ l1 < (nI 1) → ((nI 3) < l1 → Φ (some (.long (-4611686018427387904))) M1) ∧ (¬ (nI 3) < l1 → (¬ l1 = (nI 3) → Con d m_Finder_seek 0 0 [.ref 53, .int l1, .ref a2] M1 (PL fun r4 M3 => Fx M3 ∧ Φ (some (.long r4)) M3)) ∧ (l1 = (nI 3) → Con d m_Finder_seek 0 0 [.ref 53, .int l1, .ref a2] M1 (PL fun r5 M4 => Fx M4 ∧ Φ (some (.long r5)) M4))))))) : Ex (d + 1) m_MD_find bc bs 0 [some (.ref 0), some (.int l1), some (.int l2), none] [] M Φ := by
  refine ex_aload_n (pc := 0) (k := 0) (by decide +kernel) rfl ?_
  refine ex_iload_n (pc := 1) (k := 2) (by decide +kernel) rfl ?_
  refine ex_callV (pc := 2) (as := [.int l2]) (by decide +kernel) F_MD_givingAt (in_t3 (i := 181) rfl rfl) (hF.s (j := 0) rfl) rfl (by decide) rfl rfl (Nat.le_of_ble_eq_true rfl) (Nat.lt_succ_self _) ⟨Nat.zero_le _, Nat.zero_le _⟩ (KC_R (Con.mono h ?_))
  intro o M1 ⟨r1, e9, hF1, h⟩
  refine ⟨r1, e9, ?_⟩
  cases r1 with
  | none =>
    replace h := h.1 rfl
    show Ex _ _ _ _ _ _ (Value.null :: _) _ _
    refine ex_astore_nN (pc := 5) (k := 3) (lo2 := [some (.ref 0), some (.int l1), some (.int l2), some (.null)]) (by decide +kernel) (by decide) rfl ?_
    refine ex_iload_n (pc := 6) (k := 1) (by decide +kernel) rfl ?_
    refine ex_iconst (pc := 7) (k := 1) (v := nI 1) (by decide +kernel) (by decide) ?_
    refine ex_icmp_lt (pc := 8) (off := 17) (tgt := 25) (by decide +kernel) (by decide) (fun hc => ?_) (fun hc => ?_)
    · replace h := h.1 hc
      refine ex_ldc2 (pc := 25) (v := -4611686018427387904) (by decide +kernel) (in_t3 (i := 106) rfl rfl) ?_
      exact ex_lreturn (pc := 28) (by decide +kernel) rfl h
    · replace h := h.2 hc
      refine ex_iload_n (pc := 11) (k := 1) (by decide +kernel) rfl ?_
      refine ex_iconst (pc := 12) (k := 3) (v := nI 3) (by decide +kernel) (by decide) ?_
      refine ex_icmp_gt (pc := 13) (off := 12) (tgt := 25) (by decide +kernel) (by decide) (fun hc => ?_) (fun hc => ?_)
      · replace h := h.1 hc
        refine ex_ldc2 (pc := 25) (v := -4611686018427387904) (by decide +kernel) (in_t3 (i := 106) rfl rfl) ?_
        exact ex_lreturn (pc := 28) (by decide +kernel) rfl h
      · replace h := h.2 hc
        refine ex_iload_n (pc := 16) (k := 1) (by decide +kernel) rfl ?_
        refine ex_iconst (pc := 17) (k := 3) (v := nI 3) (by decide +kernel) (by decide) ?_
        refine ex_icmp_ne (pc := 18) (off := 11) (tgt := 29) (by decide +kernel) (by decide) (fun hc => ?_) (fun hc => ?_)
        · replace h := h.1 hc
          refine ex_aload_n (pc := 29) (k := 0) (by decide +kernel) rfl ?_
          refine ex_getR (pc := 30) (a := 53) (by decide +kernel) lf_MD_61 (hF1.s (j := 0) rfl) (hF1.r (j := 0) (k := 8) rfl rfl) ?_
          refine ex_iload_n (pc := 33) (k := 1) (by decide +kernel) rfl ?_
          refine ex_aload_nN (pc := 34) (k := 3) (by decide +kernel) rfl ?_
          refine ex_callV (pc := 35) (as := [.int l1, .null]) (by decide +kernel) F_Finder_seek (in_t4 (i := 90) rfl rfl) (hF1.s (j := 53) rfl) rfl (by decide) rfl rfl (Nat.le_of_ble_eq_true rfl) (Nat.lt_succ_self _) ⟨Nat.zero_le _, Nat.zero_le _⟩ (KC_L (Con.mono h ?_))
          intro o M2 ⟨r3, e9, hF2, h⟩
          refine ⟨r3, e9, ?_⟩
          exact ex_lreturn (pc := 38) (by decide +kernel) rfl h
        · replace h := h.2 hc
          refine ex_aload_nN (pc := 21) (k := 3) (by decide +kernel) rfl ?_
          refine ex_ifnonnullN (pc := 22) (off := 7) (by decide +kernel) ?_
          refine ex_ldc2 (pc := 25) (v := -4611686018427387904) (by decide +kernel) (in_t3 (i := 106) rfl rfl) ?_
          exact ex_lreturn (pc := 28) (by decide +kernel) rfl h
  | some a2 =>
    replace h := h.2 a2 rfl
    show Ex _ _ _ _ _ _ (Value.ref a2 :: _) _ _
    refine ex_astore_n (pc := 5) (k := 3) (lo2 := [some (.ref 0), some (.int l1), some (.int l2), some (.ref a2)]) (by decide +kernel) (by decide) rfl ?_
    refine ex_iload_n (pc := 6) (k := 1) (by decide +kernel) rfl ?_
    refine ex_iconst (pc := 7) (k := 1) (v := nI 1) (by decide +kernel) (by decide) ?_
    refine ex_icmp_lt (pc := 8) (off := 17) (tgt := 25) (by decide +kernel) (by decide) (fun hc => ?_) (fun hc => ?_)
    · replace h := h.1 hc
      refine ex_ldc2 (pc := 25) (v := -4611686018427387904) (by decide +kernel) (in_t3 (i := 106) rfl rfl) ?_
      exact ex_lreturn (pc := 28) (by decide +kernel) rfl h
    · replace h := h.2 hc
      refine ex_iload_n (pc := 11) (k := 1) (by decide +kernel) rfl ?_
      refine ex_iconst (pc := 12) (k := 3) (v := nI 3) (by decide +kernel) (by decide) ?_
      refine ex_icmp_gt (pc := 13) (off := 12) (tgt := 25) (by decide +kernel) (by decide) (fun hc => ?_) (fun hc => ?_)
      · replace h := h.1 hc
        refine ex_ldc2 (pc := 25) (v := -4611686018427387904) (by decide +kernel) (in_t3 (i := 106) rfl rfl) ?_
        exact ex_lreturn (pc := 28) (by decide +kernel) rfl h
      · replace h := h.2 hc
        refine ex_iload_n (pc := 16) (k := 1) (by decide +kernel) rfl ?_
        refine ex_iconst (pc := 17) (k := 3) (v := nI 3) (by decide +kernel) (by decide) ?_
        refine ex_icmp_ne (pc := 18) (off := 11) (tgt := 29) (by decide +kernel) (by decide) (fun hc => ?_) (fun hc => ?_)
        · replace h := h.1 hc
          refine ex_aload_n (pc := 29) (k := 0) (by decide +kernel) rfl ?_
          refine ex_getR (pc := 30) (a := 53) (by decide +kernel) lf_MD_61 (hF1.s (j := 0) rfl) (hF1.r (j := 0) (k := 8) rfl rfl) ?_
          refine ex_iload_n (pc := 33) (k := 1) (by decide +kernel) rfl ?_
          refine ex_aload_n (pc := 34) (k := 3) (by decide +kernel) rfl ?_
          refine ex_callV (pc := 35) (as := [.int l1, .ref a2]) (by decide +kernel) F_Finder_seek (in_t4 (i := 90) rfl rfl) (hF1.s (j := 53) rfl) rfl (by decide) rfl rfl (Nat.le_of_ble_eq_true rfl) (Nat.lt_succ_self _) ⟨Nat.zero_le _, Nat.zero_le _⟩ (KC_L (Con.mono h ?_))
          intro o M3 ⟨r4, e9, hF3, h⟩
          refine ⟨r4, e9, ?_⟩
          exact ex_lreturn (pc := 38) (by decide +kernel) rfl h
        · replace h := h.2 hc
          refine ex_aload_n (pc := 21) (k := 3) (by decide +kernel) rfl ?_
          refine ex_ifnonnull (pc := 22) (off := 7) (tgt := 29) (by decide +kernel) (by decide) ?_
          refine ex_aload_n (pc := 29) (k := 0) (by decide +kernel) rfl ?_
          refine ex_getR (pc := 30) (a := 53) (by decide +kernel) lf_MD_61 (hF1.s (j := 0) rfl) (hF1.r (j := 0) (k := 8) rfl rfl) ?_
          refine ex_iload_n (pc := 33) (k := 1) (by decide +kernel) rfl ?_
          refine ex_aload_n (pc := 34) (k := 3) (by decide +kernel) rfl ?_
          refine ex_callV (pc := 35) (as := [.int l1, .ref a2]) (by decide +kernel) F_Finder_seek (in_t4 (i := 90) rfl rfl) (hF1.s (j := 53) rfl) rfl (by decide) rfl rfl (Nat.le_of_ble_eq_true rfl) (Nat.lt_succ_self _) ⟨Nat.zero_le _, Nat.zero_le _⟩ (KC_L (Con.mono h ?_))
          intro o M4 ⟨r5, e9, hF4, h⟩
          refine ⟨r5, e9, ?_⟩
          exact ex_lreturn (pc := 38) (by decide +kernel) rfl h
theorem k_MD_foundDay_0 {d bc bs : Nat} {l1 : Int32} {M : Mem} {Φ : Option Value → Mem → Prop} (hF : Fx M) (h : (l1 < 0 → Φ (some (.int (-1))) M) ∧ (¬ l1 < 0 → ((mi M 53 4) ≤ l1 → Φ (some (.int (-1))) M) ∧ (¬ (mi M 53 4) ≤ l1 → vp_in l1 6 ∧ Φ (some (.int (mi M 54 l1.toNatClampNeg))) M))) : Ex (d + 1) m_MD_foundDay bc bs 0 [some (.ref 0), some (.int l1)] [] M Φ := by
  refine ex_iload_n (pc := 0) (k := 1) (by decide +kernel) rfl ?_
  refine ex_if_lt (pc := 1) (off := 26) (tgt := 27) (by decide +kernel) (by decide) (fun hc => ?_) (fun hc => ?_)
  · replace h := h.1 hc
    refine ex_iconst (pc := 27) (k := -1) (v := -1) (by decide +kernel) (by decide) ?_
    exact ex_ireturn (pc := 28) (by decide +kernel) rfl rfl h
  · replace h := h.2 hc
    refine ex_iload_n (pc := 4) (k := 1) (by decide +kernel) rfl ?_
    refine ex_aload_n (pc := 5) (k := 0) (by decide +kernel) rfl ?_
    refine ex_getR (pc := 6) (a := 53) (by decide +kernel) lf_MD_61 (hF.s (j := 0) rfl) (hF.r (j := 0) (k := 8) rfl rfl) ?_
    refine ey_getI (pc := 9) (v := mi M 53 4) (by decide +kernel) lf_MD_239 (hF.s (j := 53) rfl) rfl ?_
    refine ex_icmp_ge (pc := 12) (off := 15) (tgt := 27) (by decide +kernel) (by decide) (fun hc => ?_) (fun hc => ?_)
    · replace h := h.1 hc
      refine ex_iconst (pc := 27) (k := -1) (v := -1) (by decide +kernel) (by decide) ?_
      exact ex_ireturn (pc := 28) (by decide +kernel) rfl rfl h
    · replace h := h.2 hc
      refine ex_aload_n (pc := 15) (k := 0) (by decide +kernel) rfl ?_
      refine ex_getR (pc := 16) (a := 53) (by decide +kernel) lf_MD_61 (hF.s (j := 0) rfl) (hF.r (j := 0) (k := 8) rfl rfl) ?_
      refine ex_getR (pc := 19) (a := 54) (by decide +kernel) lf_MD_242 (hF.s (j := 53) rfl) (hF.r (j := 53) (k := 3) rfl rfl) ?_
      refine ex_iload_n (pc := 22) (k := 1) (by decide +kernel) rfl ?_
      obtain ⟨g1, h⟩ := h
      refine ey_iald (pc := 23) (v := mi M 54 l1.toNatClampNeg) (by decide +kernel) (hF.s (j := 54) rfl) g1 rfl rfl ?_
      refine ex_goto (pc := 24) (off := 4) (tgt := 28) (by decide +kernel) (by decide) ?_
      exact ex_ireturn (pc := 28) (by decide +kernel) rfl rfl h
theorem k_MD_least_0 {d bc bs : Nat}  {M : Mem} {Φ : Option Value → Mem → Prop} (hF : Fx M) (h : Con d m_Finder_fewestDays 0 0 [.ref 53] M (PI fun r1 M1 => Fx M1 ∧ Φ (some (.int r1)) M1)) : Ex (d + 1) m_MD_least bc bs 0 [some (.ref 0)] [] M Φ := by
  refine ex_aload_n (pc := 0) (k := 0) (by decide +kernel) rfl ?_
  refine ex_getR (pc := 1) (a := 53) (by decide +kernel) lf_MD_61 (hF.s (j := 0) rfl) (hF.r (j := 0) (k := 8) rfl rfl) ?_
  refine ex_callV (pc := 4) (as := []) (by decide +kernel) F_Finder_fewestDays (in_t4 (i := 143) rfl rfl) (hF.s (j := 53) rfl) rfl (by decide) rfl rfl (Nat.le_of_ble_eq_true rfl) (Nat.lt_succ_self _) ⟨Nat.zero_le _, Nat.zero_le _⟩ (KC_I (Con.mono h ?_))
  intro o M1 ⟨r1, e9, hF1, h⟩
  refine ⟨r1, e9, ?_⟩
  exact ex_ireturn (pc := 7) (by decide +kernel) rfl rfl h
theorem k_MD_knot_0 {d bc bs : Nat}  {M : Mem} {Φ : Option Value → Mem → Prop} (hF : Fx M) (h : Con d m_Finder_smallestKnot 0 0 [.ref 53] M (PI fun r1 M1 => Fx M1 ∧ Φ (some (.int r1)) M1)) : Ex (d + 1) m_MD_knot bc bs 0 [some (.ref 0)] [] M Φ := by
  refine ex_aload_n (pc := 0) (k := 0) (by decide +kernel) rfl ?_
  refine ex_getR (pc := 1) (a := 53) (by decide +kernel) lf_MD_61 (hF.s (j := 0) rfl) (hF.r (j := 0) (k := 8) rfl rfl) ?_
  refine ex_callV (pc := 4) (as := []) (by decide +kernel) F_Finder_smallestKnot (in_t4 (i := 155) rfl rfl) (hF.s (j := 53) rfl) rfl (by decide) rfl rfl (Nat.le_of_ble_eq_true rfl) (Nat.lt_succ_self _) ⟨Nat.zero_le _, Nat.zero_le _⟩ (KC_I (Con.mono h ?_))
  intro o M1 ⟨r1, e9, hF1, h⟩
  refine ⟨r1, e9, ?_⟩
  exact ex_ireturn (pc := 7) (by decide +kernel) rfl rfl h
theorem k_MD_room_0 {d bc bs : Nat} {l1 : Int32} {l2 : Int32} {l3 : Int32} {M : Mem} {Φ : Option Value → Mem → Prop} (hF : Fx M) (h : Con d m_MD_givingAt 0 0 [.ref 0, .int l1] M (PR fun r1 M1 => Fx M1 ∧ (r1 = none → Φ (some (.int (-5))) M1) ∧ (∀ a2 : Nat, r1 = some a2 → Con d m_Land_hasTown 0 0 [.ref 1, .int l2] M1 (PB fun r3 M2 => Fx M2 ∧ (r3 = false → Φ (some (.int (-5))) M2) ∧ (r3 = true → Con d m_MD_isWeek 0 0 [.int l3] M2 (PB fun r4 M3 => Fx M3 ∧ (r4 = true → Con d m_Fair_open 0 0 [.ref 51, .ref a2, .int l3] M3 (PV fun M4 => Fx M4 ∧ Con d m_Fair_roomOf 0 0 [.ref 51, .int l2] M4 (PI fun r5 M5 => Fx M5 ∧ Φ (some (.int r5)) M5))) ∧ (r4 = false → Φ (some (.int (-5))) M3))))))) : Ex (d + 1) m_MD_room bc bs 0 [some (.ref 0), some (.int l1), some (.int l2), some (.int l3), none] [] M Φ := by
  refine ex_aload_n (pc := 0) (k := 0) (by decide +kernel) rfl ?_
  refine ex_iload_n (pc := 1) (k := 1) (by decide +kernel) rfl ?_
  refine ex_callV (pc := 2) (as := [.int l1]) (by decide +kernel) F_MD_givingAt (in_t3 (i := 181) rfl rfl) (hF.s (j := 0) rfl) rfl (by decide) rfl rfl (Nat.le_of_ble_eq_true rfl) (Nat.lt_succ_self _) ⟨Nat.zero_le _, Nat.zero_le _⟩ (KC_R (Con.mono h ?_))
  intro o M1 ⟨r1, e9, hF1, h⟩
  refine ⟨r1, e9, ?_⟩
  cases r1 with
  | none =>
    replace h := h.1 rfl
    show Ex _ _ _ _ _ _ (Value.null :: _) _ _
    refine ex_astoreN (pc := 5) (k := 4) (lo2 := [some (.ref 0), some (.int l1), some (.int l2), some (.int l3), some (.null)]) (by decide +kernel) (by decide) rfl ?_
    refine ex_aloadN (pc := 7) (k := 4) (by decide +kernel) rfl ?_
    refine ex_ifnullN (pc := 9) (off := 21) (tgt := 30) (by decide +kernel) (by decide) ?_
    refine ex_bipush (pc := 30) (k := -5) (v := -5) (by decide +kernel) (by decide) ?_
    exact ex_ireturn (pc := 32) (by decide +kernel) rfl rfl h
  | some a2 =>
    replace h := h.2 a2 rfl
    show Ex _ _ _ _ _ _ (Value.ref a2 :: _) _ _
    refine ex_astore (pc := 5) (k := 4) (lo2 := [some (.ref 0), some (.int l1), some (.int l2), some (.int l3), some (.ref a2)]) (by decide +kernel) (by decide) rfl ?_
    refine ex_aload (pc := 7) (k := 4) (by decide +kernel) rfl ?_
    refine ex_ifnull (pc := 9) (off := 21) (by decide +kernel) ?_
    refine ex_aload_n (pc := 12) (k := 0) (by decide +kernel) rfl ?_
    refine ex_getR (pc := 13) (a := 1) (by decide +kernel) lf_MD_10 (hF1.s (j := 0) rfl) (hF1.r (j := 0) (k := 0) rfl rfl) ?_
    refine ex_iload_n (pc := 16) (k := 2) (by decide +kernel) rfl ?_
    refine ex_callV (pc := 17) (as := [.int l2]) (by decide +kernel) F_Land_hasTown (in_t3 (i := 47) rfl rfl) (hF1.s (j := 1) rfl) rfl (by decide) rfl rfl (Nat.le_of_ble_eq_true rfl) (Nat.lt_succ_self _) ⟨Nat.zero_le _, Nat.zero_le _⟩ (KC_B (Con.mono h ?_))
    intro o M2 ⟨r3, e9, hF2, h⟩
    refine ⟨r3, e9, ?_⟩
    refine ey_ifeqB (pc := 20) (off := 10) (tgt := 30) (by decide +kernel) (by decide) (fun hc => ?_) (fun hc => ?_)
    · replace h := h.1 hc
      refine ex_bipush (pc := 30) (k := -5) (v := -5) (by decide +kernel) (by decide) ?_
      exact ex_ireturn (pc := 32) (by decide +kernel) rfl rfl h
    · replace h := h.2 hc
      refine ex_iload_n (pc := 23) (k := 3) (by decide +kernel) rfl ?_
      refine ex_callS (pc := 24) (as := [.int l3]) (by decide +kernel) F_MD_isWeek (in_t3 (i := 83) rfl rfl) rfl rfl (Nat.le_of_ble_eq_true rfl) (Nat.lt_succ_self _) ⟨Nat.zero_le _, Nat.zero_le _⟩ (KC_B (Con.mono h ?_))
      intro o M3 ⟨r4, e9, hF3, h⟩
      refine ⟨r4, e9, ?_⟩
      refine ey_ifneB (pc := 27) (off := 6) (tgt := 33) (by decide +kernel) (by decide) (fun hc => ?_) (fun hc => ?_)
      · replace h := h.1 hc
        refine ex_aload_n (pc := 33) (k := 0) (by decide +kernel) rfl ?_
        refine ex_getR (pc := 34) (a := 51) (by decide +kernel) lf_MD_54 (hF3.s (j := 0) rfl) (hF3.r (j := 0) (k := 7) rfl rfl) ?_
        refine ex_aload (pc := 37) (k := 4) (by decide +kernel) rfl ?_
        refine ex_iload_n (pc := 39) (k := 3) (by decide +kernel) rfl ?_
        refine ex_callV (pc := 40) (as := [.ref a2, .int l3]) (by decide +kernel) F_Fair_open (in_t3 (i := 219) rfl rfl) (hF3.s (j := 51) rfl) rfl (by decide) rfl rfl (Nat.le_of_ble_eq_true rfl) (Nat.lt_succ_self _) ⟨Nat.zero_le _, Nat.zero_le _⟩ (KC_V (Con.mono h ?_))
        intro o M4 ⟨e9, hF4, h⟩
        refine ⟨e9, ?_⟩
        refine ex_aload_n (pc := 43) (k := 0) (by decide +kernel) rfl ?_
        refine ex_getR (pc := 44) (a := 51) (by decide +kernel) lf_MD_54 (hF4.s (j := 0) rfl) (hF4.r (j := 0) (k := 7) rfl rfl) ?_
        refine ex_iload_n (pc := 47) (k := 2) (by decide +kernel) rfl ?_
        refine ex_callV (pc := 48) (as := [.int l2]) (by decide +kernel) F_Fair_roomOf (in_t4 (i := 163) rfl rfl) (hF4.s (j := 51) rfl) rfl (by decide) rfl rfl (Nat.le_of_ble_eq_true rfl) (Nat.lt_succ_self _) ⟨Nat.zero_le _, Nat.zero_le _⟩ (KC_I (Con.mono h ?_))
        intro o M5 ⟨r5, e9, hF5, h⟩
        refine ⟨r5, e9, ?_⟩
        exact ex_ireturn (pc := 51) (by decide +kernel) rfl rfl h
      · replace h := h.2 hc
        refine ex_bipush (pc := 30) (k := -5) (v := -5) (by decide +kernel) (by decide) ?_
        exact ex_ireturn (pc := 32) (by decide +kernel) rfl rfl h
theorem k_MD_hurt_0 {d bc bs : Nat} {l1 : Int32} {l2 : Int32} {l3 : Int32} {M : Mem} {Φ : Option Value → Mem → Prop} (hF : Fx M) (h : Con d m_MD_givingAt 0 0 [.ref 0, .int l1] M (PR fun r1 M1 => Fx M1 ∧ (r1 = none → Φ (some (.long (-4611686018427387904))) M1) ∧ (∀ a2 : Nat, r1 = some a2 → Con d m_Land_hasTown 0 0 [.ref 1, .int l2] M1 (PB fun r3 M2 => Fx M2 ∧ (r3 = false → Φ (some (.long (-4611686018427387904))) M2) ∧ (r3 = true → Con d m_MD_isWeek 0 0 [.int l3] M2 (PB fun r4 M3 => Fx M3 ∧ (r4 = true → Con d m_Fair_open 0 0 [.ref 51, .ref a2, .int l3] M3 (PV fun M4 => Fx M4 ∧ Con d m_Fair_worthOfAllBut 0 0 [.ref 51, .int l2] M4 (PI fun r5 M5 => Fx M5 ∧ Con d m_Fair_close 0 0 [.ref 51, .int l2] M5 (PV fun M6 => Fx M6 ∧ Con d m_Fair_worthOfAllBut 0 0 [.ref 51, .int l2] M6 (PI fun r6 M7 => Fx M7 ∧ Φ (some (.long (Int32.toInt64 (r6 - r5)))) M7))))) ∧ (r4 = false → Φ (some (.long (-4611686018427387904))) M3))))))) : Ex (d + 1) m_MD_hurt bc bs 0 [some (.ref 0), some (.int l1), some (.int l2), some (.int l3), none, none] [] M Φ := by
  refine ex_aload_n (pc := 0) (k := 0) (by decide +kernel) rfl ?_
  refine ex_iload_n (pc := 1) (k := 1) (by decide +kernel) rfl ?_
  refine ex_callV (pc := 2) (as := [.int l1]) (by decide +kernel) F_MD_givingAt (in_t3 (i := 181) rfl rfl) (hF.s (j := 0) rfl) rfl (by decide) rfl rfl (Nat.le_of_ble_eq_true rfl) (Nat.lt_succ_self _) ⟨Nat.zero_le _, Nat.zero_le _⟩ (KC_R (Con.mono h ?_))
  intro o M1 ⟨r1, e9, hF1, h⟩
  refine ⟨r1, e9, ?_⟩
  cases r1 with
  | none =>
    replace h := h.1 rfl
    show Ex _ _ _ _ _ _ (Value.null :: _) _ _
    refine ex_astoreN (pc := 5) (k := 4) (lo2 := [some (.ref 0), some (.int l1), some (.int l2), some (.int l3), some (.null), none]) (by decide +kernel) (by decide) rfl ?_
    refine ex_aloadN (pc := 7) (k := 4) (by decide +kernel) rfl ?_
    refine ex_ifnullN (pc := 9) (off := 21) (tgt := 30) (by decide +kernel) (by decide) ?_
    refine ex_ldc2 (pc := 30) (v := -4611686018427387904) (by decide +kernel) (in_t3 (i := 106) rfl rfl) ?_
    exact ex_lreturn (pc := 33) (by decide +kernel) rfl h
  | some a2 =>
    replace h := h.2 a2 rfl
    show Ex _ _ _ _ _ _ (Value.ref a2 :: _) _ _
    refine ex_astore (pc := 5) (k := 4) (lo2 := [some (.ref 0), some (.int l1), some (.int l2), some (.int l3), some (.ref a2), none]) (by decide +kernel) (by decide) rfl ?_
    refine ex_aload (pc := 7) (k := 4) (by decide +kernel) rfl ?_
    refine ex_ifnull (pc := 9) (off := 21) (by decide +kernel) ?_
    refine ex_aload_n (pc := 12) (k := 0) (by decide +kernel) rfl ?_
    refine ex_getR (pc := 13) (a := 1) (by decide +kernel) lf_MD_10 (hF1.s (j := 0) rfl) (hF1.r (j := 0) (k := 0) rfl rfl) ?_
    refine ex_iload_n (pc := 16) (k := 2) (by decide +kernel) rfl ?_
    refine ex_callV (pc := 17) (as := [.int l2]) (by decide +kernel) F_Land_hasTown (in_t3 (i := 47) rfl rfl) (hF1.s (j := 1) rfl) rfl (by decide) rfl rfl (Nat.le_of_ble_eq_true rfl) (Nat.lt_succ_self _) ⟨Nat.zero_le _, Nat.zero_le _⟩ (KC_B (Con.mono h ?_))
    intro o M2 ⟨r3, e9, hF2, h⟩
    refine ⟨r3, e9, ?_⟩
    refine ey_ifeqB (pc := 20) (off := 10) (tgt := 30) (by decide +kernel) (by decide) (fun hc => ?_) (fun hc => ?_)
    · replace h := h.1 hc
      refine ex_ldc2 (pc := 30) (v := -4611686018427387904) (by decide +kernel) (in_t3 (i := 106) rfl rfl) ?_
      exact ex_lreturn (pc := 33) (by decide +kernel) rfl h
    · replace h := h.2 hc
      refine ex_iload_n (pc := 23) (k := 3) (by decide +kernel) rfl ?_
      refine ex_callS (pc := 24) (as := [.int l3]) (by decide +kernel) F_MD_isWeek (in_t3 (i := 83) rfl rfl) rfl rfl (Nat.le_of_ble_eq_true rfl) (Nat.lt_succ_self _) ⟨Nat.zero_le _, Nat.zero_le _⟩ (KC_B (Con.mono h ?_))
      intro o M3 ⟨r4, e9, hF3, h⟩
      refine ⟨r4, e9, ?_⟩
      refine ey_ifneB (pc := 27) (off := 7) (tgt := 34) (by decide +kernel) (by decide) (fun hc => ?_) (fun hc => ?_)
      · replace h := h.1 hc
        refine ex_aload_n (pc := 34) (k := 0) (by decide +kernel) rfl ?_
        refine ex_getR (pc := 35) (a := 51) (by decide +kernel) lf_MD_54 (hF3.s (j := 0) rfl) (hF3.r (j := 0) (k := 7) rfl rfl) ?_
        refine ex_aload (pc := 38) (k := 4) (by decide +kernel) rfl ?_
        refine ex_iload_n (pc := 40) (k := 3) (by decide +kernel) rfl ?_
        refine ex_callV (pc := 41) (as := [.ref a2, .int l3]) (by decide +kernel) F_Fair_open (in_t3 (i := 219) rfl rfl) (hF3.s (j := 51) rfl) rfl (by decide) rfl rfl (Nat.le_of_ble_eq_true rfl) (Nat.lt_succ_self _) ⟨Nat.zero_le _, Nat.zero_le _⟩ (KC_V (Con.mono h ?_))
        intro o M4 ⟨e9, hF4, h⟩
        refine ⟨e9, ?_⟩
        refine ex_aload_n (pc := 44) (k := 0) (by decide +kernel) rfl ?_
        refine ex_getR (pc := 45) (a := 51) (by decide +kernel) lf_MD_54 (hF4.s (j := 0) rfl) (hF4.r (j := 0) (k := 7) rfl rfl) ?_
        refine ex_iload_n (pc := 48) (k := 2) (by decide +kernel) rfl ?_
        refine ex_callV (pc := 49) (as := [.int l2]) (by decide +kernel) F_Fair_worthOfAllBut (in_t4 (i := 15) rfl rfl) (hF4.s (j := 51) rfl) rfl (by decide) rfl rfl (Nat.le_of_ble_eq_true rfl) (Nat.lt_succ_self _) ⟨Nat.zero_le _, Nat.zero_le _⟩ (KC_I (Con.mono h ?_))
        intro o M5 ⟨r5, e9, hF5, h⟩
        refine ⟨r5, e9, ?_⟩
        refine ex_istore (pc := 52) (k := 5) (lo2 := [some (.ref 0), some (.int l1), some (.int l2), some (.int l3), some (.ref a2), some (.int r5)]) (by decide +kernel) (by decide) rfl ?_
        refine ex_aload_n (pc := 54) (k := 0) (by decide +kernel) rfl ?_
        refine ex_getR (pc := 55) (a := 51) (by decide +kernel) lf_MD_54 (hF5.s (j := 0) rfl) (hF5.r (j := 0) (k := 7) rfl rfl) ?_
        refine ex_iload_n (pc := 58) (k := 2) (by decide +kernel) rfl ?_
        refine ex_callV (pc := 59) (as := [.int l2]) (by decide +kernel) F_Fair_close (in_t4 (i := 176) rfl rfl) (hF5.s (j := 51) rfl) rfl (by decide) rfl rfl (Nat.le_of_ble_eq_true rfl) (Nat.lt_succ_self _) ⟨Nat.zero_le _, Nat.zero_le _⟩ (KC_V (Con.mono h ?_))
        intro o M6 ⟨e9, hF6, h⟩
        refine ⟨e9, ?_⟩
        refine ex_aload_n (pc := 62) (k := 0) (by decide +kernel) rfl ?_
        refine ex_getR (pc := 63) (a := 51) (by decide +kernel) lf_MD_54 (hF6.s (j := 0) rfl) (hF6.r (j := 0) (k := 7) rfl rfl) ?_
        refine ex_iload_n (pc := 66) (k := 2) (by decide +kernel) rfl ?_
        refine ex_callV (pc := 67) (as := [.int l2]) (by decide +kernel) F_Fair_worthOfAllBut (in_t4 (i := 15) rfl rfl) (hF6.s (j := 51) rfl) rfl (by decide) rfl rfl (Nat.le_of_ble_eq_true rfl) (Nat.lt_succ_self _) ⟨Nat.zero_le _, Nat.zero_le _⟩ (KC_I (Con.mono h ?_))
        intro o M7 ⟨r6, e9, hF7, h⟩
        refine ⟨r6, e9, ?_⟩
        refine ex_iload (pc := 70) (k := 5) (by decide +kernel) rfl ?_
        refine ex_isub (pc := 72) (by decide +kernel) ?_
        refine ex_i2l (pc := 73) (by decide +kernel) ?_
        exact ex_lreturn (pc := 74) (by decide +kernel) rfl h
      · replace h := h.2 hc
        refine ex_ldc2 (pc := 30) (v := -4611686018427387904) (by decide +kernel) (in_t3 (i := 106) rfl rfl) ?_
        exact ex_lreturn (pc := 33) (by decide +kernel) rfl h
theorem k_MD_round_0 {d bc bs : Nat} {l1 : Int32} {l2 : Int32} {l3 : Int32} {l4 : Int32} {l5 : Int32} {M : Mem} {Φ : Option Value → Mem → Prop} (hF : Fx M) (h : Con d m_MD_givingAt 0 0 [.ref 0, .int l1] M (PR fun r1 M1 => Fx M1 ∧ (r1 = none → Con d m_MD_isJourney 0 0 [.ref 0, .null, .int l2, .int l3, .int l4] M1 (PB fun r3 M2 => Fx M2 ∧ (r3 = false → Φ (some (.int (-2))) M2) ∧ (r3 = true → (l5 < 0 → Φ (some (.int (-2))) M2) ∧ (¬ l5 < 0 → (l5 ≤ (nI 40) → Con d m_Fair_open 0 0 [.ref 51, .null, .int l2] M2 (PV fun M3 => Fx M3 ∧ Con d m_Pedlar_findRound 0 0 [.ref 63, .int l3, .int l4, .int l5] M3 (PI fun r4 M4 => Fx M4 ∧ Φ (some (.int r4)) M4))) ∧ (¬ l5 ≤ (nI 40) → Φ (some (.int (-2))) M2))))) ∧ (∀ a2 : Nat, r1 = some a2 → Con d m_MD_isJourney 0 0 [.ref 0, .ref a2, .int l2, .int l3, .int l4] M1 (PB fun r5 M5 => Fx M5 ∧ (r5 = false → Φ (some (.int (-2))) M5) ∧ (r5 = true → (l5 < 0 → Φ (some (.int (-2))) M5) ∧ (¬ l5 < 0 → (l5 ≤ (nI 40) → Con d m_Fair_open 0 0 [.ref 51, .ref a2, .int l2] M5 (PV fun M6 => Fx M6 ∧ Con d m_Pedlar_findRound 0 0 [.ref 63, .int l3, .int l4, .int l5] M6 (PI fun r6 M7 => Fx M7 ∧ Φ (some (.int r6)) M7))) ∧ (¬ l5 ≤ (nI 40) → Φ (some (.int (-2))) M5))))))) : Ex (d + 1) m_MD_round bc bs 0 [some (.ref 0), some (.int l1), some (.int l2), some (.int l3), some (.int l4), some (.int l5), none] [] M Φ := by
  refine ex_aload_n (pc := 0) (k := 0) (by decide +kernel) rfl ?_
  refine ex_iload_n (pc := 1) (k := 1) (by decide +kernel) rfl ?_
  refine ex_callV (pc := 2) (as := [.int l1]) (by decide +kernel) F_MD_givingAt (in_t3 (i := 181) rfl rfl) (hF.s (j := 0) rfl) rfl (by decide) rfl rfl (Nat.le_of_ble_eq_true rfl) (Nat.lt_succ_self _) ⟨Nat.zero_le _, Nat.zero_le _⟩ (KC_R (Con.mono h ?_))
  intro o M1 ⟨r1, e9, hF1, h⟩
  refine ⟨r1, e9, ?_⟩
  cases r1 with
  | none =>
    replace h := h.1 rfl
    show Ex _ _ _ _ _ _ (Value.null :: _) _ _
    refine ex_astoreN (pc := 5) (k := 6) (lo2 := [some (.ref 0), some (.int l1), some (.int l2), some (.int l3), some (.int l4), some (.int l5), some (.null)]) (by decide +kernel) (by decide) rfl ?_
    refine ex_aload_n (pc := 7) (k := 0) (by decide +kernel) rfl ?_
    refine ex_aloadN (pc := 8) (k := 6) (by decide +kernel) rfl ?_
    refine ex_iload_n (pc := 10) (k := 2) (by decide +kernel) rfl ?_
    refine ex_iload_n (pc := 11) (k := 3) (by decide +kernel) rfl ?_
    refine ex_iload (pc := 12) (k := 4) (by decide +kernel) rfl ?_
    refine ex_callV (pc := 14) (as := [.null, .int l2, .int l3, .int l4]) (by decide +kernel) F_MD_isJourney (in_t4 (i := 184) rfl rfl) (hF1.s (j := 0) rfl) rfl (by decide) rfl rfl (Nat.le_of_ble_eq_true rfl) (Nat.lt_succ_self _) ⟨Nat.zero_le _, Nat.zero_le _⟩ (KC_B (Con.mono h ?_))
    intro o M2 ⟨r3, e9, hF2, h⟩
    refine ⟨r3, e9, ?_⟩
    refine ey_ifeqB (pc := 17) (off := 15) (tgt := 32) (by decide +kernel) (by decide) (fun hc => ?_) (fun hc => ?_)
    · replace h := h.1 hc
      refine ex_bipush (pc := 32) (k := -2) (v := -2) (by decide +kernel) (by decide) ?_
      exact ex_ireturn (pc := 34) (by decide +kernel) rfl rfl h
    · replace h := h.2 hc
      refine ex_iload (pc := 20) (k := 5) (by decide +kernel) rfl ?_
      refine ex_if_lt (pc := 22) (off := 10) (tgt := 32) (by decide +kernel) (by decide) (fun hc => ?_) (fun hc => ?_)
      · replace h := h.1 hc
        refine ex_bipush (pc := 32) (k := -2) (v := -2) (by decide +kernel) (by decide) ?_
        exact ex_ireturn (pc := 34) (by decide +kernel) rfl rfl h
      · replace h := h.2 hc
        refine ex_iload (pc := 25) (k := 5) (by decide +kernel) rfl ?_
        refine ex_bipush (pc := 27) (k := 40) (v := nI 40) (by decide +kernel) (by decide) ?_
        refine ex_icmp_le (pc := 29) (off := 6) (tgt := 35) (by decide +kernel) (by decide) (fun hc => ?_) (fun hc => ?_)
        · replace h := h.1 hc
          refine ex_aload_n (pc := 35) (k := 0) (by decide +kernel) rfl ?_
          refine ex_getR (pc := 36) (a := 51) (by decide +kernel) lf_MD_54 (hF2.s (j := 0) rfl) (hF2.r (j := 0) (k := 7) rfl rfl) ?_
          refine ex_aloadN (pc := 39) (k := 6) (by decide +kernel) rfl ?_
          refine ex_iload_n (pc := 41) (k := 2) (by decide +kernel) rfl ?_
          refine ex_callV (pc := 42) (as := [.null, .int l2]) (by decide +kernel) F_Fair_open (in_t3 (i := 219) rfl rfl) (hF2.s (j := 51) rfl) rfl (by decide) rfl rfl (Nat.le_of_ble_eq_true rfl) (Nat.lt_succ_self _) ⟨Nat.zero_le _, Nat.zero_le _⟩ (KC_V (Con.mono h ?_))
          intro o M3 ⟨e9, hF3, h⟩
          refine ⟨e9, ?_⟩
          refine ex_aload_n (pc := 45) (k := 0) (by decide +kernel) rfl ?_
          refine ex_getR (pc := 46) (a := 63) (by decide +kernel) lf_MD_70 (hF3.s (j := 0) rfl) (hF3.r (j := 0) (k := 9) rfl rfl) ?_
          refine ex_iload_n (pc := 49) (k := 3) (by decide +kernel) rfl ?_
          refine ex_iload (pc := 50) (k := 4) (by decide +kernel) rfl ?_
          refine ex_iload (pc := 52) (k := 5) (by decide +kernel) rfl ?_
          refine ex_callV (pc := 54) (as := [.int l3, .int l4, .int l5]) (by decide +kernel) F_Pedlar_findRound (in_t4 (i := 188) rfl rfl) (hF3.s (j := 63) rfl) rfl (by decide) rfl rfl (Nat.le_of_ble_eq_true rfl) (Nat.lt_succ_self _) ⟨Nat.zero_le _, Nat.zero_le _⟩ (KC_I (Con.mono h ?_))
          intro o M4 ⟨r4, e9, hF4, h⟩
          refine ⟨r4, e9, ?_⟩
          exact ex_ireturn (pc := 57) (by decide +kernel) rfl rfl h
        · replace h := h.2 hc
          refine ex_bipush (pc := 32) (k := -2) (v := -2) (by decide +kernel) (by decide) ?_
          exact ex_ireturn (pc := 34) (by decide +kernel) rfl rfl h
  | some a2 =>
    replace h := h.2 a2 rfl
    show Ex _ _ _ _ _ _ (Value.ref a2 :: _) _ _
    refine ex_astore (pc := 5) (k := 6) (lo2 := [some (.ref 0), some (.int l1), some (.int l2), some (.int l3), some (.int l4), some (.int l5), some (.ref a2)]) (by decide +kernel) (by decide) rfl ?_
    refine ex_aload_n (pc := 7) (k := 0) (by decide +kernel) rfl ?_
    refine ex_aload (pc := 8) (k := 6) (by decide +kernel) rfl ?_
    refine ex_iload_n (pc := 10) (k := 2) (by decide +kernel) rfl ?_
    refine ex_iload_n (pc := 11) (k := 3) (by decide +kernel) rfl ?_
    refine ex_iload (pc := 12) (k := 4) (by decide +kernel) rfl ?_
    refine ex_callV (pc := 14) (as := [.ref a2, .int l2, .int l3, .int l4]) (by decide +kernel) F_MD_isJourney (in_t4 (i := 184) rfl rfl) (hF1.s (j := 0) rfl) rfl (by decide) rfl rfl (Nat.le_of_ble_eq_true rfl) (Nat.lt_succ_self _) ⟨Nat.zero_le _, Nat.zero_le _⟩ (KC_B (Con.mono h ?_))
    intro o M5 ⟨r5, e9, hF5, h⟩
    refine ⟨r5, e9, ?_⟩
    refine ey_ifeqB (pc := 17) (off := 15) (tgt := 32) (by decide +kernel) (by decide) (fun hc => ?_) (fun hc => ?_)
    · replace h := h.1 hc
      refine ex_bipush (pc := 32) (k := -2) (v := -2) (by decide +kernel) (by decide) ?_
      exact ex_ireturn (pc := 34) (by decide +kernel) rfl rfl h
    · replace h := h.2 hc
      refine ex_iload (pc := 20) (k := 5) (by decide +kernel) rfl ?_
      refine ex_if_lt (pc := 22) (off := 10) (tgt := 32) (by decide +kernel) (by decide) (fun hc => ?_) (fun hc => ?_)
      · replace h := h.1 hc
        refine ex_bipush (pc := 32) (k := -2) (v := -2) (by decide +kernel) (by decide) ?_
        exact ex_ireturn (pc := 34) (by decide +kernel) rfl rfl h
      · replace h := h.2 hc
        refine ex_iload (pc := 25) (k := 5) (by decide +kernel) rfl ?_
        refine ex_bipush (pc := 27) (k := 40) (v := nI 40) (by decide +kernel) (by decide) ?_
        refine ex_icmp_le (pc := 29) (off := 6) (tgt := 35) (by decide +kernel) (by decide) (fun hc => ?_) (fun hc => ?_)
        · replace h := h.1 hc
          refine ex_aload_n (pc := 35) (k := 0) (by decide +kernel) rfl ?_
          refine ex_getR (pc := 36) (a := 51) (by decide +kernel) lf_MD_54 (hF5.s (j := 0) rfl) (hF5.r (j := 0) (k := 7) rfl rfl) ?_
          refine ex_aload (pc := 39) (k := 6) (by decide +kernel) rfl ?_
          refine ex_iload_n (pc := 41) (k := 2) (by decide +kernel) rfl ?_
          refine ex_callV (pc := 42) (as := [.ref a2, .int l2]) (by decide +kernel) F_Fair_open (in_t3 (i := 219) rfl rfl) (hF5.s (j := 51) rfl) rfl (by decide) rfl rfl (Nat.le_of_ble_eq_true rfl) (Nat.lt_succ_self _) ⟨Nat.zero_le _, Nat.zero_le _⟩ (KC_V (Con.mono h ?_))
          intro o M6 ⟨e9, hF6, h⟩
          refine ⟨e9, ?_⟩
          refine ex_aload_n (pc := 45) (k := 0) (by decide +kernel) rfl ?_
          refine ex_getR (pc := 46) (a := 63) (by decide +kernel) lf_MD_70 (hF6.s (j := 0) rfl) (hF6.r (j := 0) (k := 9) rfl rfl) ?_
          refine ex_iload_n (pc := 49) (k := 3) (by decide +kernel) rfl ?_
          refine ex_iload (pc := 50) (k := 4) (by decide +kernel) rfl ?_
          refine ex_iload (pc := 52) (k := 5) (by decide +kernel) rfl ?_
          refine ex_callV (pc := 54) (as := [.int l3, .int l4, .int l5]) (by decide +kernel) F_Pedlar_findRound (in_t4 (i := 188) rfl rfl) (hF6.s (j := 63) rfl) rfl (by decide) rfl rfl (Nat.le_of_ble_eq_true rfl) (Nat.lt_succ_self _) ⟨Nat.zero_le _, Nat.zero_le _⟩ (KC_I (Con.mono h ?_))
          intro o M7 ⟨r6, e9, hF7, h⟩
          refine ⟨r6, e9, ?_⟩
          exact ex_ireturn (pc := 57) (by decide +kernel) rfl rfl h
        · replace h := h.2 hc
          refine ex_bipush (pc := 32) (k := -2) (v := -2) (by decide +kernel) (by decide) ?_
          exact ex_ireturn (pc := 34) (by decide +kernel) rfl rfl h
theorem k_MD_roundTold_0 {d bc bs : Nat} {l1 : Int32} {M : Mem} {Φ : Option Value → Mem → Prop} (hF : Fx M) (h : (l1 < 0 → Φ (some (.int (-1))) M) ∧ (¬ l1 < 0 → ((mi M 63 3) ≤ l1 → Φ (some (.int (-1))) M) ∧ (¬ (mi M 63 3) ≤ l1 → vp_in l1 7 ∧ Φ (some (.int (mi M 64 l1.toNatClampNeg))) M))) : Ex (d + 1) m_MD_roundTold bc bs 0 [some (.ref 0), some (.int l1)] [] M Φ := by
  refine ex_iload_n (pc := 0) (k := 1) (by decide +kernel) rfl ?_
  refine ex_if_lt (pc := 1) (off := 26) (tgt := 27) (by decide +kernel) (by decide) (fun hc => ?_) (fun hc => ?_)
  · replace h := h.1 hc
    refine ex_iconst (pc := 27) (k := -1) (v := -1) (by decide +kernel) (by decide) ?_
    exact ex_ireturn (pc := 28) (by decide +kernel) rfl rfl h
  · replace h := h.2 hc
    refine ex_iload_n (pc := 4) (k := 1) (by decide +kernel) rfl ?_
    refine ex_aload_n (pc := 5) (k := 0) (by decide +kernel) rfl ?_
    refine ex_getR (pc := 6) (a := 63) (by decide +kernel) lf_MD_70 (hF.s (j := 0) rfl) (hF.r (j := 0) (k := 9) rfl rfl) ?_
    refine ey_getI (pc := 9) (v := mi M 63 3) (by decide +kernel) lf_MD_264 (hF.s (j := 63) rfl) rfl ?_
    refine ex_icmp_ge (pc := 12) (off := 15) (tgt := 27) (by decide +kernel) (by decide) (fun hc => ?_) (fun hc => ?_)
    · replace h := h.1 hc
      refine ex_iconst (pc := 27) (k := -1) (v := -1) (by decide +kernel) (by decide) ?_
      exact ex_ireturn (pc := 28) (by decide +kernel) rfl rfl h
    · replace h := h.2 hc
      refine ex_aload_n (pc := 15) (k := 0) (by decide +kernel) rfl ?_
      refine ex_getR (pc := 16) (a := 63) (by decide +kernel) lf_MD_70 (hF.s (j := 0) rfl) (hF.r (j := 0) (k := 9) rfl rfl) ?_
      refine ex_getR (pc := 19) (a := 64) (by decide +kernel) lf_MD_267 (hF.s (j := 63) rfl) (hF.r (j := 63) (k := 2) rfl rfl) ?_
      refine ex_iload_n (pc := 22) (k := 1) (by decide +kernel) rfl ?_
      obtain ⟨g1, h⟩ := h
      refine ey_iald (pc := 23) (v := mi M 64 l1.toNatClampNeg) (by decide +kernel) (hF.s (j := 64) rfl) g1 rfl rfl ?_
      refine ex_goto (pc := 24) (off := 4) (tgt := 28) (by decide +kernel) (by decide) ?_
      exact ex_ireturn (pc := 28) (by decide +kernel) rfl rfl h
theorem k_MD_walk_0 {d bc bs : Nat} {l1 : Int32} {l2 : Int32} {l3 : Int32} {l4 : Int32} {l5 : Int32} {M : Mem} {Φ : Option Value → Mem → Prop} (hF : Fx M) (h : Con d m_MD_givingAt 0 0 [.ref 0, .int l1] M (PR fun r1 M1 => Fx M1 ∧ (r1 = none → Con d m_MD_sheetAt 0 0 [.ref 0, .int l5] M1 (PR fun r3 M2 => Fx M2 ∧ (r3 = none → Con d m_MD_isJourney 0 0 [.ref 0, .null, .int l2, .int l3, .int l4] M2 (PB fun r5 M3 => Fx M3 ∧ (r5 = false → Φ (some (.int (-2))) M3) ∧ (r5 = true → Φ (some (.int (-2))) M3))) ∧ (∀ a4 : Nat, r3 = some a4 → Con d m_MD_isJourney 0 0 [.ref 0, .null, .int l2, .int l3, .int l4] M2 (PB fun r6 M4 => Fx M4 ∧ (r6 = false → Φ (some (.int (-2))) M4) ∧ (r6 = true → (sh M4)[a4]? = some (8, 3) ∧ Con d m_Sheet_isMissing 0 0 [.ref a4] M4 (PB fun r7 M5 => Fx M5 ∧ (r7 = false → (sh M5)[a4]? = some (8, 3) ∧ (¬ (mi M5 a4 2) = (mi M5 1 9) → Φ (some (.int (-2))) M5) ∧ ((mi M5 a4 2) = (mi M5 1 9) → Con d m_MD_holdsTowns 0 0 [.ref 0, .ref a4] M5 (PB fun r8 M6 => Fx M6 ∧ (r8 = true → Con d m_Fair_open 0 0 [.ref 51, .null, .int l2] M6 (PV fun M7 => Fx M7 ∧ Con d m_Pedlar_follow 0 0 [.ref 63, .ref a4, .int l3, .int l4] M7 (PI fun r9 M8 => Fx M8 ∧ Φ (some (.int r9)) M8))) ∧ (r8 = false → Φ (some (.int (-2))) M6)))) ∧ (r7 = true → Φ (some (.int (-11))) M5))))))) ∧ (∀ a2 : Nat, r1 = some a2 → Con d m_MD_sheetAt 0 0 [.ref 0, .int l5] M1 (PR fun r10 M9 => Fx M9 ∧ (r10 = none → Con d m_MD_isJourney 0 0 [.ref 0, .ref a2, .int l2, .int l3, .int l4] M9 (PB fun r12 M10 => Fx M10 ∧ (r12 = false → Φ (some (.int (-2))) M10) ∧ (r12 = true → Φ (some (.int (-2))) M10))) ∧ (∀ a11 : Nat, r10 = some a11 → Con d m_MD_isJourney 0 0 [.ref 0, .ref a2, .int l2, .int l3, .int l4] M9 (PB fun r13 M11 => Fx M11 ∧ (r13 = false → Φ (some (.int (-2))) M11) ∧ (r13 = true → (sh M11)[a11]? = some (8, 3) ∧ Con d m_Sheet_isMissing 0 0 [.ref a11] M11 (PB fun r14 M12 => Fx M12 ∧ (r14 = false → (sh M12)[a11]? = some (8, 3) ∧ (¬ (mi M12 a11 2) = (mi M12 1 9) → Φ (some (.int (-2))) M12) ∧ ((mi M12 a11 2) = (mi M12 1 9) → Con d m_MD_holdsTowns 0 0 [.ref 0, .ref a11] M12 (PB fun r15 M13 => Fx M13 ∧ (r15 = true → Con d m_Fair_open 0 0 [.ref 51, .ref a2, .int l2] M13 (PV fun M14 => Fx M14 ∧ Con d m_Pedlar_follow 0 0 [.ref 63, .ref a11, .int l3, .int l4] M14 (PI fun r16 M15 => Fx M15 ∧ Φ (some (.int r16)) M15))) ∧ (r15 = false → Φ (some (.int (-2))) M13)))) ∧ (r14 = true → Φ (some (.int (-11))) M12))))))))) : Ex (d + 1) m_MD_walk bc bs 0 [some (.ref 0), some (.int l1), some (.int l2), some (.int l3), some (.int l4), some (.int l5), none, none] [] M Φ := by
  refine ex_aload_n (pc := 0) (k := 0) (by decide +kernel) rfl ?_
  refine ex_iload_n (pc := 1) (k := 1) (by decide +kernel) rfl ?_
  refine ex_callV (pc := 2) (as := [.int l1]) (by decide +kernel) F_MD_givingAt (in_t3 (i := 181) rfl rfl) (hF.s (j := 0) rfl) rfl (by decide) rfl rfl (Nat.le_of_ble_eq_true rfl) (Nat.lt_succ_self _) ⟨Nat.zero_le _, Nat.zero_le _⟩ (KC_R (Con.mono h ?_))
  intro o M1 ⟨r1, e9, hF1, h⟩
  refine ⟨r1, e9, ?_⟩
  cases r1 with
  | none =>
    replace h := h.1 rfl
    show Ex _ _ _ _ _ _ (Value.null :: _) _ _
    refine ex_astoreN (pc := 5) (k := 6) (lo2 := [some (.ref 0), some (.int l1), some (.int l2), some (.int l3), some (.int l4), some (.int l5), some (.null), none]) (by decide +kernel) (by decide) rfl ?_
    refine ex_aload_n (pc := 7) (k := 0) (by decide +kernel) rfl ?_
    refine ex_iload (pc := 8) (k := 5) (by decide +kernel) rfl ?_
    refine ex_callV (pc := 10) (as := [.int l5]) (by decide +kernel) F_MD_sheetAt (in_t3 (i := 142) rfl rfl) (hF1.s (j := 0) rfl) rfl (by decide) rfl rfl (Nat.le_of_ble_eq_true rfl) (Nat.lt_succ_self _) ⟨Nat.zero_le _, Nat.zero_le _⟩ (KC_R (Con.mono h ?_))
    intro o M2 ⟨r3, e9, hF2, h⟩
    refine ⟨r3, e9, ?_⟩
    cases r3 with
    | none =>
      replace h := h.1 rfl
      show Ex _ _ _ _ _ _ (Value.null :: _) _ _
      refine ex_astoreN (pc := 13) (k := 7) (lo2 := [some (.ref 0), some (.int l1), some (.int l2), some (.int l3), some (.int l4), some (.int l5), some (.null), some (.null)]) (by decide +kernel) (by decide) rfl ?_
      refine ex_aload_n (pc := 15) (k := 0) (by decide +kernel) rfl ?_
      refine ex_aloadN (pc := 16) (k := 6) (by decide +kernel) rfl ?_
      refine ex_iload_n (pc := 18) (k := 2) (by decide +kernel) rfl ?_
      refine ex_iload_n (pc := 19) (k := 3) (by decide +kernel) rfl ?_
      refine ex_iload (pc := 20) (k := 4) (by decide +kernel) rfl ?_
      refine ex_callV (pc := 22) (as := [.null, .int l2, .int l3, .int l4]) (by decide +kernel) F_MD_isJourney (in_t4 (i := 184) rfl rfl) (hF2.s (j := 0) rfl) rfl (by decide) rfl rfl (Nat.le_of_ble_eq_true rfl) (Nat.lt_succ_self _) ⟨Nat.zero_le _, Nat.zero_le _⟩ (KC_B (Con.mono h ?_))
      intro o M3 ⟨r5, e9, hF3, h⟩
      refine ⟨r5, e9, ?_⟩
      refine ey_ifeqB (pc := 25) (off := 8) (tgt := 33) (by decide +kernel) (by decide) (fun hc => ?_) (fun hc => ?_)
      · replace h := h.1 hc
        refine ex_bipush (pc := 33) (k := -2) (v := -2) (by decide +kernel) (by decide) ?_
        exact ex_ireturn (pc := 35) (by decide +kernel) rfl rfl h
      · replace h := h.2 hc
        refine ex_aloadN (pc := 28) (k := 7) (by decide +kernel) rfl ?_
        refine ex_ifnonnullN (pc := 30) (off := 6) (by decide +kernel) ?_
        refine ex_bipush (pc := 33) (k := -2) (v := -2) (by decide +kernel) (by decide) ?_
        exact ex_ireturn (pc := 35) (by decide +kernel) rfl rfl h
    | some a4 =>
      replace h := h.2 a4 rfl
      show Ex _ _ _ _ _ _ (Value.ref a4 :: _) _ _
      refine ex_astore (pc := 13) (k := 7) (lo2 := [some (.ref 0), some (.int l1), some (.int l2), some (.int l3), some (.int l4), some (.int l5), some (.null), some (.ref a4)]) (by decide +kernel) (by decide) rfl ?_
      refine ex_aload_n (pc := 15) (k := 0) (by decide +kernel) rfl ?_
      refine ex_aloadN (pc := 16) (k := 6) (by decide +kernel) rfl ?_
      refine ex_iload_n (pc := 18) (k := 2) (by decide +kernel) rfl ?_
      refine ex_iload_n (pc := 19) (k := 3) (by decide +kernel) rfl ?_
      refine ex_iload (pc := 20) (k := 4) (by decide +kernel) rfl ?_
      refine ex_callV (pc := 22) (as := [.null, .int l2, .int l3, .int l4]) (by decide +kernel) F_MD_isJourney (in_t4 (i := 184) rfl rfl) (hF2.s (j := 0) rfl) rfl (by decide) rfl rfl (Nat.le_of_ble_eq_true rfl) (Nat.lt_succ_self _) ⟨Nat.zero_le _, Nat.zero_le _⟩ (KC_B (Con.mono h ?_))
      intro o M4 ⟨r6, e9, hF4, h⟩
      refine ⟨r6, e9, ?_⟩
      refine ey_ifeqB (pc := 25) (off := 8) (tgt := 33) (by decide +kernel) (by decide) (fun hc => ?_) (fun hc => ?_)
      · replace h := h.1 hc
        refine ex_bipush (pc := 33) (k := -2) (v := -2) (by decide +kernel) (by decide) ?_
        exact ex_ireturn (pc := 35) (by decide +kernel) rfl rfl h
      · replace h := h.2 hc
        refine ex_aload (pc := 28) (k := 7) (by decide +kernel) rfl ?_
        refine ex_ifnonnull (pc := 30) (off := 6) (tgt := 36) (by decide +kernel) (by decide) ?_
        refine ex_aload (pc := 36) (k := 7) (by decide +kernel) rfl ?_
        obtain ⟨g1, h⟩ := h
        refine ex_callV (pc := 38) (as := []) (by decide +kernel) F_Sheet_isMissing (in_t3 (i := 146) rfl rfl) g1 rfl (by decide) rfl rfl (Nat.le_of_ble_eq_true rfl) (Nat.lt_succ_self _) ⟨Nat.zero_le _, Nat.zero_le _⟩ (KC_B (Con.mono h ?_))
        intro o M5 ⟨r7, e9, hF5, h⟩
        refine ⟨r7, e9, ?_⟩
        refine ey_ifeqB (pc := 41) (off := 6) (tgt := 47) (by decide +kernel) (by decide) (fun hc => ?_) (fun hc => ?_)
        · replace h := h.1 hc
          refine ex_aload (pc := 47) (k := 7) (by decide +kernel) rfl ?_
          obtain ⟨g2, h⟩ := h
          refine ey_getI (pc := 49) (v := mi M5 a4 2) (by decide +kernel) lf_MD_182 g2 rfl ?_
          refine ex_aload_n (pc := 52) (k := 0) (by decide +kernel) rfl ?_
          refine ex_getR (pc := 53) (a := 1) (by decide +kernel) lf_MD_10 (hF5.s (j := 0) rfl) (hF5.r (j := 0) (k := 0) rfl rfl) ?_
          refine ey_getI (pc := 56) (v := mi M5 1 9) (by decide +kernel) lf_MD_123 (hF5.s (j := 1) rfl) rfl ?_
          refine ex_icmp_ne (pc := 59) (off := 12) (tgt := 71) (by decide +kernel) (by decide) (fun hc => ?_) (fun hc => ?_)
          · replace h := h.1 hc
            refine ex_bipush (pc := 71) (k := -2) (v := -2) (by decide +kernel) (by decide) ?_
            exact ex_ireturn (pc := 73) (by decide +kernel) rfl rfl h
          · replace h := h.2 hc
            refine ex_aload_n (pc := 62) (k := 0) (by decide +kernel) rfl ?_
            refine ex_aload (pc := 63) (k := 7) (by decide +kernel) rfl ?_
            refine ex_callV (pc := 65) (as := [.ref a4]) (by decide +kernel) F_MD_holdsTowns (in_t4 (i := 220) rfl rfl) (hF5.s (j := 0) rfl) rfl (by decide) rfl rfl (Nat.le_of_ble_eq_true rfl) (Nat.lt_succ_self _) ⟨Nat.zero_le _, Nat.zero_le _⟩ (KC_B (Con.mono h ?_))
            intro o M6 ⟨r8, e9, hF6, h⟩
            refine ⟨r8, e9, ?_⟩
            refine ey_ifneB (pc := 68) (off := 6) (tgt := 74) (by decide +kernel) (by decide) (fun hc => ?_) (fun hc => ?_)
            · replace h := h.1 hc
              refine ex_aload_n (pc := 74) (k := 0) (by decide +kernel) rfl ?_
              refine ex_getR (pc := 75) (a := 51) (by decide +kernel) lf_MD_54 (hF6.s (j := 0) rfl) (hF6.r (j := 0) (k := 7) rfl rfl) ?_
              refine ex_aloadN (pc := 78) (k := 6) (by decide +kernel) rfl ?_
              refine ex_iload_n (pc := 80) (k := 2) (by decide +kernel) rfl ?_
              refine ex_callV (pc := 81) (as := [.null, .int l2]) (by decide +kernel) F_Fair_open (in_t3 (i := 219) rfl rfl) (hF6.s (j := 51) rfl) rfl (by decide) rfl rfl (Nat.le_of_ble_eq_true rfl) (Nat.lt_succ_self _) ⟨Nat.zero_le _, Nat.zero_le _⟩ (KC_V (Con.mono h ?_))
              intro o M7 ⟨e9, hF7, h⟩
              refine ⟨e9, ?_⟩
              refine ex_aload_n (pc := 84) (k := 0) (by decide +kernel) rfl ?_
              refine ex_getR (pc := 85) (a := 63) (by decide +kernel) lf_MD_70 (hF7.s (j := 0) rfl) (hF7.r (j := 0) (k := 9) rfl rfl) ?_
              refine ex_aload (pc := 88) (k := 7) (by decide +kernel) rfl ?_
              refine ex_iload_n (pc := 90) (k := 3) (by decide +kernel) rfl ?_
              refine ex_iload (pc := 91) (k := 4) (by decide +kernel) rfl ?_
              refine ex_callV (pc := 93) (as := [.ref a4, .int l3, .int l4]) (by decide +kernel) F_Pedlar_follow (in_t4 (i := 224) rfl rfl) (hF7.s (j := 63) rfl) rfl (by decide) rfl rfl (Nat.le_of_ble_eq_true rfl) (Nat.lt_succ_self _) ⟨Nat.zero_le _, Nat.zero_le _⟩ (KC_I (Con.mono h ?_))
              intro o M8 ⟨r9, e9, hF8, h⟩
              refine ⟨r9, e9, ?_⟩
              exact ex_ireturn (pc := 96) (by decide +kernel) rfl rfl h
            · replace h := h.2 hc
              refine ex_bipush (pc := 71) (k := -2) (v := -2) (by decide +kernel) (by decide) ?_
              exact ex_ireturn (pc := 73) (by decide +kernel) rfl rfl h
        · replace h := h.2 hc
          refine ex_bipush (pc := 44) (k := -11) (v := -11) (by decide +kernel) (by decide) ?_
          exact ex_ireturn (pc := 46) (by decide +kernel) rfl rfl h
  | some a2 =>
    replace h := h.2 a2 rfl
    show Ex _ _ _ _ _ _ (Value.ref a2 :: _) _ _
    refine ex_astore (pc := 5) (k := 6) (lo2 := [some (.ref 0), some (.int l1), some (.int l2), some (.int l3), some (.int l4), some (.int l5), some (.ref a2), none]) (by decide +kernel) (by decide) rfl ?_
    refine ex_aload_n (pc := 7) (k := 0) (by decide +kernel) rfl ?_
    refine ex_iload (pc := 8) (k := 5) (by decide +kernel) rfl ?_
    refine ex_callV (pc := 10) (as := [.int l5]) (by decide +kernel) F_MD_sheetAt (in_t3 (i := 142) rfl rfl) (hF1.s (j := 0) rfl) rfl (by decide) rfl rfl (Nat.le_of_ble_eq_true rfl) (Nat.lt_succ_self _) ⟨Nat.zero_le _, Nat.zero_le _⟩ (KC_R (Con.mono h ?_))
    intro o M9 ⟨r10, e9, hF9, h⟩
    refine ⟨r10, e9, ?_⟩
    cases r10 with
    | none =>
      replace h := h.1 rfl
      show Ex _ _ _ _ _ _ (Value.null :: _) _ _
      refine ex_astoreN (pc := 13) (k := 7) (lo2 := [some (.ref 0), some (.int l1), some (.int l2), some (.int l3), some (.int l4), some (.int l5), some (.ref a2), some (.null)]) (by decide +kernel) (by decide) rfl ?_
      refine ex_aload_n (pc := 15) (k := 0) (by decide +kernel) rfl ?_
      refine ex_aload (pc := 16) (k := 6) (by decide +kernel) rfl ?_
      refine ex_iload_n (pc := 18) (k := 2) (by decide +kernel) rfl ?_
      refine ex_iload_n (pc := 19) (k := 3) (by decide +kernel) rfl ?_
      refine ex_iload (pc := 20) (k := 4) (by decide +kernel) rfl ?_
      refine ex_callV (pc := 22) (as := [.ref a2, .int l2, .int l3, .int l4]) (by decide +kernel) F_MD_isJourney (in_t4 (i := 184) rfl rfl) (hF9.s (j := 0) rfl) rfl (by decide) rfl rfl (Nat.le_of_ble_eq_true rfl) (Nat.lt_succ_self _) ⟨Nat.zero_le _, Nat.zero_le _⟩ (KC_B (Con.mono h ?_))
      intro o M10 ⟨r12, e9, hF10, h⟩
      refine ⟨r12, e9, ?_⟩
      refine ey_ifeqB (pc := 25) (off := 8) (tgt := 33) (by decide +kernel) (by decide) (fun hc => ?_) (fun hc => ?_)
      · replace h := h.1 hc
        refine ex_bipush (pc := 33) (k := -2) (v := -2) (by decide +kernel) (by decide) ?_
        exact ex_ireturn (pc := 35) (by decide +kernel) rfl rfl h
      · replace h := h.2 hc
        refine ex_aloadN (pc := 28) (k := 7) (by decide +kernel) rfl ?_
        refine ex_ifnonnullN (pc := 30) (off := 6) (by decide +kernel) ?_
        refine ex_bipush (pc := 33) (k := -2) (v := -2) (by decide +kernel) (by decide) ?_
        exact ex_ireturn (pc := 35) (by decide +kernel) rfl rfl h
    | some a11 =>
      replace h := h.2 a11 rfl
      show Ex _ _ _ _ _ _ (Value.ref a11 :: _) _ _
      refine ex_astore (pc := 13) (k := 7) (lo2 := [some (.ref 0), some (.int l1), some (.int l2), some (.int l3), some (.int l4), some (.int l5), some (.ref a2), some (.ref a11)]) (by decide +kernel) (by decide) rfl ?_
      refine ex_aload_n (pc := 15) (k := 0) (by decide +kernel) rfl ?_
      refine ex_aload (pc := 16) (k := 6) (by decide +kernel) rfl ?_
      refine ex_iload_n (pc := 18) (k := 2) (by decide +kernel) rfl ?_
      refine ex_iload_n (pc := 19) (k := 3) (by decide +kernel) rfl ?_
      refine ex_iload (pc := 20) (k := 4) (by decide +kernel) rfl ?_
      refine ex_callV (pc := 22) (as := [.ref a2, .int l2, .int l3, .int l4]) (by decide +kernel) F_MD_isJourney (in_t4 (i := 184) rfl rfl) (hF9.s (j := 0) rfl) rfl (by decide) rfl rfl (Nat.le_of_ble_eq_true rfl) (Nat.lt_succ_self _) ⟨Nat.zero_le _, Nat.zero_le _⟩ (KC_B (Con.mono h ?_))
      intro o M11 ⟨r13, e9, hF11, h⟩
      refine ⟨r13, e9, ?_⟩
      refine ey_ifeqB (pc := 25) (off := 8) (tgt := 33) (by decide +kernel) (by decide) (fun hc => ?_) (fun hc => ?_)
      · replace h := h.1 hc
        refine ex_bipush (pc := 33) (k := -2) (v := -2) (by decide +kernel) (by decide) ?_
        exact ex_ireturn (pc := 35) (by decide +kernel) rfl rfl h
      · replace h := h.2 hc
        refine ex_aload (pc := 28) (k := 7) (by decide +kernel) rfl ?_
        refine ex_ifnonnull (pc := 30) (off := 6) (tgt := 36) (by decide +kernel) (by decide) ?_
        refine ex_aload (pc := 36) (k := 7) (by decide +kernel) rfl ?_
        obtain ⟨g3, h⟩ := h
        refine ex_callV (pc := 38) (as := []) (by decide +kernel) F_Sheet_isMissing (in_t3 (i := 146) rfl rfl) g3 rfl (by decide) rfl rfl (Nat.le_of_ble_eq_true rfl) (Nat.lt_succ_self _) ⟨Nat.zero_le _, Nat.zero_le _⟩ (KC_B (Con.mono h ?_))
        intro o M12 ⟨r14, e9, hF12, h⟩
        refine ⟨r14, e9, ?_⟩
        refine ey_ifeqB (pc := 41) (off := 6) (tgt := 47) (by decide +kernel) (by decide) (fun hc => ?_) (fun hc => ?_)
        · replace h := h.1 hc
          refine ex_aload (pc := 47) (k := 7) (by decide +kernel) rfl ?_
          obtain ⟨g4, h⟩ := h
          refine ey_getI (pc := 49) (v := mi M12 a11 2) (by decide +kernel) lf_MD_182 g4 rfl ?_
          refine ex_aload_n (pc := 52) (k := 0) (by decide +kernel) rfl ?_
          refine ex_getR (pc := 53) (a := 1) (by decide +kernel) lf_MD_10 (hF12.s (j := 0) rfl) (hF12.r (j := 0) (k := 0) rfl rfl) ?_
          refine ey_getI (pc := 56) (v := mi M12 1 9) (by decide +kernel) lf_MD_123 (hF12.s (j := 1) rfl) rfl ?_
          refine ex_icmp_ne (pc := 59) (off := 12) (tgt := 71) (by decide +kernel) (by decide) (fun hc => ?_) (fun hc => ?_)
          · replace h := h.1 hc
            refine ex_bipush (pc := 71) (k := -2) (v := -2) (by decide +kernel) (by decide) ?_
            exact ex_ireturn (pc := 73) (by decide +kernel) rfl rfl h
          · replace h := h.2 hc
            refine ex_aload_n (pc := 62) (k := 0) (by decide +kernel) rfl ?_
            refine ex_aload (pc := 63) (k := 7) (by decide +kernel) rfl ?_
            refine ex_callV (pc := 65) (as := [.ref a11]) (by decide +kernel) F_MD_holdsTowns (in_t4 (i := 220) rfl rfl) (hF12.s (j := 0) rfl) rfl (by decide) rfl rfl (Nat.le_of_ble_eq_true rfl) (Nat.lt_succ_self _) ⟨Nat.zero_le _, Nat.zero_le _⟩ (KC_B (Con.mono h ?_))
            intro o M13 ⟨r15, e9, hF13, h⟩
            refine ⟨r15, e9, ?_⟩
            refine ey_ifneB (pc := 68) (off := 6) (tgt := 74) (by decide +kernel) (by decide) (fun hc => ?_) (fun hc => ?_)
            · replace h := h.1 hc
              refine ex_aload_n (pc := 74) (k := 0) (by decide +kernel) rfl ?_
              refine ex_getR (pc := 75) (a := 51) (by decide +kernel) lf_MD_54 (hF13.s (j := 0) rfl) (hF13.r (j := 0) (k := 7) rfl rfl) ?_
              refine ex_aload (pc := 78) (k := 6) (by decide +kernel) rfl ?_
              refine ex_iload_n (pc := 80) (k := 2) (by decide +kernel) rfl ?_
              refine ex_callV (pc := 81) (as := [.ref a2, .int l2]) (by decide +kernel) F_Fair_open (in_t3 (i := 219) rfl rfl) (hF13.s (j := 51) rfl) rfl (by decide) rfl rfl (Nat.le_of_ble_eq_true rfl) (Nat.lt_succ_self _) ⟨Nat.zero_le _, Nat.zero_le _⟩ (KC_V (Con.mono h ?_))
              intro o M14 ⟨e9, hF14, h⟩
              refine ⟨e9, ?_⟩
              refine ex_aload_n (pc := 84) (k := 0) (by decide +kernel) rfl ?_
              refine ex_getR (pc := 85) (a := 63) (by decide +kernel) lf_MD_70 (hF14.s (j := 0) rfl) (hF14.r (j := 0) (k := 9) rfl rfl) ?_
              refine ex_aload (pc := 88) (k := 7) (by decide +kernel) rfl ?_
              refine ex_iload_n (pc := 90) (k := 3) (by decide +kernel) rfl ?_
              refine ex_iload (pc := 91) (k := 4) (by decide +kernel) rfl ?_
              refine ex_callV (pc := 93) (as := [.ref a11, .int l3, .int l4]) (by decide +kernel) F_Pedlar_follow (in_t4 (i := 224) rfl rfl) (hF14.s (j := 63) rfl) rfl (by decide) rfl rfl (Nat.le_of_ble_eq_true rfl) (Nat.lt_succ_self _) ⟨Nat.zero_le _, Nat.zero_le _⟩ (KC_I (Con.mono h ?_))
              intro o M15 ⟨r16, e9, hF15, h⟩
              refine ⟨r16, e9, ?_⟩
              exact ex_ireturn (pc := 96) (by decide +kernel) rfl rfl h
            · replace h := h.2 hc
              refine ex_bipush (pc := 71) (k := -2) (v := -2) (by decide +kernel) (by decide) ?_
              exact ex_ireturn (pc := 73) (by decide +kernel) rfl rfl h
        · replace h := h.2 hc
          refine ex_bipush (pc := 44) (k := -11) (v := -11) (by decide +kernel) (by decide) ?_
          exact ex_ireturn (pc := 46) (by decide +kernel) rfl rfl h
theorem k_MD_isJourney_0 {d bc bs : Nat} {l1 : Nat} {l2 : Int32} {l3 : Int32} {l4 : Int32} {M : Mem} {Φ : Option Value → Mem → Prop} (hF : Fx M) (h : Con d m_MD_isWeek 0 0 [.int l2] M (PB fun r1 M1 => Fx M1 ∧ (r1 = false → Φ (some (.int (b2i false))) M1) ∧ (r1 = true → Con d m_Land_hasTown 0 0 [.ref 1, .int l3] M1 (PB fun r2 M2 => Fx M2 ∧ (r2 = false → Φ (some (.int (b2i false))) M2) ∧ (r2 = true → (l4 < 0 → Φ (some (.int (b2i false))) M2) ∧ (¬ l4 < 0 → ((nI 50) < l4 → Φ (some (.int (b2i false))) M2) ∧ (¬ (nI 50) < l4 → Φ (some (.int (b2i true))) M2))))))) : Ex (d + 1) m_MD_isJourney bc bs 0 [some (.ref 0), some (.ref l1), some (.int l2), some (.int l3), some (.int l4)] [] M Φ := by
  refine ex_aload_n (pc := 0) (k := 1) (by decide +kernel) rfl ?_
  refine ex_ifnull (pc := 1) (off := 37) (by decide +kernel) ?_
  refine ex_iload_n (pc := 4) (k := 2) (by decide +kernel) rfl ?_
  refine ex_callS (pc := 5) (as := [.int l2]) (by decide +kernel) F_MD_isWeek (in_t3 (i := 83) rfl rfl) rfl rfl (Nat.le_of_ble_eq_true rfl) (Nat.lt_succ_self _) ⟨Nat.zero_le _, Nat.zero_le _⟩ (KC_B (Con.mono h ?_))
  intro o M1 ⟨r1, e9, hF1, h⟩
  refine ⟨r1, e9, ?_⟩
  refine ey_ifeqB (pc := 8) (off := 30) (tgt := 38) (by decide +kernel) (by decide) (fun hc => ?_) (fun hc => ?_)
  · replace h := h.1 hc
    refine ex_iconst (pc := 38) (k := 0) (v := nI 0) (by decide +kernel) (by decide) ?_
    exact ex_ireturn (pc := 39) (v := b2i false) (by decide +kernel) rfl (b2i_n _) h
  · replace h := h.2 hc
    refine ex_aload_n (pc := 11) (k := 0) (by decide +kernel) rfl ?_
    refine ex_getR (pc := 12) (a := 1) (by decide +kernel) lf_MD_10 (hF1.s (j := 0) rfl) (hF1.r (j := 0) (k := 0) rfl rfl) ?_
    refine ex_iload_n (pc := 15) (k := 3) (by decide +kernel) rfl ?_
    refine ex_callV (pc := 16) (as := [.int l3]) (by decide +kernel) F_Land_hasTown (in_t3 (i := 47) rfl rfl) (hF1.s (j := 1) rfl) rfl (by decide) rfl rfl (Nat.le_of_ble_eq_true rfl) (Nat.lt_succ_self _) ⟨Nat.zero_le _, Nat.zero_le _⟩ (KC_B (Con.mono h ?_))
    intro o M2 ⟨r2, e9, hF2, h⟩
    refine ⟨r2, e9, ?_⟩
    refine ey_ifeqB (pc := 19) (off := 19) (tgt := 38) (by decide +kernel) (by decide) (fun hc => ?_) (fun hc => ?_)
    · replace h := h.1 hc
      refine ex_iconst (pc := 38) (k := 0) (v := nI 0) (by decide +kernel) (by decide) ?_
      exact ex_ireturn (pc := 39) (v := b2i false) (by decide +kernel) rfl (b2i_n _) h
    · replace h := h.2 hc
      refine ex_iload (pc := 22) (k := 4) (by decide +kernel) rfl ?_
      refine ex_if_lt (pc := 24) (off := 14) (tgt := 38) (by decide +kernel) (by decide) (fun hc => ?_) (fun hc => ?_)
      · replace h := h.1 hc
        refine ex_iconst (pc := 38) (k := 0) (v := nI 0) (by decide +kernel) (by decide) ?_
        exact ex_ireturn (pc := 39) (v := b2i false) (by decide +kernel) rfl (b2i_n _) h
      · replace h := h.2 hc
        refine ex_iload (pc := 27) (k := 4) (by decide +kernel) rfl ?_
        refine ex_bipush (pc := 29) (k := 50) (v := nI 50) (by decide +kernel) (by decide) ?_
        refine ex_icmp_gt (pc := 31) (off := 7) (tgt := 38) (by decide +kernel) (by decide) (fun hc => ?_) (fun hc => ?_)
        · replace h := h.1 hc
          refine ex_iconst (pc := 38) (k := 0) (v := nI 0) (by decide +kernel) (by decide) ?_
          exact ex_ireturn (pc := 39) (v := b2i false) (by decide +kernel) rfl (b2i_n _) h
        · replace h := h.2 hc
          refine ex_iconst (pc := 34) (k := 1) (v := nI 1) (by decide +kernel) (by decide) ?_
          refine ex_goto (pc := 35) (off := 4) (tgt := 39) (by decide +kernel) (by decide) ?_
          exact ex_ireturn (pc := 39) (v := b2i true) (by decide +kernel) rfl (b2i_n _) h
theorem k_MD_holdsTowns_0 {d bc bs : Nat} {l1 : Nat} {M : Mem} {Φ : Option Value → Mem → Prop} (hF : Fx M) (h : Ex (d + 1) m_MD_holdsTowns bc bs 2 [some (.ref 0), some (.ref l1), some (.int (nI 0))] [] M Φ) : Ex (d + 1) m_MD_holdsTowns bc bs 0 [some (.ref 0), some (.ref l1), none] [] M Φ := by
  refine ex_iconst (pc := 0) (k := 0) (v := nI 0) (by decide +kernel) (by decide) ?_
  refine ex_istore_n (pc := 1) (k := 2) (lo2 := [some (.ref 0), some (.ref l1), some (.int (nI 0))]) (by decide +kernel) (by decide) rfl ?_
  exact h
theorem k_MD_holdsTowns_2 {d bc bs : Nat} {l1 : Nat} {l2 : Int32} {M : Mem} {Φ : Option Value → Mem → Prop} (hF : Fx M) (h : (sh M)[l1]? = some (8, 3) ∧ ((mi M l1 2) ≤ l2 → Φ (some (.int (b2i true))) M) ∧ (¬ (mi M l1 2) ≤ l2 → (sh M)[l1]? = some (8, 3) ∧ ∃ a1 : Nat, mr M l1 0 = some a1 ∧ ∃ N2 : Nat, (sh M)[a1]? = some (100, N2) ∧ vp_in l2 N2 ∧ Con d m_Land_hasTown 0 0 [.ref 1, .int (mi M a1 l2.toNatClampNeg)] M (PB fun r3 M1 => Fx M1 ∧ (r3 = true → Ex (d + 1) m_MD_holdsTowns bc bs 2 [some (.ref 0), some (.ref l1), some (.int (l2 + nI 1))] [] M1 Φ) ∧ (r3 = false → Φ (some (.int (b2i false))) M1)))) : Ex (d + 1) m_MD_holdsTowns bc bs 2 [some (.ref 0), some (.ref l1), some (.int l2)] [] M Φ := by
  refine ex_iload_n (pc := 2) (k := 2) (by decide +kernel) rfl ?_
  refine ex_aload_n (pc := 3) (k := 1) (by decide +kernel) rfl ?_
  obtain ⟨g1, h⟩ := h
  refine ey_getI (pc := 4) (v := mi M l1 2) (by decide +kernel) lf_MD_182 g1 rfl ?_
  refine ex_icmp_ge (pc := 7) (off := 27) (tgt := 34) (by decide +kernel) (by decide) (fun hc => ?_) (fun hc => ?_)
  · replace h := h.1 hc
    refine ex_iconst (pc := 34) (k := 1) (v := nI 1) (by decide +kernel) (by decide) ?_
    exact ex_ireturn (pc := 35) (v := b2i true) (by decide +kernel) rfl (b2i_n _) h
  · replace h := h.2 hc
    refine ex_aload_n (pc := 10) (k := 0) (by decide +kernel) rfl ?_
    refine ex_getR (pc := 11) (a := 1) (by decide +kernel) lf_MD_10 (hF.s (j := 0) rfl) (hF.r (j := 0) (k := 0) rfl rfl) ?_
    refine ex_aload_n (pc := 14) (k := 1) (by decide +kernel) rfl ?_
    obtain ⟨g2, h⟩ := h
    obtain ⟨a1, g3, h⟩ := h
    refine ex_getR (pc := 15) (a := a1) (by decide +kernel) lf_MD_187 g2 g3 ?_
    refine ex_iload_n (pc := 18) (k := 2) (by decide +kernel) rfl ?_
    obtain ⟨N2, g4, h⟩ := h
    obtain ⟨g5, h⟩ := h
    refine ey_iald (pc := 19) (v := mi M a1 l2.toNatClampNeg) (by decide +kernel) g4 g5 rfl rfl ?_
    refine ex_callV (pc := 20) (as := [.int (mi M a1 l2.toNatClampNeg)]) (by decide +kernel) F_Land_hasTown (in_t3 (i := 47) rfl rfl) (hF.s (j := 1) rfl) rfl (by decide) rfl rfl (Nat.le_of_ble_eq_true rfl) (Nat.lt_succ_self _) ⟨Nat.zero_le _, Nat.zero_le _⟩ (KC_B (Con.mono h ?_))
    intro o M1 ⟨r3, e9, hF1, h⟩
    refine ⟨r3, e9, ?_⟩
    refine ey_ifneB (pc := 23) (off := 5) (tgt := 28) (by decide +kernel) (by decide) (fun hc => ?_) (fun hc => ?_)
    · replace h := h.1 hc
      refine ex_iinc (pc := 28) (i := 2) (k := 1) (v := l2 + nI 1) (lo2 := [some (.ref 0), some (.ref l1), some (.int (l2 + nI 1))]) (by decide +kernel) (by decide) rfl rfl rfl ?_
      refine ex_goto (pc := 31) (off := -29) (tgt := 2) (by decide +kernel) (by decide) ?_
      exact h
    · replace h := h.2 hc
      refine ex_iconst (pc := 26) (k := 0) (v := nI 0) (by decide +kernel) (by decide) ?_
      exact ex_ireturn (pc := 27) (v := b2i false) (by decide +kernel) rfl (b2i_n _) h
theorem k_MD_count_0 {d bc bs : Nat} {l1 : Int32} {M : Mem} {Φ : Option Value → Mem → Prop} (hF : Fx M) (h : (l1 = nI 0 → Φ (some (.int (mi M 1 8))) M) ∧ (l1 = nI 1 → Φ (some (.int (mi M 1 9))) M) ∧ (l1 = nI 2 → Φ (some (.int (mi M 1 10))) M) ∧ (l1 = nI 3 → Φ (some (.int (mi M 0 6))) M) ∧ (l1 = nI 4 → Φ (some (.int (mi M 46 2))) M) ∧ (l1 = nI 5 → Φ (some (.int (mi M 1 11))) M) ∧ (l1 = nI 6 → Φ (some (.int (mi M 43 1))) M) ∧ (¬ l1 = nI 0 → ¬ l1 = nI 1 → ¬ l1 = nI 2 → ¬ l1 = nI 3 → ¬ l1 = nI 4 → ¬ l1 = nI 5 → ¬ l1 = nI 6 → Φ (some (.int (-2))) M)) : Ex (d + 1) m_MD_count bc bs 0 [some (.ref 0), some (.int l1)] [] M Φ := by
  refine ex_iload_n (pc := 0) (k := 1) (by decide +kernel) rfl ?_
  by_cases hc : l1 = nI 0
  · replace h := h.1 hc
    rw [hc]
    refine ex_tableIn (pc := 1) (dflt := 96) (l9 := 0) (h9 := 6) (offs := #[43, 51, 59, 67, 72, 80, 88]) (len := 43) (off := 43) (tgt := 44) (by decide +kernel) (by decide) (by decide) (by decide +kernel) (by decide) ?_
    refine ex_aload_n (pc := 44) (k := 0) (by decide +kernel) rfl ?_
    refine ex_getR (pc := 45) (a := 1) (by decide +kernel) lf_MD_10 (hF.s (j := 0) rfl) (hF.r (j := 0) (k := 0) rfl rfl) ?_
    refine ey_getI (pc := 48) (v := mi M 1 8) (by decide +kernel) lf_MD_109 (hF.s (j := 1) rfl) rfl ?_
    exact ex_ireturn (pc := 51) (by decide +kernel) rfl rfl h
  replace h := h.2
  have n0 := hc
  by_cases hc : l1 = nI 1
  · replace h := h.1 hc
    rw [hc]
    refine ex_tableIn (pc := 1) (dflt := 96) (l9 := 0) (h9 := 6) (offs := #[43, 51, 59, 67, 72, 80, 88]) (len := 43) (off := 51) (tgt := 52) (by decide +kernel) (by decide) (by decide) (by decide +kernel) (by decide) ?_
    refine ex_aload_n (pc := 52) (k := 0) (by decide +kernel) rfl ?_
    refine ex_getR (pc := 53) (a := 1) (by decide +kernel) lf_MD_10 (hF.s (j := 0) rfl) (hF.r (j := 0) (k := 0) rfl rfl) ?_
    refine ey_getI (pc := 56) (v := mi M 1 9) (by decide +kernel) lf_MD_123 (hF.s (j := 1) rfl) rfl ?_
    exact ex_ireturn (pc := 59) (by decide +kernel) rfl rfl h
  replace h := h.2
  have n1 := hc
  by_cases hc : l1 = nI 2
  · replace h := h.1 hc
    rw [hc]
    refine ex_tableIn (pc := 1) (dflt := 96) (l9 := 0) (h9 := 6) (offs := #[43, 51, 59, 67, 72, 80, 88]) (len := 43) (off := 59) (tgt := 60) (by decide +kernel) (by decide) (by decide) (by decide +kernel) (by decide) ?_
    refine ex_aload_n (pc := 60) (k := 0) (by decide +kernel) rfl ?_
    refine ex_getR (pc := 61) (a := 1) (by decide +kernel) lf_MD_10 (hF.s (j := 0) rfl) (hF.r (j := 0) (k := 0) rfl rfl) ?_
    refine ey_getI (pc := 64) (v := mi M 1 10) (by decide +kernel) lf_MD_150 (hF.s (j := 1) rfl) rfl ?_
    exact ex_ireturn (pc := 67) (by decide +kernel) rfl rfl h
  replace h := h.2
  have n2 := hc
  by_cases hc : l1 = nI 3
  · replace h := h.1 hc
    rw [hc]
    refine ex_tableIn (pc := 1) (dflt := 96) (l9 := 0) (h9 := 6) (offs := #[43, 51, 59, 67, 72, 80, 88]) (len := 43) (off := 67) (tgt := 68) (by decide +kernel) (by decide) (by decide) (by decide +kernel) (by decide) ?_
    refine ex_aload_n (pc := 68) (k := 0) (by decide +kernel) rfl ?_
    refine ey_getI (pc := 69) (v := mi M 0 6) (by decide +kernel) lf_MD_45 (hF.s (j := 0) rfl) rfl ?_
    exact ex_ireturn (pc := 72) (by decide +kernel) rfl rfl h
  replace h := h.2
  have n3 := hc
  by_cases hc : l1 = nI 4
  · replace h := h.1 hc
    rw [hc]
    refine ex_tableIn (pc := 1) (dflt := 96) (l9 := 0) (h9 := 6) (offs := #[43, 51, 59, 67, 72, 80, 88]) (len := 43) (off := 72) (tgt := 73) (by decide +kernel) (by decide) (by decide) (by decide +kernel) (by decide) ?_
    refine ex_aload_n (pc := 73) (k := 0) (by decide +kernel) rfl ?_
    refine ex_getR (pc := 74) (a := 46) (by decide +kernel) lf_MD_35 (hF.s (j := 0) rfl) (hF.r (j := 0) (k := 4) rfl rfl) ?_
    refine ey_getI (pc := 77) (v := mi M 46 2) (by decide +kernel) lf_MD_156 (hF.s (j := 46) rfl) rfl ?_
    exact ex_ireturn (pc := 80) (by decide +kernel) rfl rfl h
  replace h := h.2
  have n4 := hc
  by_cases hc : l1 = nI 5
  · replace h := h.1 hc
    rw [hc]
    refine ex_tableIn (pc := 1) (dflt := 96) (l9 := 0) (h9 := 6) (offs := #[43, 51, 59, 67, 72, 80, 88]) (len := 43) (off := 80) (tgt := 81) (by decide +kernel) (by decide) (by decide) (by decide +kernel) (by decide) ?_
    refine ex_aload_n (pc := 81) (k := 0) (by decide +kernel) rfl ?_
    refine ex_getR (pc := 82) (a := 1) (by decide +kernel) lf_MD_10 (hF.s (j := 0) rfl) (hF.r (j := 0) (k := 0) rfl rfl) ?_
    refine ey_getI (pc := 85) (v := mi M 1 11) (by decide +kernel) lf_MD_162 (hF.s (j := 1) rfl) rfl ?_
    exact ex_ireturn (pc := 88) (by decide +kernel) rfl rfl h
  replace h := h.2
  have n5 := hc
  by_cases hc : l1 = nI 6
  · replace h := h.1 hc
    rw [hc]
    refine ex_tableIn (pc := 1) (dflt := 96) (l9 := 0) (h9 := 6) (offs := #[43, 51, 59, 67, 72, 80, 88]) (len := 43) (off := 88) (tgt := 89) (by decide +kernel) (by decide) (by decide) (by decide +kernel) (by decide) ?_
    refine ex_aload_n (pc := 89) (k := 0) (by decide +kernel) rfl ?_
    refine ex_getR (pc := 90) (a := 43) (by decide +kernel) lf_MD_26 (hF.s (j := 0) rfl) (hF.r (j := 0) (k := 3) rfl rfl) ?_
    refine ey_getI (pc := 93) (v := mi M 43 1) (by decide +kernel) lf_MD_153 (hF.s (j := 43) rfl) rfl ?_
    exact ex_ireturn (pc := 96) (by decide +kernel) rfl rfl h
  replace h := h.2
  have n6 := hc
  refine ex_tableOut (pc := 1) (dflt := 96) (l9 := 0) (h9 := 6) (offs := #[43, 51, 59, 67, 72, 80, 88]) (len := 43) (tgt := 97) (by decide +kernel) (tab_out (fun q hq1 hq2 => ?_)) (by decide) ?_
  · rcases (show q = (0 : Int) ∨ q = (1 : Int) ∨ q = (2 : Int) ∨ q = (3 : Int) ∨ q = (4 : Int) ∨ q = (5 : Int) ∨ q = (6 : Int) by omega) with rfl | rfl | rfl | rfl | rfl | rfl | rfl
    · rw [show Int32.ofInt (0) = nI 0 by decide]; exact n0
    · rw [show Int32.ofInt (1) = nI 1 by decide]; exact n1
    · rw [show Int32.ofInt (2) = nI 2 by decide]; exact n2
    · rw [show Int32.ofInt (3) = nI 3 by decide]; exact n3
    · rw [show Int32.ofInt (4) = nI 4 by decide]; exact n4
    · rw [show Int32.ofInt (5) = nI 5 by decide]; exact n5
    · rw [show Int32.ofInt (6) = nI 6 by decide]; exact n6
  · replace h := h n0 n1 n2 n3 n4 n5 n6
    refine ex_bipush (pc := 97) (k := -2) (v := -2) (by decide +kernel) (by decide) ?_
    exact ex_ireturn (pc := 99) (by decide +kernel) rfl rfl h
theorem k_MD_image_0 {d bc bs : Nat}  {M : Mem} {Φ : Option Value → Mem → Prop} (hF : Fx M) (h : Con d m_Land_become 0 0 [.ref 22, .ref 1] M (PV fun M1 => Fx M1 ∧ Φ (some (.int (mi M1 1 8))) (wi M1 0 2 (nI 1)))) : Ex (d + 1) m_MD_image bc bs 0 [some (.ref 0)] [] M Φ := by
  refine ex_aload_n (pc := 0) (k := 0) (by decide +kernel) rfl ?_
  refine ex_getR (pc := 1) (a := 22) (by decide +kernel) lf_MD_16 (hF.s (j := 0) rfl) (hF.r (j := 0) (k := 1) rfl rfl) ?_
  refine ex_aload_n (pc := 4) (k := 0) (by decide +kernel) rfl ?_
  refine ex_getR (pc := 5) (a := 1) (by decide +kernel) lf_MD_10 (hF.s (j := 0) rfl) (hF.r (j := 0) (k := 0) rfl rfl) ?_
  refine ex_callV (pc := 8) (as := [.ref 1]) (by decide +kernel) F_Land_become (in_t4 (i := 236) rfl rfl) (hF.s (j := 22) rfl) rfl (by decide) rfl rfl (Nat.le_of_ble_eq_true rfl) (Nat.lt_succ_self _) ⟨Nat.zero_le _, Nat.zero_le _⟩ (KC_V (Con.mono h ?_))
  intro o M1 ⟨e9, hF1, h⟩
  refine ⟨e9, ?_⟩
  refine ex_aload_n (pc := 11) (k := 0) (by decide +kernel) rfl ?_
  refine ex_iconst (pc := 12) (k := 1) (v := nI 1) (by decide +kernel) (by decide) ?_
  refine ex_putI (pc := 13) (index := 19) (ci := 0) (k := 2) (fin := false) (by decide +kernel) ⟨_, _, _, _, cf_MD, by decide, in_t2 (i := 238) rfl rfl, rfl, (fun h => by cases h), by decide, rfl⟩ rfl (fun h => by cases h) (hF1.s (j := 0) rfl) ?_
  refine ex_aload_n (pc := 16) (k := 0) (by decide +kernel) rfl ?_
  refine ex_getR (pc := 17) (a := 1) (by decide +kernel) lf_MD_10 (hF1.s (j := 0) rfl) (hF1.r (j := 0) (k := 0) rfl rfl) ?_
  refine ey_getI (pc := 20) (v := mi M1 1 8) (by decide +kernel) lf_MD_109 (hF1.s (j := 1) rfl) rfl ?_
  exact ex_ireturn (pc := 23) (by decide +kernel) rfl rfl h
theorem k_MD_back_0 {d bc bs : Nat}  {M : Mem} {Φ : Option Value → Mem → Prop} (hF : Fx M) (h : (¬ (mi M 0 2) = 0 → Con d m_Land_become 0 0 [.ref 1, .ref 22] M (PV fun M1 => Fx M1 ∧ Φ (some (.int (mi M1 1 8))) M1)) ∧ ((mi M 0 2) = 0 → Φ (some (.int (-3))) M)) : Ex (d + 1) m_MD_back bc bs 0 [some (.ref 0)] [] M Φ := by
  refine ex_aload_n (pc := 0) (k := 0) (by decide +kernel) rfl ?_
  refine ey_getI (pc := 1) (v := mi M 0 2) (by decide +kernel) lf_MD_19 (hF.s (j := 0) rfl) rfl ?_
  refine ex_if_ne (pc := 4) (off := 6) (tgt := 10) (by decide +kernel) (by decide) (fun hc => ?_) (fun hc => ?_)
  · replace h := h.1 hc
    refine ex_aload_n (pc := 10) (k := 0) (by decide +kernel) rfl ?_
    refine ex_getR (pc := 11) (a := 1) (by decide +kernel) lf_MD_10 (hF.s (j := 0) rfl) (hF.r (j := 0) (k := 0) rfl rfl) ?_
    refine ex_aload_n (pc := 14) (k := 0) (by decide +kernel) rfl ?_
    refine ex_getR (pc := 15) (a := 22) (by decide +kernel) lf_MD_16 (hF.s (j := 0) rfl) (hF.r (j := 0) (k := 1) rfl rfl) ?_
    refine ex_callV (pc := 18) (as := [.ref 22]) (by decide +kernel) F_Land_become (in_t4 (i := 236) rfl rfl) (hF.s (j := 1) rfl) rfl (by decide) rfl rfl (Nat.le_of_ble_eq_true rfl) (Nat.lt_succ_self _) ⟨Nat.zero_le _, Nat.zero_le _⟩ (KC_V (Con.mono h ?_))
    intro o M1 ⟨e9, hF1, h⟩
    refine ⟨e9, ?_⟩
    refine ex_aload_n (pc := 21) (k := 0) (by decide +kernel) rfl ?_
    refine ex_getR (pc := 22) (a := 1) (by decide +kernel) lf_MD_10 (hF1.s (j := 0) rfl) (hF1.r (j := 0) (k := 0) rfl rfl) ?_
    refine ey_getI (pc := 25) (v := mi M1 1 8) (by decide +kernel) lf_MD_109 (hF1.s (j := 1) rfl) rfl ?_
    exact ex_ireturn (pc := 28) (by decide +kernel) rfl rfl h
  · replace h := h.2 hc
    refine ex_bipush (pc := 7) (k := -3) (v := -3) (by decide +kernel) (by decide) ?_
    exact ex_ireturn (pc := 9) (by decide +kernel) rfl rfl h
theorem k_MD_sheet_0 {d bc bs : Nat} {l1 : Int32} {l2 : Int32} {l3 : Int32} {M : Mem} {Φ : Option Value → Mem → Prop} (hF : Fx M) (h : Con d m_MD_sheetAt 0 0 [.ref 0, .int l1] M (PR fun r1 M1 => Fx M1 ∧ (r1 = none → Φ (some (.int (-2))) M1) ∧ (∀ a2 : Nat, r1 = some a2 → (l2 < (-1) → Φ (some (.int (-2))) M1) ∧ (¬ l2 < (-1) → ((nI 3) ≤ l2 → Φ (some (.int (-2))) M1) ∧ (¬ (nI 3) ≤ l2 → (l2 = (-1) → Ex (d + 1) m_MD_sheet bc bs 36 [some (.ref 0), some (.int l1), some (.int l2), some (.int l3), some (.ref a2)] [] M1 Φ) ∧ (¬ l2 = (-1) → (l3 ≤ (nI 40) → Ex (d + 1) m_MD_sheet bc bs 36 [some (.ref 0), some (.int l1), some (.int l2), some (.int l3), some (.ref a2)] [] M1 Φ) ∧ (¬ l3 ≤ (nI 40) → Φ (some (.int (-2))) M1))))))) : Ex (d + 1) m_MD_sheet bc bs 0 [some (.ref 0), some (.int l1), some (.int l2), some (.int l3), none] [] M Φ := by
  refine ex_aload_n (pc := 0) (k := 0) (by decide +kernel) rfl ?_
  refine ex_iload_n (pc := 1) (k := 1) (by decide +kernel) rfl ?_
  refine ex_callV (pc := 2) (as := [.int l1]) (by decide +kernel) F_MD_sheetAt (in_t3 (i := 142) rfl rfl) (hF.s (j := 0) rfl) rfl (by decide) rfl rfl (Nat.le_of_ble_eq_true rfl) (Nat.lt_succ_self _) ⟨Nat.zero_le _, Nat.zero_le _⟩ (KC_R (Con.mono h ?_))
  intro o M1 ⟨r1, e9, hF1, h⟩
  refine ⟨r1, e9, ?_⟩
  cases r1 with
  | none =>
    replace h := h.1 rfl
    show Ex _ _ _ _ _ _ (Value.null :: _) _ _
    refine ex_astoreN (pc := 5) (k := 4) (lo2 := [some (.ref 0), some (.int l1), some (.int l2), some (.int l3), some (.null)]) (by decide +kernel) (by decide) rfl ?_
    refine ex_aloadN (pc := 7) (k := 4) (by decide +kernel) rfl ?_
    refine ex_ifnullN (pc := 9) (off := 24) (tgt := 33) (by decide +kernel) (by decide) ?_
    refine ex_bipush (pc := 33) (k := -2) (v := -2) (by decide +kernel) (by decide) ?_
    exact ex_ireturn (pc := 35) (by decide +kernel) rfl rfl h
  | some a2 =>
    replace h := h.2 a2 rfl
    show Ex _ _ _ _ _ _ (Value.ref a2 :: _) _ _
    refine ex_astore (pc := 5) (k := 4) (lo2 := [some (.ref 0), some (.int l1), some (.int l2), some (.int l3), some (.ref a2)]) (by decide +kernel) (by decide) rfl ?_
    refine ex_aload (pc := 7) (k := 4) (by decide +kernel) rfl ?_
    refine ex_ifnull (pc := 9) (off := 24) (by decide +kernel) ?_
    refine ex_iload_n (pc := 12) (k := 2) (by decide +kernel) rfl ?_
    refine ex_iconst (pc := 13) (k := -1) (v := -1) (by decide +kernel) (by decide) ?_
    refine ex_icmp_lt (pc := 14) (off := 19) (tgt := 33) (by decide +kernel) (by decide) (fun hc => ?_) (fun hc => ?_)
    · replace h := h.1 hc
      refine ex_bipush (pc := 33) (k := -2) (v := -2) (by decide +kernel) (by decide) ?_
      exact ex_ireturn (pc := 35) (by decide +kernel) rfl rfl h
    · replace h := h.2 hc
      refine ex_iload_n (pc := 17) (k := 2) (by decide +kernel) rfl ?_
      refine ex_iconst (pc := 18) (k := 3) (v := nI 3) (by decide +kernel) (by decide) ?_
      refine ex_icmp_ge (pc := 19) (off := 14) (tgt := 33) (by decide +kernel) (by decide) (fun hc => ?_) (fun hc => ?_)
      · replace h := h.1 hc
        refine ex_bipush (pc := 33) (k := -2) (v := -2) (by decide +kernel) (by decide) ?_
        exact ex_ireturn (pc := 35) (by decide +kernel) rfl rfl h
      · replace h := h.2 hc
        refine ex_iload_n (pc := 22) (k := 2) (by decide +kernel) rfl ?_
        refine ex_iconst (pc := 23) (k := -1) (v := -1) (by decide +kernel) (by decide) ?_
        refine ex_icmp_eq (pc := 24) (off := 12) (tgt := 36) (by decide +kernel) (by decide) (fun hc => ?_) (fun hc => ?_)
        · replace h := h.1 hc
          exact h
        · replace h := h.2 hc
          refine ex_iload_n (pc := 27) (k := 3) (by decide +kernel) rfl ?_
          refine ex_bipush (pc := 28) (k := 40) (v := nI 40) (by decide +kernel) (by decide) ?_
          refine ex_icmp_le (pc := 30) (off := 6) (tgt := 36) (by decide +kernel) (by decide) (fun hc => ?_) (fun hc => ?_)
          · replace h := h.1 hc
            exact h
          · replace h := h.2 hc
            refine ex_bipush (pc := 33) (k := -2) (v := -2) (by decide +kernel) (by decide) ?_
            exact ex_ireturn (pc := 35) (by decide +kernel) rfl rfl h
theorem k_MD_sheet_36 {d bc bs : Nat} {l1 : Int32} {l2 : Int32} {l3 : Int32} {l4 : Nat} {M : Mem} {Φ : Option Value → Mem → Prop} (hF : Fx M) (h : (l2 = (-1) → Ex (d + 1) m_MD_sheet bc bs 48 [some (.ref 0), some (.int l1), some (.int l2), some (.int l3), some (.ref l4)] [] M Φ) ∧ (¬ l2 = (-1) → (0 ≤ l3 → Ex (d + 1) m_MD_sheet bc bs 48 [some (.ref 0), some (.int l1), some (.int l2), some (.int l3), some (.ref l4)] [] M Φ) ∧ (¬ 0 ≤ l3 → Φ (some (.int (-14))) M))) : Ex (d + 1) m_MD_sheet bc bs 36 [some (.ref 0), some (.int l1), some (.int l2), some (.int l3), some (.ref l4)] [] M Φ := by
  refine ex_iload_n (pc := 36) (k := 2) (by decide +kernel) rfl ?_
  refine ex_iconst (pc := 37) (k := -1) (v := -1) (by decide +kernel) (by decide) ?_
  refine ex_icmp_eq (pc := 38) (off := 10) (tgt := 48) (by decide +kernel) (by decide) (fun hc => ?_) (fun hc => ?_)
  · replace h := h.1 hc
    exact h
  · replace h := h.2 hc
    refine ex_iload_n (pc := 41) (k := 3) (by decide +kernel) rfl ?_
    refine ex_if_ge (pc := 42) (off := 6) (tgt := 48) (by decide +kernel) (by decide) (fun hc => ?_) (fun hc => ?_)
    · replace h := h.1 hc
      exact h
    · replace h := h.2 hc
      refine ex_bipush (pc := 45) (k := -14) (v := -14) (by decide +kernel) (by decide) ?_
      exact ex_ireturn (pc := 47) (by decide +kernel) rfl rfl h
theorem k_MD_sheet_48 {d bc bs : Nat} {l1 : Int32} {l2 : Int32} {l3 : Int32} {l4 : Nat} {M : Mem} {Φ : Option Value → Mem → Prop} (hF : Fx M) (h : (sh M)[l4]? = some (8, 3) ∧ Con d m_Sheet_become 0 0 [.ref l4, .int l2, .int l3] M (PV fun M1 => Fx M1 ∧ Φ (some (.int (nI 1))) M1)) : Ex (d + 1) m_MD_sheet bc bs 48 [some (.ref 0), some (.int l1), some (.int l2), some (.int l3), some (.ref l4)] [] M Φ := by
  refine ex_aload (pc := 48) (k := 4) (by decide +kernel) rfl ?_
  refine ex_iload_n (pc := 50) (k := 2) (by decide +kernel) rfl ?_
  refine ex_iload_n (pc := 51) (k := 3) (by decide +kernel) rfl ?_
  obtain ⟨g1, h⟩ := h
  refine ex_callV (pc := 52) (as := [.int l2, .int l3]) (by decide +kernel) F_Sheet_become (in_t5 (i := 9) rfl rfl) g1 rfl (by decide) rfl rfl (Nat.le_of_ble_eq_true rfl) (Nat.lt_succ_self _) ⟨Nat.zero_le _, Nat.zero_le _⟩ (KC_V (Con.mono h ?_))
  intro o M1 ⟨e9, hF1, h⟩
  refine ⟨e9, ?_⟩
  refine ex_iconst (pc := 55) (k := 1) (v := nI 1) (by decide +kernel) (by decide) ?_
  exact ex_ireturn (pc := 56) (by decide +kernel) rfl rfl h
theorem k_MD_cell_0 {d bc bs : Nat} {l1 : Int32} {l2 : Int32} {l3 : Int32} {M : Mem} {Φ : Option Value → Mem → Prop} (hF : Fx M) (h : Con d m_MD_sheetAt 0 0 [.ref 0, .int l1] M (PR fun r1 M1 => Fx M1 ∧ (r1 = none → Φ (some (.int (-2))) M1) ∧ (∀ a2 : Nat, r1 = some a2 → (sh M1)[a2]? = some (8, 3) ∧ Con d m_Sheet_isMissing 0 0 [.ref a2] M1 (PB fun r3 M2 => Fx M2 ∧ (r3 = false → (sh M2)[a2]? = some (8, 3) ∧ Con d m_Sheet_write 0 0 [.ref a2, .int l2, .int l3] M2 (PB fun r4 M3 => Fx M3 ∧ (r4 = false → Φ (some (.int (-12))) M3) ∧ (r4 = true → Φ (some (.int (nI 1))) M3))) ∧ (r3 = true → Φ (some (.int (-11))) M2))))) : Ex (d + 1) m_MD_cell bc bs 0 [some (.ref 0), some (.int l1), some (.int l2), some (.int l3), none] [] M Φ := by
  refine ex_aload_n (pc := 0) (k := 0) (by decide +kernel) rfl ?_
  refine ex_iload_n (pc := 1) (k := 1) (by decide +kernel) rfl ?_
  refine ex_callV (pc := 2) (as := [.int l1]) (by decide +kernel) F_MD_sheetAt (in_t3 (i := 142) rfl rfl) (hF.s (j := 0) rfl) rfl (by decide) rfl rfl (Nat.le_of_ble_eq_true rfl) (Nat.lt_succ_self _) ⟨Nat.zero_le _, Nat.zero_le _⟩ (KC_R (Con.mono h ?_))
  intro o M1 ⟨r1, e9, hF1, h⟩
  refine ⟨r1, e9, ?_⟩
  cases r1 with
  | none =>
    replace h := h.1 rfl
    show Ex _ _ _ _ _ _ (Value.null :: _) _ _
    refine ex_astoreN (pc := 5) (k := 4) (lo2 := [some (.ref 0), some (.int l1), some (.int l2), some (.int l3), some (.null)]) (by decide +kernel) (by decide) rfl ?_
    refine ex_aloadN (pc := 7) (k := 4) (by decide +kernel) rfl ?_
    refine ex_ifnonnullN (pc := 9) (off := 6) (by decide +kernel) ?_
    refine ex_bipush (pc := 12) (k := -2) (v := -2) (by decide +kernel) (by decide) ?_
    exact ex_ireturn (pc := 14) (by decide +kernel) rfl rfl h
  | some a2 =>
    replace h := h.2 a2 rfl
    show Ex _ _ _ _ _ _ (Value.ref a2 :: _) _ _
    refine ex_astore (pc := 5) (k := 4) (lo2 := [some (.ref 0), some (.int l1), some (.int l2), some (.int l3), some (.ref a2)]) (by decide +kernel) (by decide) rfl ?_
    refine ex_aload (pc := 7) (k := 4) (by decide +kernel) rfl ?_
    refine ex_ifnonnull (pc := 9) (off := 6) (tgt := 15) (by decide +kernel) (by decide) ?_
    refine ex_aload (pc := 15) (k := 4) (by decide +kernel) rfl ?_
    obtain ⟨g1, h⟩ := h
    refine ex_callV (pc := 17) (as := []) (by decide +kernel) F_Sheet_isMissing (in_t3 (i := 146) rfl rfl) g1 rfl (by decide) rfl rfl (Nat.le_of_ble_eq_true rfl) (Nat.lt_succ_self _) ⟨Nat.zero_le _, Nat.zero_le _⟩ (KC_B (Con.mono h ?_))
    intro o M2 ⟨r3, e9, hF2, h⟩
    refine ⟨r3, e9, ?_⟩
    refine ey_ifeqB (pc := 20) (off := 6) (tgt := 26) (by decide +kernel) (by decide) (fun hc => ?_) (fun hc => ?_)
    · replace h := h.1 hc
      refine ex_aload (pc := 26) (k := 4) (by decide +kernel) rfl ?_
      refine ex_iload_n (pc := 28) (k := 2) (by decide +kernel) rfl ?_
      refine ex_iload_n (pc := 29) (k := 3) (by decide +kernel) rfl ?_
      obtain ⟨g2, h⟩ := h
      refine ex_callV (pc := 30) (as := [.int l2, .int l3]) (by decide +kernel) F_Sheet_write (in_t5 (i := 18) rfl rfl) g2 rfl (by decide) rfl rfl (Nat.le_of_ble_eq_true rfl) (Nat.lt_succ_self _) ⟨Nat.zero_le _, Nat.zero_le _⟩ (KC_B (Con.mono h ?_))
      intro o M3 ⟨r4, e9, hF3, h⟩
      refine ⟨r4, e9, ?_⟩
      refine ey_ifeqB (pc := 33) (off := 7) (tgt := 40) (by decide +kernel) (by decide) (fun hc => ?_) (fun hc => ?_)
      · replace h := h.1 hc
        refine ex_bipush (pc := 40) (k := -12) (v := -12) (by decide +kernel) (by decide) ?_
        exact ex_ireturn (pc := 42) (by decide +kernel) rfl rfl h
      · replace h := h.2 hc
        refine ex_iconst (pc := 36) (k := 1) (v := nI 1) (by decide +kernel) (by decide) ?_
        refine ex_goto (pc := 37) (off := 5) (tgt := 42) (by decide +kernel) (by decide) ?_
        exact ex_ireturn (pc := 42) (by decide +kernel) rfl rfl h
    · replace h := h.2 hc
      refine ex_bipush (pc := 23) (k := -11) (v := -11) (by decide +kernel) (by decide) ?_
      exact ex_ireturn (pc := 25) (by decide +kernel) rfl rfl h
theorem k_MD_copy_0 {d bc bs : Nat} {l1 : Int32} {l2 : Int32} {l3 : Int32} {l4 : Int32} {l5 : Int32} {M : Mem} {Φ : Option Value → Mem → Prop} (hF : Fx M) (h : Con d m_MD_sheetAt 0 0 [.ref 0, .int l1] M (PR fun r1 M1 => Fx M1 ∧ (r1 = none → Con d m_MD_sheetAt 0 0 [.ref 0, .int l3] M1 (PR fun r3 M2 => Fx M2 ∧ (r3 = none → Φ (some (.int (-2))) M2) ∧ (∀ a4 : Nat, r3 = some a4 → Φ (some (.int (-2))) M2))) ∧ (∀ a2 : Nat, r1 = some a2 → Con d m_MD_sheetAt 0 0 [.ref 0, .int l3] M1 (PR fun r5 M3 => Fx M3 ∧ (r5 = none → Φ (some (.int (-2))) M3) ∧ (∀ a6 : Nat, r5 = some a6 → (sh M3)[a2]? = some (8, 3) ∧ Con d m_Sheet_isMissing 0 0 [.ref a2] M3 (PB fun r7 M4 => Fx M4 ∧ (r7 = true → Φ (some (.int (-11))) M4) ∧ (r7 = false → (sh M4)[a6]? = some (8, 3) ∧ Con d m_Sheet_isMissing 0 0 [.ref a6] M4 (PB fun r8 M5 => Fx M5 ∧ (r8 = false → (sh M5)[a2]? = some (8, 3) ∧ (sh M5)[a6]? = some (8, 3) ∧ ((mi M5 a2 1) = (mi M5 a6 1) → (sh M5)[a2]? = some (8, 3) ∧ Con d m_Sheet_spans 0 0 [.ref a2, .long (Int32.toInt64 l2), .int l5] M5 (PB fun r9 M6 => Fx M6 ∧ (r9 = false → Φ (some (.int (-12))) M6) ∧ (r9 = true → (sh M6)[a6]? = some (8, 3) ∧ Con d m_Sheet_spans 0 0 [.ref a6, .long (Int32.toInt64 l4), .int l5] M6 (PB fun r10 M7 => Fx M7 ∧ (r10 = true → (sh M7)[a2]? = some (8, 3) ∧ ∃ a11 : Nat, mr M7 a2 0 = some a11 ∧ (sh M7)[a6]? = some (8, 3) ∧ ∃ a12 : Nat, mr M7 a6 0 = some a12 ∧ ∃ N13 N14 : Nat, (sh M7)[a11]? = some (100, N13) ∧ (sh M7)[a12]? = some (100, N14) ∧ ¬ l2 < 0 ∧ ¬ l4 < 0 ∧ ¬ l5 < 0 ∧ l2.toNatClampNeg + l5.toNatClampNeg ≤ N13 ∧ l4.toNatClampNeg + l5.toNatClampNeg ≤ N14 ∧ Φ (some (.int l5)) (wrow M7 a12 (va_cpy (mi M7 a11) (mi M7 a12) l2.toNatClampNeg l4.toNatClampNeg l5.toNatClampNeg))) ∧ (r10 = false → Φ (some (.int (-12))) M7))))) ∧ (¬ (mi M5 a2 1) = (mi M5 a6 1) → Φ (some (.int (-13))) M5)) ∧ (r8 = true → Φ (some (.int (-11))) M5))))))))) : Ex (d + 1) m_MD_copy bc bs 0 [some (.ref 0), some (.int l1), some (.int l2), some (.int l3), some (.int l4), some (.int l5), none, none] [] M Φ := by
  refine ex_aload_n (pc := 0) (k := 0) (by decide +kernel) rfl ?_
  refine ex_iload_n (pc := 1) (k := 1) (by decide +kernel) rfl ?_
  refine ex_callV (pc := 2) (as := [.int l1]) (by decide +kernel) F_MD_sheetAt (in_t3 (i := 142) rfl rfl) (hF.s (j := 0) rfl) rfl (by decide) rfl rfl (Nat.le_of_ble_eq_true rfl) (Nat.lt_succ_self _) ⟨Nat.zero_le _, Nat.zero_le _⟩ (KC_R (Con.mono h ?_))
  intro o M1 ⟨r1, e9, hF1, h⟩
  refine ⟨r1, e9, ?_⟩
  cases r1 with
  | none =>
    replace h := h.1 rfl
    show Ex _ _ _ _ _ _ (Value.null :: _) _ _
    refine ex_astoreN (pc := 5) (k := 6) (lo2 := [some (.ref 0), some (.int l1), some (.int l2), some (.int l3), some (.int l4), some (.int l5), some (.null), none]) (by decide +kernel) (by decide) rfl ?_
    refine ex_aload_n (pc := 7) (k := 0) (by decide +kernel) rfl ?_
    refine ex_iload_n (pc := 8) (k := 3) (by decide +kernel) rfl ?_
    refine ex_callV (pc := 9) (as := [.int l3]) (by decide +kernel) F_MD_sheetAt (in_t3 (i := 142) rfl rfl) (hF1.s (j := 0) rfl) rfl (by decide) rfl rfl (Nat.le_of_ble_eq_true rfl) (Nat.lt_succ_self _) ⟨Nat.zero_le _, Nat.zero_le _⟩ (KC_R (Con.mono h ?_))
    intro o M2 ⟨r3, e9, hF2, h⟩
    refine ⟨r3, e9, ?_⟩
    cases r3 with
    | none =>
      replace h := h.1 rfl
      show Ex _ _ _ _ _ _ (Value.null :: _) _ _
      refine ex_astoreN (pc := 12) (k := 7) (lo2 := [some (.ref 0), some (.int l1), some (.int l2), some (.int l3), some (.int l4), some (.int l5), some (.null), some (.null)]) (by decide +kernel) (by decide) rfl ?_
      refine ex_aloadN (pc := 14) (k := 6) (by decide +kernel) rfl ?_
      refine ex_ifnullN (pc := 16) (off := 8) (tgt := 24) (by decide +kernel) (by decide) ?_
      refine ex_bipush (pc := 24) (k := -2) (v := -2) (by decide +kernel) (by decide) ?_
      exact ex_ireturn (pc := 26) (by decide +kernel) rfl rfl h
    | some a4 =>
      replace h := h.2 a4 rfl
      show Ex _ _ _ _ _ _ (Value.ref a4 :: _) _ _
      refine ex_astore (pc := 12) (k := 7) (lo2 := [some (.ref 0), some (.int l1), some (.int l2), some (.int l3), some (.int l4), some (.int l5), some (.null), some (.ref a4)]) (by decide +kernel) (by decide) rfl ?_
      refine ex_aloadN (pc := 14) (k := 6) (by decide +kernel) rfl ?_
      refine ex_ifnullN (pc := 16) (off := 8) (tgt := 24) (by decide +kernel) (by decide) ?_
      refine ex_bipush (pc := 24) (k := -2) (v := -2) (by decide +kernel) (by decide) ?_
      exact ex_ireturn (pc := 26) (by decide +kernel) rfl rfl h
  | some a2 =>
    replace h := h.2 a2 rfl
    show Ex _ _ _ _ _ _ (Value.ref a2 :: _) _ _
    refine ex_astore (pc := 5) (k := 6) (lo2 := [some (.ref 0), some (.int l1), some (.int l2), some (.int l3), some (.int l4), some (.int l5), some (.ref a2), none]) (by decide +kernel) (by decide) rfl ?_
    refine ex_aload_n (pc := 7) (k := 0) (by decide +kernel) rfl ?_
    refine ex_iload_n (pc := 8) (k := 3) (by decide +kernel) rfl ?_
    refine ex_callV (pc := 9) (as := [.int l3]) (by decide +kernel) F_MD_sheetAt (in_t3 (i := 142) rfl rfl) (hF1.s (j := 0) rfl) rfl (by decide) rfl rfl (Nat.le_of_ble_eq_true rfl) (Nat.lt_succ_self _) ⟨Nat.zero_le _, Nat.zero_le _⟩ (KC_R (Con.mono h ?_))
    intro o M3 ⟨r5, e9, hF3, h⟩
    refine ⟨r5, e9, ?_⟩
    cases r5 with
    | none =>
      replace h := h.1 rfl
      show Ex _ _ _ _ _ _ (Value.null :: _) _ _
      refine ex_astoreN (pc := 12) (k := 7) (lo2 := [some (.ref 0), some (.int l1), some (.int l2), some (.int l3), some (.int l4), some (.int l5), some (.ref a2), some (.null)]) (by decide +kernel) (by decide) rfl ?_
      refine ex_aload (pc := 14) (k := 6) (by decide +kernel) rfl ?_
      refine ex_ifnull (pc := 16) (off := 8) (by decide +kernel) ?_
      refine ex_aloadN (pc := 19) (k := 7) (by decide +kernel) rfl ?_
      refine ex_ifnonnullN (pc := 21) (off := 6) (by decide +kernel) ?_
      refine ex_bipush (pc := 24) (k := -2) (v := -2) (by decide +kernel) (by decide) ?_
      exact ex_ireturn (pc := 26) (by decide +kernel) rfl rfl h
    | some a6 =>
      replace h := h.2 a6 rfl
      show Ex _ _ _ _ _ _ (Value.ref a6 :: _) _ _
      refine ex_astore (pc := 12) (k := 7) (lo2 := [some (.ref 0), some (.int l1), some (.int l2), some (.int l3), some (.int l4), some (.int l5), some (.ref a2), some (.ref a6)]) (by decide +kernel) (by decide) rfl ?_
      refine ex_aload (pc := 14) (k := 6) (by decide +kernel) rfl ?_
      refine ex_ifnull (pc := 16) (off := 8) (by decide +kernel) ?_
      refine ex_aload (pc := 19) (k := 7) (by decide +kernel) rfl ?_
      refine ex_ifnonnull (pc := 21) (off := 6) (tgt := 27) (by decide +kernel) (by decide) ?_
      refine ex_aload (pc := 27) (k := 6) (by decide +kernel) rfl ?_
      obtain ⟨g1, h⟩ := h
      refine ex_callV (pc := 29) (as := []) (by decide +kernel) F_Sheet_isMissing (in_t3 (i := 146) rfl rfl) g1 rfl (by decide) rfl rfl (Nat.le_of_ble_eq_true rfl) (Nat.lt_succ_self _) ⟨Nat.zero_le _, Nat.zero_le _⟩ (KC_B (Con.mono h ?_))
      intro o M4 ⟨r7, e9, hF4, h⟩
      refine ⟨r7, e9, ?_⟩
      refine ey_ifneB (pc := 32) (off := 11) (tgt := 43) (by decide +kernel) (by decide) (fun hc => ?_) (fun hc => ?_)
      · replace h := h.1 hc
        refine ex_bipush (pc := 43) (k := -11) (v := -11) (by decide +kernel) (by decide) ?_
        exact ex_ireturn (pc := 45) (by decide +kernel) rfl rfl h
      · replace h := h.2 hc
        refine ex_aload (pc := 35) (k := 7) (by decide +kernel) rfl ?_
        obtain ⟨g2, h⟩ := h
        refine ex_callV (pc := 37) (as := []) (by decide +kernel) F_Sheet_isMissing (in_t3 (i := 146) rfl rfl) g2 rfl (by decide) rfl rfl (Nat.le_of_ble_eq_true rfl) (Nat.lt_succ_self _) ⟨Nat.zero_le _, Nat.zero_le _⟩ (KC_B (Con.mono h ?_))
        intro o M5 ⟨r8, e9, hF5, h⟩
        refine ⟨r8, e9, ?_⟩
        refine ey_ifeqB (pc := 40) (off := 6) (tgt := 46) (by decide +kernel) (by decide) (fun hc => ?_) (fun hc => ?_)
        · replace h := h.1 hc
          refine ex_aload (pc := 46) (k := 6) (by decide +kernel) rfl ?_
          obtain ⟨g3, h⟩ := h
          refine ey_getI (pc := 48) (v := mi M5 a2 1) (by decide +kernel) lf_MD_287 g3 rfl ?_
          refine ex_aload (pc := 51) (k := 7) (by decide +kernel) rfl ?_
          obtain ⟨g4, h⟩ := h
          refine ey_getI (pc := 53) (v := mi M5 a6 1) (by decide +kernel) lf_MD_287 g4 rfl ?_
          refine ex_icmp_eq (pc := 56) (off := 6) (tgt := 62) (by decide +kernel) (by decide) (fun hc => ?_) (fun hc => ?_)
          · replace h := h.1 hc
            refine ex_aload (pc := 62) (k := 6) (by decide +kernel) rfl ?_
            refine ex_iload_n (pc := 64) (k := 2) (by decide +kernel) rfl ?_
            refine ex_i2l (pc := 65) (by decide +kernel) ?_
            refine ex_iload (pc := 66) (k := 5) (by decide +kernel) rfl ?_
            obtain ⟨g5, h⟩ := h
            refine ex_callV (pc := 68) (as := [.long (Int32.toInt64 l2), .int l5]) (by decide +kernel) F_Sheet_spans (in_t5 (i := 30) rfl rfl) g5 rfl (by decide) rfl rfl (Nat.le_of_ble_eq_true rfl) (Nat.lt_succ_self _) ⟨Nat.zero_le _, Nat.zero_le _⟩ (KC_B (Con.mono h ?_))
            intro o M6 ⟨r9, e9, hF6, h⟩
            refine ⟨r9, e9, ?_⟩
            refine ey_ifeqB (pc := 71) (off := 16) (tgt := 87) (by decide +kernel) (by decide) (fun hc => ?_) (fun hc => ?_)
            · replace h := h.1 hc
              refine ex_bipush (pc := 87) (k := -12) (v := -12) (by decide +kernel) (by decide) ?_
              exact ex_ireturn (pc := 89) (by decide +kernel) rfl rfl h
            · replace h := h.2 hc
              refine ex_aload (pc := 74) (k := 7) (by decide +kernel) rfl ?_
              refine ex_iload (pc := 76) (k := 4) (by decide +kernel) rfl ?_
              refine ex_i2l (pc := 78) (by decide +kernel) ?_
              refine ex_iload (pc := 79) (k := 5) (by decide +kernel) rfl ?_
              obtain ⟨g6, h⟩ := h
              refine ex_callV (pc := 81) (as := [.long (Int32.toInt64 l4), .int l5]) (by decide +kernel) F_Sheet_spans (in_t5 (i := 30) rfl rfl) g6 rfl (by decide) rfl rfl (Nat.le_of_ble_eq_true rfl) (Nat.lt_succ_self _) ⟨Nat.zero_le _, Nat.zero_le _⟩ (KC_B (Con.mono h ?_))
              intro o M7 ⟨r10, e9, hF7, h⟩
              refine ⟨r10, e9, ?_⟩
              refine ey_ifneB (pc := 84) (off := 6) (tgt := 90) (by decide +kernel) (by decide) (fun hc => ?_) (fun hc => ?_)
              · replace h := h.1 hc
                refine ex_aload (pc := 90) (k := 6) (by decide +kernel) rfl ?_
                obtain ⟨g7, h⟩ := h
                obtain ⟨a11, g8, h⟩ := h
                refine ex_getR (pc := 92) (a := a11) (by decide +kernel) lf_MD_187 g7 g8 ?_
                refine ex_iload_n (pc := 95) (k := 2) (by decide +kernel) rfl ?_
                refine ex_aload (pc := 96) (k := 7) (by decide +kernel) rfl ?_
                obtain ⟨g9, h⟩ := h
                obtain ⟨a12, g10, h⟩ := h
                refine ex_getR (pc := 98) (a := a12) (by decide +kernel) lf_MD_187 g9 g10 ?_
                refine ex_iload (pc := 101) (k := 4) (by decide +kernel) rfl ?_
                refine ex_iload (pc := 103) (k := 5) (by decide +kernel) rfl ?_
                obtain ⟨N13, N14, g11, g12, g13, g14, g15, g16, g17, h⟩ := h
                refine ex_acopy (pc := 105) (by decide +kernel) (in_t5 (i := 31) rfl rfl) g11 g12 g13 g14 g15 g16 g17 (Nat.le_of_ble_eq_true rfl) (Nat.succ_le_succ (Nat.zero_le _)) ?_
                refine ex_iload (pc := 108) (k := 5) (by decide +kernel) rfl ?_
                exact ex_ireturn (pc := 110) (by decide +kernel) rfl rfl h
              · replace h := h.2 hc
                refine ex_bipush (pc := 87) (k := -12) (v := -12) (by decide +kernel) (by decide) ?_
                exact ex_ireturn (pc := 89) (by decide +kernel) rfl rfl h
          · replace h := h.2 hc
            refine ex_bipush (pc := 59) (k := -13) (v := -13) (by decide +kernel) (by decide) ?_
            exact ex_ireturn (pc := 61) (by decide +kernel) rfl rfl h
        · replace h := h.2 hc
          refine ex_bipush (pc := 43) (k := -11) (v := -11) (by decide +kernel) (by decide) ?_
          exact ex_ireturn (pc := 45) (by decide +kernel) rfl rfl h
theorem k_MD_roads_0 {d bc bs : Nat} {l1 : Int32} {l2 : Int32} {l3 : Int32} {l4 : Int32} {M : Mem} {Φ : Option Value → Mem → Prop} (hF : Fx M) (h : Con d m_MD_sheetAt 0 0 [.ref 0, .int l1] M (PR fun r1 M1 => Fx M1 ∧ (r1 = none → Φ (some (.int (-2))) M1) ∧ (∀ a2 : Nat, r1 = some a2 → (l2 < 0 → Φ (some (.int (-2))) M1) ∧ (¬ l2 < 0 → ((nI 3) ≤ l2 → Φ (some (.int (-2))) M1) ∧ (¬ (nI 3) ≤ l2 → (l4 < 0 → Φ (some (.int (-2))) M1) ∧ (¬ l4 < 0 → (l4 ≤ (nI 13) → (sh M1)[a2]? = some (8, 3) ∧ Con d m_Sheet_isMissing 0 0 [.ref a2] M1 (PB fun r3 M2 => Fx M2 ∧ (r3 = false → (sh M2)[a2]? = some (8, 3) ∧ ((mi M2 a2 1) = l2 → Ex (d + 1) m_MD_roads bc bs 65 [some (.ref 0), some (.int l1), some (.int l2), some (.int l3), some (.int l4), some (.ref a2), some (.int (nI 0)), some (.int (nI 0)), none, none, none] [] M2 Φ) ∧ (¬ (mi M2 a2 1) = l2 → Φ (some (.int (-13))) M2)) ∧ (r3 = true → Φ (some (.int (-11))) M2))) ∧ (¬ l4 ≤ (nI 13) → Φ (some (.int (-2))) M1))))))) : Ex (d + 1) m_MD_roads bc bs 0 [some (.ref 0), some (.int l1), some (.int l2), some (.int l3), some (.int l4), none, none, none, none, none, none] [] M Φ := by
  refine ex_aload_n (pc := 0) (k := 0) (by decide +kernel) rfl ?_
  refine ex_iload_n (pc := 1) (k := 1) (by decide +kernel) rfl ?_
  refine ex_callV (pc := 2) (as := [.int l1]) (by decide +kernel) F_MD_sheetAt (in_t3 (i := 142) rfl rfl) (hF.s (j := 0) rfl) rfl (by decide) rfl rfl (Nat.le_of_ble_eq_true rfl) (Nat.lt_succ_self _) ⟨Nat.zero_le _, Nat.zero_le _⟩ (KC_R (Con.mono h ?_))
  intro o M1 ⟨r1, e9, hF1, h⟩
  refine ⟨r1, e9, ?_⟩
  cases r1 with
  | none =>
    replace h := h.1 rfl
    show Ex _ _ _ _ _ _ (Value.null :: _) _ _
    refine ex_astoreN (pc := 5) (k := 5) (lo2 := [some (.ref 0), some (.int l1), some (.int l2), some (.int l3), some (.int l4), some (.null), none, none, none, none, none]) (by decide +kernel) (by decide) rfl ?_
    refine ex_aloadN (pc := 7) (k := 5) (by decide +kernel) rfl ?_
    refine ex_ifnullN (pc := 9) (off := 24) (tgt := 33) (by decide +kernel) (by decide) ?_
    refine ex_bipush (pc := 33) (k := -2) (v := -2) (by decide +kernel) (by decide) ?_
    exact ex_ireturn (pc := 35) (by decide +kernel) rfl rfl h
  | some a2 =>
    replace h := h.2 a2 rfl
    show Ex _ _ _ _ _ _ (Value.ref a2 :: _) _ _
    refine ex_astore (pc := 5) (k := 5) (lo2 := [some (.ref 0), some (.int l1), some (.int l2), some (.int l3), some (.int l4), some (.ref a2), none, none, none, none, none]) (by decide +kernel) (by decide) rfl ?_
    refine ex_aload (pc := 7) (k := 5) (by decide +kernel) rfl ?_
    refine ex_ifnull (pc := 9) (off := 24) (by decide +kernel) ?_
    refine ex_iload_n (pc := 12) (k := 2) (by decide +kernel) rfl ?_
    refine ex_if_lt (pc := 13) (off := 20) (tgt := 33) (by decide +kernel) (by decide) (fun hc => ?_) (fun hc => ?_)
    · replace h := h.1 hc
      refine ex_bipush (pc := 33) (k := -2) (v := -2) (by decide +kernel) (by decide) ?_
      exact ex_ireturn (pc := 35) (by decide +kernel) rfl rfl h
    · replace h := h.2 hc
      refine ex_iload_n (pc := 16) (k := 2) (by decide +kernel) rfl ?_
      refine ex_iconst (pc := 17) (k := 3) (v := nI 3) (by decide +kernel) (by decide) ?_
      refine ex_icmp_ge (pc := 18) (off := 15) (tgt := 33) (by decide +kernel) (by decide) (fun hc => ?_) (fun hc => ?_)
      · replace h := h.1 hc
        refine ex_bipush (pc := 33) (k := -2) (v := -2) (by decide +kernel) (by decide) ?_
        exact ex_ireturn (pc := 35) (by decide +kernel) rfl rfl h
      · replace h := h.2 hc
        refine ex_iload (pc := 21) (k := 4) (by decide +kernel) rfl ?_
        refine ex_if_lt (pc := 23) (off := 10) (tgt := 33) (by decide +kernel) (by decide) (fun hc => ?_) (fun hc => ?_)
        · replace h := h.1 hc
          refine ex_bipush (pc := 33) (k := -2) (v := -2) (by decide +kernel) (by decide) ?_
          exact ex_ireturn (pc := 35) (by decide +kernel) rfl rfl h
        · replace h := h.2 hc
          refine ex_iload (pc := 26) (k := 4) (by decide +kernel) rfl ?_
          refine ex_bipush (pc := 28) (k := 13) (v := nI 13) (by decide +kernel) (by decide) ?_
          refine ex_icmp_le (pc := 30) (off := 6) (tgt := 36) (by decide +kernel) (by decide) (fun hc => ?_) (fun hc => ?_)
          · replace h := h.1 hc
            refine ex_aload (pc := 36) (k := 5) (by decide +kernel) rfl ?_
            obtain ⟨g1, h⟩ := h
            refine ex_callV (pc := 38) (as := []) (by decide +kernel) F_Sheet_isMissing (in_t3 (i := 146) rfl rfl) g1 rfl (by decide) rfl rfl (Nat.le_of_ble_eq_true rfl) (Nat.lt_succ_self _) ⟨Nat.zero_le _, Nat.zero_le _⟩ (KC_B (Con.mono h ?_))
            intro o M2 ⟨r3, e9, hF2, h⟩
            refine ⟨r3, e9, ?_⟩
            refine ey_ifeqB (pc := 41) (off := 6) (tgt := 47) (by decide +kernel) (by decide) (fun hc => ?_) (fun hc => ?_)
            · replace h := h.1 hc
              refine ex_aload (pc := 47) (k := 5) (by decide +kernel) rfl ?_
              obtain ⟨g2, h⟩ := h
              refine ey_getI (pc := 49) (v := mi M2 a2 1) (by decide +kernel) lf_MD_287 g2 rfl ?_
              refine ex_iload_n (pc := 52) (k := 2) (by decide +kernel) rfl ?_
              refine ex_icmp_eq (pc := 53) (off := 6) (tgt := 59) (by decide +kernel) (by decide) (fun hc => ?_) (fun hc => ?_)
              · replace h := h.1 hc
                refine ex_iconst (pc := 59) (k := 0) (v := nI 0) (by decide +kernel) (by decide) ?_
                refine ex_istore (pc := 60) (k := 6) (lo2 := [some (.ref 0), some (.int l1), some (.int l2), some (.int l3), some (.int l4), some (.ref a2), some (.int (nI 0)), none, none, none, none]) (by decide +kernel) (by decide) rfl ?_
                refine ex_iconst (pc := 62) (k := 0) (v := nI 0) (by decide +kernel) (by decide) ?_
                refine ex_istore (pc := 63) (k := 7) (lo2 := [some (.ref 0), some (.int l1), some (.int l2), some (.int l3), some (.int l4), some (.ref a2), some (.int (nI 0)), some (.int (nI 0)), none, none, none]) (by decide +kernel) (by decide) rfl ?_
                exact h
              · replace h := h.2 hc
                refine ex_bipush (pc := 56) (k := -13) (v := -13) (by decide +kernel) (by decide) ?_
                exact ex_ireturn (pc := 58) (by decide +kernel) rfl rfl h
            · replace h := h.2 hc
              refine ex_bipush (pc := 44) (k := -11) (v := -11) (by decide +kernel) (by decide) ?_
              exact ex_ireturn (pc := 46) (by decide +kernel) rfl rfl h
          · replace h := h.2 hc
            refine ex_bipush (pc := 33) (k := -2) (v := -2) (by decide +kernel) (by decide) ?_
            exact ex_ireturn (pc := 35) (by decide +kernel) rfl rfl h
theorem k_MD_roads_65 {d bc bs : Nat} {l1 : Int32} {l2 : Int32} {l3 : Int32} {l4 : Int32} {l5 : Nat} {l6 : Int32} {l7 : Int32} {M : Mem} {Φ : Option Value → Mem → Prop} (hF : Fx M) (h : (l4 ≤ l7 → Φ (some (.int l6)) M) ∧ (¬ l4 ≤ l7 → (sh M)[l5]? = some (8, 3) ∧ Con d m_Sheet_spans 0 0 [.ref l5, .long ((Int32.toInt64 l3) + (3 * (Int32.toInt64 l7))), .int (nI 3)] M (PB fun r1 M1 => Fx M1 ∧ (r1 = true → (sh M1)[l5]? = some (8, 3) ∧ ∃ a2 : Nat, mr M1 l5 0 = some a2 ∧ ∃ N3 : Nat, (sh M1)[a2]? = some (100, N3) ∧ vp_in (Int64.toInt32 ((Int32.toInt64 l3) + (3 * (Int32.toInt64 l7)))) N3 ∧ (sh M1)[l5]? = some (8, 3) ∧ ∃ a4 : Nat, mr M1 l5 0 = some a4 ∧ ∃ N5 : Nat, (sh M1)[a4]? = some (100, N5) ∧ vp_in ((Int64.toInt32 ((Int32.toInt64 l3) + (3 * (Int32.toInt64 l7)))) + (nI 1)) N5 ∧ (sh M1)[l5]? = some (8, 3) ∧ ∃ a6 : Nat, mr M1 l5 0 = some a6 ∧ ∃ N7 : Nat, (sh M1)[a6]? = some (100, N7) ∧ vp_in ((Int64.toInt32 ((Int32.toInt64 l3) + (3 * (Int32.toInt64 l7)))) + (nI 2)) N7 ∧ Con d m_MD_road 0 0 [.ref 0, .int (mi M1 a2 ((Int64.toInt32 ((Int32.toInt64 l3) + (3 * (Int32.toInt64 l7)))).toNatClampNeg)), .int (mi M1 a4 (((Int64.toInt32 ((Int32.toInt64 l3) + (3 * (Int32.toInt64 l7)))) + (nI 1)).toNatClampNeg)), .int (mi M1 a6 (((Int64.toInt32 ((Int32.toInt64 l3) + (3 * (Int32.toInt64 l7)))) + (nI 2)).toNatClampNeg))] M1 (PI fun r8 M2 => Fx M2 ∧ (r8 < 0 → Ex (d + 1) m_MD_roads bc bs 65 [some (.ref 0), some (.int l1), some (.int l2), some (.int l3), some (.int l4), some (.ref l5), some (.int l6), some (.int (l7 + nI 1)), none, none, none] [] M2 Φ) ∧ (¬ r8 < 0 → Ex (d + 1) m_MD_roads bc bs 65 [some (.ref 0), some (.int l1), some (.int l2), some (.int l3), some (.int l4), some (.ref l5), some (.int (l6 + nI 1)), some (.int (l7 + nI 1)), none, none, none] [] M2 Φ))) ∧ (r1 = false → Φ (some (.int (-12))) M1)))) : Ex (d + 1) m_MD_roads bc bs 65 [some (.ref 0), some (.int l1), some (.int l2), some (.int l3), some (.int l4), some (.ref l5), some (.int l6), some (.int l7), none, none, none] [] M Φ := by
  refine ex_iload (pc := 65) (k := 7) (by decide +kernel) rfl ?_
  refine ex_iload (pc := 67) (k := 4) (by decide +kernel) rfl ?_
  refine ex_icmp_ge (pc := 69) (off := 78) (tgt := 147) (by decide +kernel) (by decide) (fun hc => ?_) (fun hc => ?_)
  · replace h := h.1 hc
    refine ex_iload (pc := 147) (k := 6) (by decide +kernel) rfl ?_
    exact ex_ireturn (pc := 149) (by decide +kernel) rfl rfl h
  · replace h := h.2 hc
    refine ex_iload_n (pc := 72) (k := 3) (by decide +kernel) rfl ?_
    refine ex_i2l (pc := 73) (by decide +kernel) ?_
    refine ex_ldc2 (pc := 74) (v := 3) (by decide +kernel) (in_t5 (i := 36) rfl rfl) ?_
    refine ex_iload (pc := 77) (k := 7) (by decide +kernel) rfl ?_
    refine ex_i2l (pc := 79) (by decide +kernel) ?_
    refine ex_lmul (pc := 80) (by decide +kernel) ?_
    refine ex_ladd (pc := 81) (by decide +kernel) ?_
    refine ex_lstore (pc := 82) (k := 8) (lo2 := [some (.ref 0), some (.int l1), some (.int l2), some (.int l3), some (.int l4), some (.ref l5), some (.int l6), some (.int l7), some (.long ((Int32.toInt64 l3) + (3 * (Int32.toInt64 l7)))), none, none]) (by decide +kernel) (by decide) rfl ?_
    refine ex_aload (pc := 84) (k := 5) (by decide +kernel) rfl ?_
    refine ex_lload (pc := 86) (k := 8) (by decide +kernel) rfl ?_
    refine ex_iconst (pc := 88) (k := 3) (v := nI 3) (by decide +kernel) (by decide) ?_
    obtain ⟨g1, h⟩ := h
    refine ex_callV (pc := 89) (as := [.long ((Int32.toInt64 l3) + (3 * (Int32.toInt64 l7))), .int (nI 3)]) (by decide +kernel) F_Sheet_spans (in_t5 (i := 30) rfl rfl) g1 rfl (by decide) rfl rfl (Nat.le_of_ble_eq_true rfl) (Nat.lt_succ_self _) ⟨Nat.zero_le _, Nat.zero_le _⟩ (KC_B (Con.mono h ?_))
    intro o M1 ⟨r1, e9, hF1, h⟩
    refine ⟨r1, e9, ?_⟩
    refine ey_ifneB (pc := 92) (off := 6) (tgt := 98) (by decide +kernel) (by decide) (fun hc => ?_) (fun hc => ?_)
    · replace h := h.1 hc
      refine ex_lload (pc := 98) (k := 8) (by decide +kernel) rfl ?_
      refine ex_l2i (pc := 100) (by decide +kernel) ?_
      refine ex_istore (pc := 101) (k := 10) (lo2 := [some (.ref 0), some (.int l1), some (.int l2), some (.int l3), some (.int l4), some (.ref l5), some (.int l6), some (.int l7), some (.long ((Int32.toInt64 l3) + (3 * (Int32.toInt64 l7)))), none, some (.int (Int64.toInt32 ((Int32.toInt64 l3) + (3 * (Int32.toInt64 l7)))))]) (by decide +kernel) (by decide) rfl ?_
      refine ex_aload_n (pc := 103) (k := 0) (by decide +kernel) rfl ?_
      refine ex_aload (pc := 104) (k := 5) (by decide +kernel) rfl ?_
      obtain ⟨g2, h⟩ := h
      obtain ⟨a2, g3, h⟩ := h
      refine ex_getR (pc := 106) (a := a2) (by decide +kernel) lf_MD_187 g2 g3 ?_
      refine ex_iload (pc := 109) (k := 10) (by decide +kernel) rfl ?_
      obtain ⟨N3, g4, h⟩ := h
      obtain ⟨g5, h⟩ := h
      refine ey_iald (pc := 111) (v := mi M1 a2 ((Int64.toInt32 ((Int32.toInt64 l3) + (3 * (Int32.toInt64 l7)))).toNatClampNeg)) (by decide +kernel) g4 g5 rfl rfl ?_
      refine ex_aload (pc := 112) (k := 5) (by decide +kernel) rfl ?_
      obtain ⟨g6, h⟩ := h
      obtain ⟨a4, g7, h⟩ := h
      refine ex_getR (pc := 114) (a := a4) (by decide +kernel) lf_MD_187 g6 g7 ?_
      refine ex_iload (pc := 117) (k := 10) (by decide +kernel) rfl ?_
      refine ex_iconst (pc := 119) (k := 1) (v := nI 1) (by decide +kernel) (by decide) ?_
      refine ex_iadd (pc := 120) (by decide +kernel) ?_
      obtain ⟨N5, g8, h⟩ := h
      obtain ⟨g9, h⟩ := h
      refine ey_iald (pc := 121) (v := mi M1 a4 (((Int64.toInt32 ((Int32.toInt64 l3) + (3 * (Int32.toInt64 l7)))) + (nI 1)).toNatClampNeg)) (by decide +kernel) g8 g9 rfl rfl ?_
      refine ex_aload (pc := 122) (k := 5) (by decide +kernel) rfl ?_
      obtain ⟨g10, h⟩ := h
      obtain ⟨a6, g11, h⟩ := h
      refine ex_getR (pc := 124) (a := a6) (by decide +kernel) lf_MD_187 g10 g11 ?_
      refine ex_iload (pc := 127) (k := 10) (by decide +kernel) rfl ?_
      refine ex_iconst (pc := 129) (k := 2) (v := nI 2) (by decide +kernel) (by decide) ?_
      refine ex_iadd (pc := 130) (by decide +kernel) ?_
      obtain ⟨N7, g12, h⟩ := h
      obtain ⟨g13, h⟩ := h
      refine ey_iald (pc := 131) (v := mi M1 a6 (((Int64.toInt32 ((Int32.toInt64 l3) + (3 * (Int32.toInt64 l7)))) + (nI 2)).toNatClampNeg)) (by decide +kernel) g12 g13 rfl rfl ?_
      refine ex_callV (pc := 132) (as := [.int (mi M1 a2 ((Int64.toInt32 ((Int32.toInt64 l3) + (3 * (Int32.toInt64 l7)))).toNatClampNeg)), .int (mi M1 a4 (((Int64.toInt32 ((Int32.toInt64 l3) + (3 * (Int32.toInt64 l7)))) + (nI 1)).toNatClampNeg)), .int (mi M1 a6 (((Int64.toInt32 ((Int32.toInt64 l3) + (3 * (Int32.toInt64 l7)))) + (nI 2)).toNatClampNeg))]) (by decide +kernel) F_MD_road (in_t5 (i := 37) rfl rfl) (hF1.s (j := 0) rfl) rfl (by decide) rfl rfl (Nat.le_of_ble_eq_true rfl) (Nat.lt_succ_self _) ⟨Nat.zero_le _, Nat.zero_le _⟩ (KC_I (Con.mono h ?_))
      intro o M2 ⟨r8, e9, hF2, h⟩
      refine ⟨r8, e9, ?_⟩
      refine ex_if_lt (pc := 135) (off := 6) (tgt := 141) (by decide +kernel) (by decide) (fun hc => ?_) (fun hc => ?_)
      · replace h := h.1 hc
        refine ex_iinc (pc := 141) (i := 7) (k := 1) (v := l7 + nI 1) (lo2 := [some (.ref 0), some (.int l1), some (.int l2), some (.int l3), some (.int l4), some (.ref l5), some (.int l6), some (.int (l7 + nI 1)), some (.long ((Int32.toInt64 l3) + (3 * (Int32.toInt64 l7)))), none, some (.int (Int64.toInt32 ((Int32.toInt64 l3) + (3 * (Int32.toInt64 l7)))))]) (by decide +kernel) (by decide) rfl rfl rfl ?_
        refine ex_goto (pc := 144) (off := -79) (tgt := 65) (by decide +kernel) (by decide) ?_
        exact Ex.msk [true, true, true, true, true, true, true, true, false, true, false] h
      · replace h := h.2 hc
        refine ex_iinc (pc := 138) (i := 6) (k := 1) (v := l6 + nI 1) (lo2 := [some (.ref 0), some (.int l1), some (.int l2), some (.int l3), some (.int l4), some (.ref l5), some (.int (l6 + nI 1)), some (.int l7), some (.long ((Int32.toInt64 l3) + (3 * (Int32.toInt64 l7)))), none, some (.int (Int64.toInt32 ((Int32.toInt64 l3) + (3 * (Int32.toInt64 l7)))))]) (by decide +kernel) (by decide) rfl rfl rfl ?_
        refine ex_iinc (pc := 141) (i := 7) (k := 1) (v := l7 + nI 1) (lo2 := [some (.ref 0), some (.int l1), some (.int l2), some (.int l3), some (.int l4), some (.ref l5), some (.int (l6 + nI 1)), some (.int (l7 + nI 1)), some (.long ((Int32.toInt64 l3) + (3 * (Int32.toInt64 l7)))), none, some (.int (Int64.toInt32 ((Int32.toInt64 l3) + (3 * (Int32.toInt64 l7)))))]) (by decide +kernel) (by decide) rfl rfl rfl ?_
        refine ex_goto (pc := 144) (off := -79) (tgt := 65) (by decide +kernel) (by decide) ?_
        exact Ex.msk [true, true, true, true, true, true, true, true, false, true, false] h
    · replace h := h.2 hc
      refine ex_bipush (pc := 95) (k := -12) (v := -12) (by decide +kernel) (by decide) ?_
      exact ex_ireturn (pc := 97) (by decide +kernel) rfl rfl h
theorem k_MD_taken_0 {d bc bs : Nat} {l1 : Int32} {l2 : Int32} {M : Mem} {Φ : Option Value → Mem → Prop} (hF : Fx M) (h : (l2 < 0 → Φ (some (.int (-2))) M) ∧ (¬ l2 < 0 → (l2 ≤ (nI 6) → (l1 < 0 → Φ (some (.int (-12))) M) ∧ (¬ l1 < 0 → (l1 < (nI 18) → ((nI 6) ≤ l1 → Con d m_MD_takenGiving 0 0 [.ref 0, .int (l1 - (nI 6)), .int l2] M (PI fun r1 M1 => Fx M1 ∧ Φ (some (.int r1)) M1)) ∧ (¬ (nI 6) ≤ l1 → Con d m_MD_takenTown 0 0 [.ref 0, .int l1, .int l2] M (PI fun r2 M2 => Fx M2 ∧ Φ (some (.int r2)) M2))) ∧ (¬ l1 < (nI 18) → Φ (some (.int (-12))) M))) ∧ (¬ l2 ≤ (nI 6) → Φ (some (.int (-2))) M))) : Ex (d + 1) m_MD_taken bc bs 0 [some (.ref 0), some (.int l1), some (.int l2)] [] M Φ := by
  refine ex_iload_n (pc := 0) (k := 2) (by decide +kernel) rfl ?_
  refine ex_if_lt (pc := 1) (off := 9) (tgt := 10) (by decide +kernel) (by decide) (fun hc => ?_) (fun hc => ?_)
  · replace h := h.1 hc
    refine ex_bipush (pc := 10) (k := -2) (v := -2) (by decide +kernel) (by decide) ?_
    exact ex_ireturn (pc := 12) (by decide +kernel) rfl rfl h
  · replace h := h.2 hc
    refine ex_iload_n (pc := 4) (k := 2) (by decide +kernel) rfl ?_
    refine ex_bipush (pc := 5) (k := 6) (v := nI 6) (by decide +kernel) (by decide) ?_
    refine ex_icmp_le (pc := 7) (off := 6) (tgt := 13) (by decide +kernel) (by decide) (fun hc => ?_) (fun hc => ?_)
    · replace h := h.1 hc
      refine ex_iload_n (pc := 13) (k := 1) (by decide +kernel) rfl ?_
      refine ex_if_lt (pc := 14) (off := 9) (tgt := 23) (by decide +kernel) (by decide) (fun hc => ?_) (fun hc => ?_)
      · replace h := h.1 hc
        refine ex_bipush (pc := 23) (k := -12) (v := -12) (by decide +kernel) (by decide) ?_
        exact ex_ireturn (pc := 25) (by decide +kernel) rfl rfl h
      · replace h := h.2 hc
        refine ex_iload_n (pc := 17) (k := 1) (by decide +kernel) rfl ?_
        refine ex_bipush (pc := 18) (k := 18) (v := nI 18) (by decide +kernel) (by decide) ?_
        refine ex_icmp_lt (pc := 20) (off := 6) (tgt := 26) (by decide +kernel) (by decide) (fun hc => ?_) (fun hc => ?_)
        · replace h := h.1 hc
          refine ex_iload_n (pc := 26) (k := 1) (by decide +kernel) rfl ?_
          refine ex_bipush (pc := 27) (k := 6) (v := nI 6) (by decide +kernel) (by decide) ?_
          refine ex_icmp_ge (pc := 29) (off := 12) (tgt := 41) (by decide +kernel) (by decide) (fun hc => ?_) (fun hc => ?_)
          · replace h := h.1 hc
            refine ex_aload_n (pc := 41) (k := 0) (by decide +kernel) rfl ?_
            refine ex_iload_n (pc := 42) (k := 1) (by decide +kernel) rfl ?_
            refine ex_bipush (pc := 43) (k := 6) (v := nI 6) (by decide +kernel) (by decide) ?_
            refine ex_isub (pc := 45) (by decide +kernel) ?_
            refine ex_iload_n (pc := 46) (k := 2) (by decide +kernel) rfl ?_
            refine ex_callV (pc := 47) (as := [.int (l1 - (nI 6)), .int l2]) (by decide +kernel) F_MD_takenGiving (in_t5 (i := 46) rfl rfl) (hF.s (j := 0) rfl) rfl (by decide) rfl rfl (Nat.le_of_ble_eq_true rfl) (Nat.lt_succ_self _) ⟨Nat.zero_le _, Nat.zero_le _⟩ (KC_I (Con.mono h ?_))
            intro o M1 ⟨r1, e9, hF1, h⟩
            refine ⟨r1, e9, ?_⟩
            exact ex_ireturn (pc := 50) (by decide +kernel) rfl rfl h
          · replace h := h.2 hc
            refine ex_aload_n (pc := 32) (k := 0) (by decide +kernel) rfl ?_
            refine ex_iload_n (pc := 33) (k := 1) (by decide +kernel) rfl ?_
            refine ex_iload_n (pc := 34) (k := 2) (by decide +kernel) rfl ?_
            refine ex_callV (pc := 35) (as := [.int l1, .int l2]) (by decide +kernel) F_MD_takenTown (in_t5 (i := 42) rfl rfl) (hF.s (j := 0) rfl) rfl (by decide) rfl rfl (Nat.le_of_ble_eq_true rfl) (Nat.lt_succ_self _) ⟨Nat.zero_le _, Nat.zero_le _⟩ (KC_I (Con.mono h ?_))
            intro o M2 ⟨r2, e9, hF2, h⟩
            refine ⟨r2, e9, ?_⟩
            refine ex_goto (pc := 38) (off := 12) (tgt := 50) (by decide +kernel) (by decide) ?_
            exact ex_ireturn (pc := 50) (by decide +kernel) rfl rfl h
        · replace h := h.2 hc
          refine ex_bipush (pc := 23) (k := -12) (v := -12) (by decide +kernel) (by decide) ?_
          exact ex_ireturn (pc := 25) (by decide +kernel) rfl rfl h
    · replace h := h.2 hc
      refine ex_bipush (pc := 10) (k := -2) (v := -2) (by decide +kernel) (by decide) ?_
      exact ex_ireturn (pc := 12) (by decide +kernel) rfl rfl h
theorem k_MD_takenTown_0 {d bc bs : Nat} {l1 : Int32} {l2 : Int32} {M : Mem} {Φ : Option Value → Mem → Prop} (hF : Fx M) (h : Con d m_Land_hasTown 0 0 [.ref 1, .int l1] M (PB fun r1 M1 => Fx M1 ∧ (r1 = true → (¬ l2 = (nI 6) → Φ (some (.int (-13))) M1) ∧ (l2 = (nI 6) → vp_in l1 6 ∧ Φ (some (.int (mi M1 2 l1.toNatClampNeg))) M1)) ∧ (r1 = false → Φ (some (.int (-11))) M1))) : Ex (d + 1) m_MD_takenTown bc bs 0 [some (.ref 0), some (.int l1), some (.int l2)] [] M Φ := by
  refine ex_aload_n (pc := 0) (k := 0) (by decide +kernel) rfl ?_
  refine ex_getR (pc := 1) (a := 1) (by decide +kernel) lf_MD_10 (hF.s (j := 0) rfl) (hF.r (j := 0) (k := 0) rfl rfl) ?_
  refine ex_iload_n (pc := 4) (k := 1) (by decide +kernel) rfl ?_
  refine ex_callV (pc := 5) (as := [.int l1]) (by decide +kernel) F_Land_hasTown (in_t3 (i := 47) rfl rfl) (hF.s (j := 1) rfl) rfl (by decide) rfl rfl (Nat.le_of_ble_eq_true rfl) (Nat.lt_succ_self _) ⟨Nat.zero_le _, Nat.zero_le _⟩ (KC_B (Con.mono h ?_))
  intro o M1 ⟨r1, e9, hF1, h⟩
  refine ⟨r1, e9, ?_⟩
  refine ey_ifneB (pc := 8) (off := 6) (tgt := 14) (by decide +kernel) (by decide) (fun hc => ?_) (fun hc => ?_)
  · replace h := h.1 hc
    refine ex_iload_n (pc := 14) (k := 2) (by decide +kernel) rfl ?_
    refine ex_bipush (pc := 15) (k := 6) (v := nI 6) (by decide +kernel) (by decide) ?_
    refine ex_icmp_ne (pc := 17) (off := 15) (tgt := 32) (by decide +kernel) (by decide) (fun hc => ?_) (fun hc => ?_)
    · replace h := h.1 hc
      refine ex_bipush (pc := 32) (k := -13) (v := -13) (by decide +kernel) (by decide) ?_
      exact ex_ireturn (pc := 34) (by decide +kernel) rfl rfl h
    · replace h := h.2 hc
      refine ex_aload_n (pc := 20) (k := 0) (by decide +kernel) rfl ?_
      refine ex_getR (pc := 21) (a := 1) (by decide +kernel) lf_MD_10 (hF1.s (j := 0) rfl) (hF1.r (j := 0) (k := 0) rfl rfl) ?_
      refine ex_getR (pc := 24) (a := 2) (by decide +kernel) lf_MD_140 (hF1.s (j := 1) rfl) (hF1.r (j := 1) (k := 0) rfl rfl) ?_
      refine ex_iload_n (pc := 27) (k := 1) (by decide +kernel) rfl ?_
      obtain ⟨g1, h⟩ := h
      refine ey_iald (pc := 28) (v := mi M1 2 l1.toNatClampNeg) (by decide +kernel) (hF1.s (j := 2) rfl) g1 rfl rfl ?_
      refine ex_goto (pc := 29) (off := 5) (tgt := 34) (by decide +kernel) (by decide) ?_
      exact ex_ireturn (pc := 34) (by decide +kernel) rfl rfl h
  · replace h := h.2 hc
    refine ex_bipush (pc := 11) (k := -11) (v := -11) (by decide +kernel) (by decide) ?_
    exact ex_ireturn (pc := 13) (by decide +kernel) rfl rfl h
theorem k_MD_takenGiving_0 {d bc bs : Nat} {l1 : Int32} {l2 : Int32} {M : Mem} {Φ : Option Value → Mem → Prop} (hF : Fx M) (h : Con d m_MD_givingAt 0 0 [.ref 0, .int l1] M (PR fun r1 M1 => Fx M1 ∧ (r1 = none → Φ (some (.int (-11))) M1) ∧ (∀ a2 : Nat, r1 = some a2 → (l2 = (nI 6) → Φ (some (.int (-13))) M1) ∧ (¬ l2 = (nI 6) → (sh M1)[a2]? = some (3, 2) ∧ Con d m_Giving_isA 0 0 [.int (mi M1 a2 0), .int l2] M1 (PB fun r3 M2 => Fx M2 ∧ (r3 = false → Φ (some (.int (-13))) M2) ∧ (r3 = true → Φ (some (.int l1)) M2)))))) : Ex (d + 1) m_MD_takenGiving bc bs 0 [some (.ref 0), some (.int l1), some (.int l2), none] [] M Φ := by
  refine ex_aload_n (pc := 0) (k := 0) (by decide +kernel) rfl ?_
  refine ex_iload_n (pc := 1) (k := 1) (by decide +kernel) rfl ?_
  refine ex_callV (pc := 2) (as := [.int l1]) (by decide +kernel) F_MD_givingAt (in_t3 (i := 181) rfl rfl) (hF.s (j := 0) rfl) rfl (by decide) rfl rfl (Nat.le_of_ble_eq_true rfl) (Nat.lt_succ_self _) ⟨Nat.zero_le _, Nat.zero_le _⟩ (KC_R (Con.mono h ?_))
  intro o M1 ⟨r1, e9, hF1, h⟩
  refine ⟨r1, e9, ?_⟩
  cases r1 with
  | none =>
    replace h := h.1 rfl
    show Ex _ _ _ _ _ _ (Value.null :: _) _ _
    refine ex_astore_nN (pc := 5) (k := 3) (lo2 := [some (.ref 0), some (.int l1), some (.int l2), some (.null)]) (by decide +kernel) (by decide) rfl ?_
    refine ex_aload_nN (pc := 6) (k := 3) (by decide +kernel) rfl ?_
    refine ex_ifnonnullN (pc := 7) (off := 6) (by decide +kernel) ?_
    refine ex_bipush (pc := 10) (k := -11) (v := -11) (by decide +kernel) (by decide) ?_
    exact ex_ireturn (pc := 12) (by decide +kernel) rfl rfl h
  | some a2 =>
    replace h := h.2 a2 rfl
    show Ex _ _ _ _ _ _ (Value.ref a2 :: _) _ _
    refine ex_astore_n (pc := 5) (k := 3) (lo2 := [some (.ref 0), some (.int l1), some (.int l2), some (.ref a2)]) (by decide +kernel) (by decide) rfl ?_
    refine ex_aload_n (pc := 6) (k := 3) (by decide +kernel) rfl ?_
    refine ex_ifnonnull (pc := 7) (off := 6) (tgt := 13) (by decide +kernel) (by decide) ?_
    refine ex_iload_n (pc := 13) (k := 2) (by decide +kernel) rfl ?_
    refine ex_bipush (pc := 14) (k := 6) (v := nI 6) (by decide +kernel) (by decide) ?_
    refine ex_icmp_eq (pc := 16) (off := 18) (tgt := 34) (by decide +kernel) (by decide) (fun hc => ?_) (fun hc => ?_)
    · replace h := h.1 hc
      refine ex_bipush (pc := 34) (k := -13) (v := -13) (by decide +kernel) (by decide) ?_
      exact ex_ireturn (pc := 36) (by decide +kernel) rfl rfl h
    · replace h := h.2 hc
      refine ex_aload_n (pc := 19) (k := 3) (by decide +kernel) rfl ?_
      obtain ⟨g1, h⟩ := h
      refine ey_getI (pc := 20) (v := mi M1 a2 0) (by decide +kernel) lf_MD_223 g1 rfl ?_
      refine ex_iload_n (pc := 23) (k := 2) (by decide +kernel) rfl ?_
      refine ex_callS (pc := 24) (as := [.int (mi M1 a2 0), .int l2]) (by decide +kernel) F_Giving_isA (in_t5 (i := 50) rfl rfl) rfl rfl (Nat.le_of_ble_eq_true rfl) (Nat.lt_succ_self _) ⟨Nat.zero_le _, Nat.zero_le _⟩ (KC_B (Con.mono h ?_))
      intro o M2 ⟨r3, e9, hF2, h⟩
      refine ⟨r3, e9, ?_⟩
      refine ey_ifeqB (pc := 27) (off := 7) (tgt := 34) (by decide +kernel) (by decide) (fun hc => ?_) (fun hc => ?_)
      · replace h := h.1 hc
        refine ex_bipush (pc := 34) (k := -13) (v := -13) (by decide +kernel) (by decide) ?_
        exact ex_ireturn (pc := 36) (by decide +kernel) rfl rfl h
      · replace h := h.2 hc
        refine ex_iload_n (pc := 30) (k := 1) (by decide +kernel) rfl ?_
        refine ex_goto (pc := 31) (off := 5) (tgt := 36) (by decide +kernel) (by decide) ?_
        exact ex_ireturn (pc := 36) (by decide +kernel) rfl rfl h
theorem k_MD_givingAt_0 {d bc bs : Nat} {l1 : Int32} {M : Mem} {Φ : Option Value → Mem → Prop} (hF : Fx M) (h : (l1 < 0 → Φ (some (rv none)) M) ∧ (¬ l1 < 0 → ((mi M 0 6) ≤ l1 → Φ (some (rv none)) M) ∧ (¬ (mi M 0 6) ≤ l1 → vp_in l1 12 ∧ Φ (some (rv (mr M 50 l1.toNatClampNeg))) M))) : Ex (d + 1) m_MD_givingAt bc bs 0 [some (.ref 0), some (.int l1)] [] M Φ := by
  refine ex_iload_n (pc := 0) (k := 1) (by decide +kernel) rfl ?_
  refine ex_if_lt (pc := 1) (off := 20) (tgt := 21) (by decide +kernel) (by decide) (fun hc => ?_) (fun hc => ?_)
  · replace h := h.1 hc
    refine ex_null (pc := 21) (by decide +kernel) ?_
    exact ex_areturnN (pc := 22) (by decide +kernel) rfl (Or.inl ⟨_, rfl⟩) h
  · replace h := h.2 hc
    refine ex_iload_n (pc := 4) (k := 1) (by decide +kernel) rfl ?_
    refine ex_aload_n (pc := 5) (k := 0) (by decide +kernel) rfl ?_
    refine ey_getI (pc := 6) (v := mi M 0 6) (by decide +kernel) lf_MD_45 (hF.s (j := 0) rfl) rfl ?_
    refine ex_icmp_ge (pc := 9) (off := 12) (tgt := 21) (by decide +kernel) (by decide) (fun hc => ?_) (fun hc => ?_)
    · replace h := h.1 hc
      refine ex_null (pc := 21) (by decide +kernel) ?_
      exact ex_areturnN (pc := 22) (by decide +kernel) rfl (Or.inl ⟨_, rfl⟩) h
    · replace h := h.2 hc
      refine ex_aload_n (pc := 12) (k := 0) (by decide +kernel) rfl ?_
      refine ex_getR (pc := 13) (a := 50) (by decide +kernel) lf_MD_41 (hF.s (j := 0) rfl) (hF.r (j := 0) (k := 5) rfl rfl) ?_
      refine ex_iload_n (pc := 16) (k := 1) (by decide +kernel) rfl ?_
      obtain ⟨g1, h⟩ := h
      refine ey_aald (pc := 17) (r := mr M 50 l1.toNatClampNeg) (by decide +kernel) (hF.s (j := 50) rfl) (by decide) g1 rfl rfl ?_
      refine ex_goto (pc := 18) (off := 4) (tgt := 22) (by decide +kernel) (by decide) ?_
      exact ey_areturn (pc := 22) (by decide +kernel) rfl (Or.inl ⟨_, rfl⟩) h
theorem k_MD_sheetAt_0 {d bc bs : Nat} {l1 : Int32} {M : Mem} {Φ : Option Value → Mem → Prop} (hF : Fx M) (h : (l1 < 0 → Φ (some (rv none)) M) ∧ (¬ l1 < 0 → ((nI 4) ≤ l1 → Φ (some (rv none)) M) ∧ (¬ (nI 4) ≤ l1 → vp_in l1 4 ∧ Φ (some (rv (mr M 66 l1.toNatClampNeg))) M))) : Ex (d + 1) m_MD_sheetAt bc bs 0 [some (.ref 0), some (.int l1)] [] M Φ := by
  refine ex_iload_n (pc := 0) (k := 1) (by decide +kernel) rfl ?_
  refine ex_if_lt (pc := 1) (off := 17) (tgt := 18) (by decide +kernel) (by decide) (fun hc => ?_) (fun hc => ?_)
  · replace h := h.1 hc
    refine ex_null (pc := 18) (by decide +kernel) ?_
    exact ex_areturnN (pc := 19) (by decide +kernel) rfl (Or.inl ⟨_, rfl⟩) h
  · replace h := h.2 hc
    refine ex_iload_n (pc := 4) (k := 1) (by decide +kernel) rfl ?_
    refine ex_iconst (pc := 5) (k := 4) (v := nI 4) (by decide +kernel) (by decide) ?_
    refine ex_icmp_ge (pc := 6) (off := 12) (tgt := 18) (by decide +kernel) (by decide) (fun hc => ?_) (fun hc => ?_)
    · replace h := h.1 hc
      refine ex_null (pc := 18) (by decide +kernel) ?_
      exact ex_areturnN (pc := 19) (by decide +kernel) rfl (Or.inl ⟨_, rfl⟩) h
    · replace h := h.2 hc
      refine ex_aload_n (pc := 9) (k := 0) (by decide +kernel) rfl ?_
      refine ex_getR (pc := 10) (a := 66) (by decide +kernel) lf_MD_76 (hF.s (j := 0) rfl) (hF.r (j := 0) (k := 10) rfl rfl) ?_
      refine ex_iload_n (pc := 13) (k := 1) (by decide +kernel) rfl ?_
      obtain ⟨g1, h⟩ := h
      refine ey_aald (pc := 14) (r := mr M 66 l1.toNatClampNeg) (by decide +kernel) (hF.s (j := 66) rfl) (by decide) g1 rfl rfl ?_
      refine ex_goto (pc := 15) (off := 4) (tgt := 19) (by decide +kernel) (by decide) ?_
      exact ey_areturn (pc := 19) (by decide +kernel) rfl (Or.inl ⟨_, rfl⟩) h
theorem k_MD_isWeek_0 {d bc bs : Nat} {l0 : Int32} {M : Mem} {Φ : Option Value → Mem → Prop} (hF : Fx M) (h : (l0 < 0 → Φ (some (.int (b2i false))) M) ∧ (¬ l0 < 0 → ((nI 100) ≤ l0 → Φ (some (.int (b2i false))) M) ∧ (¬ (nI 100) ≤ l0 → Φ (some (.int (b2i true))) M))) : Ex (d + 1) m_MD_isWeek bc bs 0 [some (.int l0)] [] M Φ := by
  refine ex_iload_n (pc := 0) (k := 0) (by decide +kernel) rfl ?_
  refine ex_if_lt (pc := 1) (off := 13) (tgt := 14) (by decide +kernel) (by decide) (fun hc => ?_) (fun hc => ?_)
  · replace h := h.1 hc
    refine ex_iconst (pc := 14) (k := 0) (v := nI 0) (by decide +kernel) (by decide) ?_
    exact ex_ireturn (pc := 15) (v := b2i false) (by decide +kernel) rfl (b2i_n _) h
  · replace h := h.2 hc
    refine ex_iload_n (pc := 4) (k := 0) (by decide +kernel) rfl ?_
    refine ex_bipush (pc := 5) (k := 100) (v := nI 100) (by decide +kernel) (by decide) ?_
    refine ex_icmp_ge (pc := 7) (off := 7) (tgt := 14) (by decide +kernel) (by decide) (fun hc => ?_) (fun hc => ?_)
    · replace h := h.1 hc
      refine ex_iconst (pc := 14) (k := 0) (v := nI 0) (by decide +kernel) (by decide) ?_
      exact ex_ireturn (pc := 15) (v := b2i false) (by decide +kernel) rfl (b2i_n _) h
    · replace h := h.2 hc
      refine ex_iconst (pc := 10) (k := 1) (v := nI 1) (by decide +kernel) (by decide) ?_
      refine ex_goto (pc := 11) (off := 4) (tgt := 15) (by decide +kernel) (by decide) ?_
      exact ex_ireturn (pc := 15) (v := b2i true) (by decide +kernel) rfl (b2i_n _) h
theorem k_MD_hasBit_0 {d bc bs : Nat} {l0 : Int32} {l1 : Int32} {M : Mem} {Φ : Option Value → Mem → Prop} (hF : Fx M) (h : (((l0 >>> (l1 &&& 31)) &&& (nI 1)) = 0 → Φ (some (.int (b2i false))) M) ∧ (¬ ((l0 >>> (l1 &&& 31)) &&& (nI 1)) = 0 → Φ (some (.int (b2i true))) M)) : Ex (d + 1) m_MD_hasBit bc bs 0 [some (.int l0), some (.int l1)] [] M Φ := by
  refine ex_iload_n (pc := 0) (k := 0) (by decide +kernel) rfl ?_
  refine ex_iload_n (pc := 1) (k := 1) (by decide +kernel) rfl ?_
  refine ex_ishr (pc := 2) (by decide +kernel) ?_
  refine ex_iconst (pc := 3) (k := 1) (v := nI 1) (by decide +kernel) (by decide) ?_
  refine ex_iand (pc := 4) (by decide +kernel) ?_
  refine ex_if_eq (pc := 5) (off := 7) (tgt := 12) (by decide +kernel) (by decide) (fun hc => ?_) (fun hc => ?_)
  · replace h := h.1 hc
    refine ex_iconst (pc := 12) (k := 0) (v := nI 0) (by decide +kernel) (by decide) ?_
    exact ex_ireturn (pc := 13) (v := b2i false) (by decide +kernel) rfl (b2i_n _) h
  · replace h := h.2 hc
    refine ex_iconst (pc := 8) (k := 1) (v := nI 1) (by decide +kernel) (by decide) ?_
    refine ex_goto (pc := 9) (off := 4) (tgt := 13) (by decide +kernel) (by decide) ?_
    exact ex_ireturn (pc := 13) (v := b2i true) (by decide +kernel) rfl (b2i_n _) h
theorem k_MD_dayAfter_0 {d bc bs : Nat} {l0 : Int32} {l1 : Int32} {M : Mem} {Φ : Option Value → Mem → Prop} (hF : Fx M) (h : (l1 ≤ (l0 + (nI 1)) → Φ (some (.int (nI 0))) M) ∧ (¬ l1 ≤ (l0 + (nI 1)) → Φ (some (.int (l0 + (nI 1)))) M)) : Ex (d + 1) m_MD_dayAfter bc bs 0 [some (.int l0), some (.int l1)] [] M Φ := by
  refine ex_iload_n (pc := 0) (k := 0) (by decide +kernel) rfl ?_
  refine ex_iconst (pc := 1) (k := 1) (v := nI 1) (by decide +kernel) (by decide) ?_
  refine ex_iadd (pc := 2) (by decide +kernel) ?_
  refine ex_iload_n (pc := 3) (k := 1) (by decide +kernel) rfl ?_
  refine ex_icmp_ge (pc := 4) (off := 9) (tgt := 13) (by decide +kernel) (by decide) (fun hc => ?_) (fun hc => ?_)
  · replace h := h.1 hc
    refine ex_iconst (pc := 13) (k := 0) (v := nI 0) (by decide +kernel) (by decide) ?_
    exact ex_ireturn (pc := 14) (by decide +kernel) rfl rfl h
  · replace h := h.2 hc
    refine ex_iload_n (pc := 7) (k := 0) (by decide +kernel) rfl ?_
    refine ex_iconst (pc := 8) (k := 1) (v := nI 1) (by decide +kernel) (by decide) ?_
    refine ex_iadd (pc := 9) (by decide +kernel) ?_
    refine ex_goto (pc := 10) (off := 4) (tgt := 14) (by decide +kernel) (by decide) ?_
    exact ex_ireturn (pc := 14) (by decide +kernel) rfl rfl h
theorem k_MD_dayBefore_0 {d bc bs : Nat} {l0 : Int32} {l1 : Int32} {M : Mem} {Φ : Option Value → Mem → Prop} (hF : Fx M) (h : (l0 ≤ 0 → Φ (some (.int (l1 - (nI 1)))) M) ∧ (¬ l0 ≤ 0 → Φ (some (.int (l0 - (nI 1)))) M)) : Ex (d + 1) m_MD_dayBefore bc bs 0 [some (.int l0), some (.int l1)] [] M Φ := by
  refine ex_iload_n (pc := 0) (k := 0) (by decide +kernel) rfl ?_
  refine ex_if_le (pc := 1) (off := 9) (tgt := 10) (by decide +kernel) (by decide) (fun hc => ?_) (fun hc => ?_)
  · replace h := h.1 hc
    refine ex_iload_n (pc := 10) (k := 1) (by decide +kernel) rfl ?_
    refine ex_iconst (pc := 11) (k := 1) (v := nI 1) (by decide +kernel) (by decide) ?_
    refine ex_isub (pc := 12) (by decide +kernel) ?_
    exact ex_ireturn (pc := 13) (by decide +kernel) rfl rfl h
  · replace h := h.2 hc
    refine ex_iload_n (pc := 4) (k := 0) (by decide +kernel) rfl ?_
    refine ex_iconst (pc := 5) (k := 1) (v := nI 1) (by decide +kernel) (by decide) ?_
    refine ex_isub (pc := 6) (by decide +kernel) ?_
    refine ex_goto (pc := 7) (off := 6) (tgt := 13) (by decide +kernel) (by decide) ?_
    exact ex_ireturn (pc := 13) (by decide +kernel) rfl rfl h
