/-! printed blocks: MarketDaysModel -/
theorem k_MM_roads_64 {d bc bs : Nat} {l1 : Int32} {l2 : Int32} {l3 : Int32} {l4 : Int32} {l5 : Int32} {l6 : Int32} {M : Mem} {Φ : Option Value → Mem → Prop} (hF : Fm M) (h : (l4 ≤ l6 → Φ (some (.int l5)) M) ∧ (¬ l4 ≤ l6 → (l3 < 0 → Φ (some (.int (-12))) M) ∧ (¬ l3 < 0 → ((l3 + ((nI 3) * l6)) < l3 → Φ (some (.int (-12))) M) ∧ (¬ (l3 + ((nI 3) * l6)) < l3 → vp_in l1 4 ∧ ((l3 + ((nI 3) * l6)) ≤ ((mi M 101 l1.toNatClampNeg) - (nI 3)) → vp_in (((nI 40) * l1) + (l3 + ((nI 3) * l6))) 160 ∧ vp_in ((((nI 40) * l1) + (l3 + ((nI 3) * l6))) + (nI 1)) 160 ∧ vp_in ((((nI 40) * l1) + (l3 + ((nI 3) * l6))) + (nI 2)) 160 ∧ Con d m_MM_road 0 0 [.ref 78, .int (mi M 102 ((((nI 40) * l1) + (l3 + ((nI 3) * l6))).toNatClampNeg)), .int (mi M 102 (((((nI 40) * l1) + (l3 + ((nI 3) * l6))) + (nI 1)).toNatClampNeg)), .int (mi M 102 (((((nI 40) * l1) + (l3 + ((nI 3) * l6))) + (nI 2)).toNatClampNeg))] M (PI fun r1 M1 => Fm M1 ∧ (r1 < 0 → Ex (d + 1) m_MM_roads bc bs 64 [some (.ref 78), some (.int l1), some (.int l2), some (.int l3), some (.int l4), some (.int (l5 + (nI 0))), some (.int (l6 + nI 1)), none, none] [] M1 Φ) ∧ (¬ r1 < 0 → Ex (d + 1) m_MM_roads bc bs 64 [some (.ref 78), some (.int l1), some (.int l2), some (.int l3), some (.int l4), some (.int (l5 + (nI 1))), some (.int (l6 + nI 1)), none, none] [] M1 Φ))) ∧ (¬ (l3 + ((nI 3) * l6)) ≤ ((mi M 101 l1.toNatClampNeg) - (nI 3)) → Φ (some (.int (-12))) M))))) : Ex (d + 1) m_MM_roads bc bs 64 [some (.ref 78), some (.int l1), some (.int l2), some (.int l3), some (.int l4), some (.int l5), some (.int l6), none, none] [] M Φ := by
  refine ex_iload (pc := 64) (k := 6) (by decide +kernel) rfl ?_
  refine ex_iload (pc := 66) (k := 4) (by decide +kernel) rfl ?_
  refine ex_icmp_ge (pc := 68) (off := 94) (tgt := 162) (by decide +kernel) (by decide) (fun hc => ?_) (fun hc => ?_)
  · replace h := h.1 hc
    refine ex_iload (pc := 162) (k := 5) (by decide +kernel) rfl ?_
    exact ex_ireturn (pc := 164) (by decide +kernel) rfl rfl h
  · replace h := h.2 hc
    refine ex_iload_n (pc := 71) (k := 3) (by decide +kernel) rfl ?_
    refine ex_iconst (pc := 72) (k := 3) (v := nI 3) (by decide +kernel) (by decide) ?_
    refine ex_iload (pc := 73) (k := 6) (by decide +kernel) rfl ?_
    refine ex_imul (pc := 75) (by decide +kernel) ?_
    refine ex_iadd (pc := 76) (by decide +kernel) ?_
    refine ex_istore (pc := 77) (k := 7) (lo2 := [some (.ref 78), some (.int l1), some (.int l2), some (.int l3), some (.int l4), some (.int l5), some (.int l6), some (.int (l3 + ((nI 3) * l6))), none]) (by decide +kernel) (by decide) rfl ?_
    refine ex_iload_n (pc := 79) (k := 3) (by decide +kernel) rfl ?_
    refine ex_if_lt (pc := 80) (off := 22) (tgt := 102) (by decide +kernel) (by decide) (fun hc => ?_) (fun hc => ?_)
    · replace h := h.1 hc
      refine ex_bipush (pc := 102) (k := -12) (v := -12) (by decide +kernel) (by decide) ?_
      exact ex_ireturn (pc := 104) (by decide +kernel) rfl rfl h
    · replace h := h.2 hc
      refine ex_iload (pc := 83) (k := 7) (by decide +kernel) rfl ?_
      refine ex_iload_n (pc := 85) (k := 3) (by decide +kernel) rfl ?_
      refine ex_icmp_lt (pc := 86) (off := 16) (tgt := 102) (by decide +kernel) (by decide) (fun hc => ?_) (fun hc => ?_)
      · replace h := h.1 hc
        refine ex_bipush (pc := 102) (k := -12) (v := -12) (by decide +kernel) (by decide) ?_
        exact ex_ireturn (pc := 104) (by decide +kernel) rfl rfl h
      · replace h := h.2 hc
        refine ex_iload (pc := 89) (k := 7) (by decide +kernel) rfl ?_
        refine ex_aload_n (pc := 91) (k := 0) (by decide +kernel) rfl ?_
        refine ex_getR (pc := 92) (a := 101) (by decide +kernel) lf_MM_83 (hF.s (j := 78) rfl) (hF.r (j := 78) (k := 37) rfl rfl) ?_
        refine ex_iload_n (pc := 95) (k := 1) (by decide +kernel) rfl ?_
        obtain ⟨g1, h⟩ := h
        refine ey_iald (pc := 96) (v := mi M 101 l1.toNatClampNeg) (by decide +kernel) (hF.s (j := 101) rfl) g1 rfl rfl ?_
        refine ex_iconst (pc := 97) (k := 3) (v := nI 3) (by decide +kernel) (by decide) ?_
        refine ex_isub (pc := 98) (by decide +kernel) ?_
        refine ex_icmp_le (pc := 99) (off := 6) (tgt := 105) (by decide +kernel) (by decide) (fun hc => ?_) (fun hc => ?_)
        · replace h := h.1 hc
          refine ex_bipush (pc := 105) (k := 40) (v := nI 40) (by decide +kernel) (by decide) ?_
          refine ex_iload_n (pc := 107) (k := 1) (by decide +kernel) rfl ?_
          refine ex_imul (pc := 108) (by decide +kernel) ?_
          refine ex_iload (pc := 109) (k := 7) (by decide +kernel) rfl ?_
          refine ex_iadd (pc := 111) (by decide +kernel) ?_
          refine ex_istore (pc := 112) (k := 8) (lo2 := [some (.ref 78), some (.int l1), some (.int l2), some (.int l3), some (.int l4), some (.int l5), some (.int l6), some (.int (l3 + ((nI 3) * l6))), some (.int (((nI 40) * l1) + (l3 + ((nI 3) * l6))))]) (by decide +kernel) (by decide) rfl ?_
          refine ex_iload (pc := 114) (k := 5) (by decide +kernel) rfl ?_
          refine ex_aload_n (pc := 116) (k := 0) (by decide +kernel) rfl ?_
          refine ex_aload_n (pc := 117) (k := 0) (by decide +kernel) rfl ?_
          refine ex_getR (pc := 118) (a := 102) (by decide +kernel) lf_MM_86 (hF.s (j := 78) rfl) (hF.r (j := 78) (k := 38) rfl rfl) ?_
          refine ex_iload (pc := 121) (k := 8) (by decide +kernel) rfl ?_
          obtain ⟨g2, h⟩ := h
          refine ey_iald (pc := 123) (v := mi M 102 ((((nI 40) * l1) + (l3 + ((nI 3) * l6))).toNatClampNeg)) (by decide +kernel) (hF.s (j := 102) rfl) g2 rfl rfl ?_
          refine ex_aload_n (pc := 124) (k := 0) (by decide +kernel) rfl ?_
          refine ex_getR (pc := 125) (a := 102) (by decide +kernel) lf_MM_86 (hF.s (j := 78) rfl) (hF.r (j := 78) (k := 38) rfl rfl) ?_
          refine ex_iload (pc := 128) (k := 8) (by decide +kernel) rfl ?_
          refine ex_iconst (pc := 130) (k := 1) (v := nI 1) (by decide +kernel) (by decide) ?_
          refine ex_iadd (pc := 131) (by decide +kernel) ?_
          obtain ⟨g3, h⟩ := h
          refine ey_iald (pc := 132) (v := mi M 102 (((((nI 40) * l1) + (l3 + ((nI 3) * l6))) + (nI 1)).toNatClampNeg)) (by decide +kernel) (hF.s (j := 102) rfl) g3 rfl rfl ?_
          refine ex_aload_n (pc := 133) (k := 0) (by decide +kernel) rfl ?_
          refine ex_getR (pc := 134) (a := 102) (by decide +kernel) lf_MM_86 (hF.s (j := 78) rfl) (hF.r (j := 78) (k := 38) rfl rfl) ?_
          refine ex_iload (pc := 137) (k := 8) (by decide +kernel) rfl ?_
          refine ex_iconst (pc := 139) (k := 2) (v := nI 2) (by decide +kernel) (by decide) ?_
          refine ex_iadd (pc := 140) (by decide +kernel) ?_
          obtain ⟨g4, h⟩ := h
          refine ey_iald (pc := 141) (v := mi M 102 (((((nI 40) * l1) + (l3 + ((nI 3) * l6))) + (nI 2)).toNatClampNeg)) (by decide +kernel) (hF.s (j := 102) rfl) g4 rfl rfl ?_
          refine ex_callV (pc := 142) (as := [.int (mi M 102 ((((nI 40) * l1) + (l3 + ((nI 3) * l6))).toNatClampNeg)), .int (mi M 102 (((((nI 40) * l1) + (l3 + ((nI 3) * l6))) + (nI 1)).toNatClampNeg)), .int (mi M 102 (((((nI 40) * l1) + (l3 + ((nI 3) * l6))) + (nI 2)).toNatClampNeg))]) (by decide +kernel) F_MM_road (in_t7 (i := 73) rfl rfl) (hF.s (j := 78) rfl) rfl (by decide) rfl rfl (Nat.le_of_ble_eq_true rfl) (Nat.lt_succ_self _) ⟨Nat.zero_le _, Nat.zero_le _⟩ (KC_I (Con.mono h ?_))
          intro o M1 ⟨r1, e9, hF1, h⟩
          refine ⟨r1, e9, ?_⟩
          refine ex_if_lt (pc := 145) (off := 7) (tgt := 152) (by decide +kernel) (by decide) (fun hc => ?_) (fun hc => ?_)
          · replace h := h.1 hc
            refine ex_iconst (pc := 152) (k := 0) (v := nI 0) (by decide +kernel) (by decide) ?_
            refine ex_iadd (pc := 153) (by decide +kernel) ?_
            refine ex_istore (pc := 154) (k := 5) (lo2 := [some (.ref 78), some (.int l1), some (.int l2), some (.int l3), some (.int l4), some (.int (l5 + (nI 0))), some (.int l6), some (.int (l3 + ((nI 3) * l6))), some (.int (((nI 40) * l1) + (l3 + ((nI 3) * l6))))]) (by decide +kernel) (by decide) rfl ?_
            refine ex_iinc (pc := 156) (i := 6) (k := 1) (v := l6 + nI 1) (lo2 := [some (.ref 78), some (.int l1), some (.int l2), some (.int l3), some (.int l4), some (.int (l5 + (nI 0))), some (.int (l6 + nI 1)), some (.int (l3 + ((nI 3) * l6))), some (.int (((nI 40) * l1) + (l3 + ((nI 3) * l6))))]) (by decide +kernel) (by decide) rfl rfl rfl ?_
            refine ex_goto (pc := 159) (off := -95) (tgt := 64) (by decide +kernel) (by decide) ?_
            exact Ex.msk [true, true, true, true, true, true, true, false, false] h
          · replace h := h.2 hc
            refine ex_iconst (pc := 148) (k := 1) (v := nI 1) (by decide +kernel) (by decide) ?_
            refine ex_goto (pc := 149) (off := 4) (tgt := 153) (by decide +kernel) (by decide) ?_
            refine ex_iadd (pc := 153) (by decide +kernel) ?_
            refine ex_istore (pc := 154) (k := 5) (lo2 := [some (.ref 78), some (.int l1), some (.int l2), some (.int l3), some (.int l4), some (.int (l5 + (nI 1))), some (.int l6), some (.int (l3 + ((nI 3) * l6))), some (.int (((nI 40) * l1) + (l3 + ((nI 3) * l6))))]) (by decide +kernel) (by decide) rfl ?_
            refine ex_iinc (pc := 156) (i := 6) (k := 1) (v := l6 + nI 1) (lo2 := [some (.ref 78), some (.int l1), some (.int l2), some (.int l3), some (.int l4), some (.int (l5 + (nI 1))), some (.int (l6 + nI 1)), some (.int (l3 + ((nI 3) * l6))), some (.int (((nI 40) * l1) + (l3 + ((nI 3) * l6))))]) (by decide +kernel) (by decide) rfl rfl rfl ?_
            refine ex_goto (pc := 159) (off := -95) (tgt := 64) (by decide +kernel) (by decide) ?_
            exact Ex.msk [true, true, true, true, true, true, true, false, false] h
        · replace h := h.2 hc
          refine ex_bipush (pc := 102) (k := -12) (v := -12) (by decide +kernel) (by decide) ?_
          exact ex_ireturn (pc := 104) (by decide +kernel) rfl rfl h
theorem k_MM_isUnder_0 {d bc bs : Nat} {l0 : Int32} {l1 : Int32} {M : Mem} {Φ : Option Value → Mem → Prop} (hF : Fm M) (h : (l1 = 0 → Φ (some (.int (b2i true))) M) ∧ (¬ l1 = 0 → (l0 = l1 → Φ (some (.int (b2i true))) M) ∧ (¬ l0 = l1 → (¬ l1 = (nI 1) → Ex (d + 1) m_MM_isUnder bc bs 19 [some (.int l0), some (.int l1)] [] M Φ) ∧ (l1 = (nI 1) → (l0 = (nI 5) → Φ (some (.int (b2i true))) M) ∧ (¬ l0 = (nI 5) → Ex (d + 1) m_MM_isUnder bc bs 19 [some (.int l0), some (.int l1)] [] M Φ))))) : Ex (d + 1) m_MM_isUnder bc bs 0 [some (.int l0), some (.int l1)] [] M Φ := by
  refine ex_iload_n (pc := 0) (k := 1) (by decide +kernel) rfl ?_
  refine ex_if_eq (pc := 1) (off := 28) (tgt := 29) (by decide +kernel) (by decide) (fun hc => ?_) (fun hc => ?_)
  · replace h := h.1 hc
    refine ex_iconst (pc := 29) (k := 1) (v := nI 1) (by decide +kernel) (by decide) ?_
    refine ex_goto (pc := 30) (off := 4) (tgt := 34) (by decide +kernel) (by decide) ?_
    exact ex_ireturn (pc := 34) (v := b2i true) (by decide +kernel) rfl (b2i_n _) h
  · replace h := h.2 hc
    refine ex_iload_n (pc := 4) (k := 0) (by decide +kernel) rfl ?_
    refine ex_iload_n (pc := 5) (k := 1) (by decide +kernel) rfl ?_
    refine ex_icmp_eq (pc := 6) (off := 23) (tgt := 29) (by decide +kernel) (by decide) (fun hc => ?_) (fun hc => ?_)
    · replace h := h.1 hc
      refine ex_iconst (pc := 29) (k := 1) (v := nI 1) (by decide +kernel) (by decide) ?_
      refine ex_goto (pc := 30) (off := 4) (tgt := 34) (by decide +kernel) (by decide) ?_
      exact ex_ireturn (pc := 34) (v := b2i true) (by decide +kernel) rfl (b2i_n _) h
    · replace h := h.2 hc
      refine ex_iload_n (pc := 9) (k := 1) (by decide +kernel) rfl ?_
      refine ex_iconst (pc := 10) (k := 1) (v := nI 1) (by decide +kernel) (by decide) ?_
      refine ex_icmp_ne (pc := 11) (off := 8) (tgt := 19) (by decide +kernel) (by decide) (fun hc => ?_) (fun hc => ?_)
      · replace h := h.1 hc
        exact h
      · replace h := h.2 hc
        refine ex_iload_n (pc := 14) (k := 0) (by decide +kernel) rfl ?_
        refine ex_iconst (pc := 15) (k := 5) (v := nI 5) (by decide +kernel) (by decide) ?_
        refine ex_icmp_eq (pc := 16) (off := 13) (tgt := 29) (by decide +kernel) (by decide) (fun hc => ?_) (fun hc => ?_)
        · replace h := h.1 hc
          refine ex_iconst (pc := 29) (k := 1) (v := nI 1) (by decide +kernel) (by decide) ?_
          refine ex_goto (pc := 30) (off := 4) (tgt := 34) (by decide +kernel) (by decide) ?_
          exact ex_ireturn (pc := 34) (v := b2i true) (by decide +kernel) rfl (b2i_n _) h
        · replace h := h.2 hc
          exact h
theorem k_MM_isUnder_19 {d bc bs : Nat} {l0 : Int32} {l1 : Int32} {M : Mem} {Φ : Option Value → Mem → Prop} (hF : Fm M) (h : (¬ l1 = (nI 3) → Φ (some (.int (b2i false))) M) ∧ (l1 = (nI 3) → (¬ l0 = (nI 4) → Φ (some (.int (b2i false))) M) ∧ (l0 = (nI 4) → Φ (some (.int (b2i true))) M))) : Ex (d + 1) m_MM_isUnder bc bs 19 [some (.int l0), some (.int l1)] [] M Φ := by
  refine ex_iload_n (pc := 19) (k := 1) (by decide +kernel) rfl ?_
  refine ex_iconst (pc := 20) (k := 3) (v := nI 3) (by decide +kernel) (by decide) ?_
  refine ex_icmp_ne (pc := 21) (off := 12) (tgt := 33) (by decide +kernel) (by decide) (fun hc => ?_) (fun hc => ?_)
  · replace h := h.1 hc
    refine ex_iconst (pc := 33) (k := 0) (v := nI 0) (by decide +kernel) (by decide) ?_
    exact ex_ireturn (pc := 34) (v := b2i false) (by decide +kernel) rfl (b2i_n _) h
  · replace h := h.2 hc
    refine ex_iload_n (pc := 24) (k := 0) (by decide +kernel) rfl ?_
    refine ex_iconst (pc := 25) (k := 4) (v := nI 4) (by decide +kernel) (by decide) ?_
    refine ex_icmp_ne (pc := 26) (off := 7) (tgt := 33) (by decide +kernel) (by decide) (fun hc => ?_) (fun hc => ?_)
    · replace h := h.1 hc
      refine ex_iconst (pc := 33) (k := 0) (v := nI 0) (by decide +kernel) (by decide) ?_
      exact ex_ireturn (pc := 34) (v := b2i false) (by decide +kernel) rfl (b2i_n _) h
    · replace h := h.2 hc
      refine ex_iconst (pc := 29) (k := 1) (v := nI 1) (by decide +kernel) (by decide) ?_
      refine ex_goto (pc := 30) (off := 4) (tgt := 34) (by decide +kernel) (by decide) ?_
      exact ex_ireturn (pc := 34) (v := b2i true) (by decide +kernel) rfl (b2i_n _) h
theorem k_MM_taken_0 {d bc bs : Nat} {l1 : Int32} {l2 : Int32} {M : Mem} {Φ : Option Value → Mem → Prop} (hF : Fm M) (h : Con d m_MM_in 0 0 [.int l2, .int (nI 0), .int (nI 6)] M (PB fun r1 M1 => Fm M1 ∧ (r1 = true → Con d m_MM_in 0 0 [.int l1, .int (nI 0), .int (nI 17)] M1 (PB fun r2 M2 => Fm M2 ∧ (r2 = true → ((nI 6) ≤ l1 → ((l1 - (nI 6)) < (mi M2 78 16) → ((nI 6) ≤ l2 → Φ (some (.int (-13))) M2) ∧ (¬ (nI 6) ≤ l2 → vp_in (l1 - (nI 6)) 12 ∧ Con d m_MM_isUnder 0 0 [.int (mi M2 89 ((l1 - (nI 6)).toNatClampNeg)), .int l2] M2 (PB fun r3 M3 => Fm M3 ∧ (r3 = false → Φ (some (.int (-13))) M3) ∧ (r3 = true → Φ (some (.int (l1 - (nI 6)))) M3)))) ∧ (¬ (l1 - (nI 6)) < (mi M2 78 16) → Φ (some (.int (-11))) M2)) ∧ (¬ (nI 6) ≤ l1 → (l1 < (mi M2 78 0) → (¬ l2 = (nI 6) → Φ (some (.int (-13))) M2) ∧ (l2 = (nI 6) → vp_in l1 6 ∧ Φ (some (.int (mi M2 79 l1.toNatClampNeg))) M2)) ∧ (¬ l1 < (mi M2 78 0) → Φ (some (.int (-11))) M2))) ∧ (r2 = false → Φ (some (.int (-12))) M2))) ∧ (r1 = false → Φ (some (.int (-2))) M1))) : Ex (d + 1) m_MM_taken bc bs 0 [some (.ref 78), some (.int l1), some (.int l2)] [] M Φ := by
  refine ex_iload_n (pc := 0) (k := 2) (by decide +kernel) rfl ?_
  refine ex_iconst (pc := 1) (k := 0) (v := nI 0) (by decide +kernel) (by decide) ?_
  refine ex_bipush (pc := 2) (k := 6) (v := nI 6) (by decide +kernel) (by decide) ?_
  refine ex_callS (pc := 4) (as := [.int l2, .int (nI 0), .int (nI 6)]) (by decide +kernel) F_MM_in (in_t6 (i := 11) rfl rfl) rfl rfl (Nat.le_of_ble_eq_true rfl) (Nat.lt_succ_self _) ⟨Nat.zero_le _, Nat.zero_le _⟩ (KC_B (Con.mono h ?_))
  intro o M1 ⟨r1, e9, hF1, h⟩
  refine ⟨r1, e9, ?_⟩
  refine ey_ifneB (pc := 7) (off := 6) (tgt := 13) (by decide +kernel) (by decide) (fun hc => ?_) (fun hc => ?_)
  · replace h := h.1 hc
    refine ex_iload_n (pc := 13) (k := 1) (by decide +kernel) rfl ?_
    refine ex_iconst (pc := 14) (k := 0) (v := nI 0) (by decide +kernel) (by decide) ?_
    refine ex_bipush (pc := 15) (k := 17) (v := nI 17) (by decide +kernel) (by decide) ?_
    refine ex_callS (pc := 17) (as := [.int l1, .int (nI 0), .int (nI 17)]) (by decide +kernel) F_MM_in (in_t6 (i := 11) rfl rfl) rfl rfl (Nat.le_of_ble_eq_true rfl) (Nat.lt_succ_self _) ⟨Nat.zero_le _, Nat.zero_le _⟩ (KC_B (Con.mono h ?_))
    intro o M2 ⟨r2, e9, hF2, h⟩
    refine ⟨r2, e9, ?_⟩
    refine ey_ifneB (pc := 20) (off := 6) (tgt := 26) (by decide +kernel) (by decide) (fun hc => ?_) (fun hc => ?_)
    · replace h := h.1 hc
      refine ex_iload_n (pc := 26) (k := 1) (by decide +kernel) rfl ?_
      refine ex_bipush (pc := 27) (k := 6) (v := nI 6) (by decide +kernel) (by decide) ?_
      refine ex_icmp_ge (pc := 29) (off := 34) (tgt := 63) (by decide +kernel) (by decide) (fun hc => ?_) (fun hc => ?_)
      · replace h := h.1 hc
        refine ex_iload_n (pc := 63) (k := 1) (by decide +kernel) rfl ?_
        refine ex_bipush (pc := 64) (k := 6) (v := nI 6) (by decide +kernel) (by decide) ?_
        refine ex_isub (pc := 66) (by decide +kernel) ?_
        refine ex_aload_n (pc := 67) (k := 0) (by decide +kernel) rfl ?_
        refine ey_getI (pc := 68) (v := mi M2 78 16) (by decide +kernel) lf_MM_260 (hF2.s (j := 78) rfl) rfl ?_
        refine ex_icmp_lt (pc := 71) (off := 8) (tgt := 79) (by decide +kernel) (by decide) (fun hc => ?_) (fun hc => ?_)
        · replace h := h.1 hc
          refine ex_iload_n (pc := 79) (k := 2) (by decide +kernel) rfl ?_
          refine ex_bipush (pc := 80) (k := 6) (v := nI 6) (by decide +kernel) (by decide) ?_
          refine ex_icmp_ge (pc := 82) (off := 26) (tgt := 108) (by decide +kernel) (by decide) (fun hc => ?_) (fun hc => ?_)
          · replace h := h.1 hc
            refine ex_bipush (pc := 108) (k := -13) (v := -13) (by decide +kernel) (by decide) ?_
            exact ex_ireturn (pc := 110) (by decide +kernel) rfl rfl h
          · replace h := h.2 hc
            refine ex_aload_n (pc := 85) (k := 0) (by decide +kernel) rfl ?_
            refine ex_getR (pc := 86) (a := 89) (by decide +kernel) lf_MM_47 (hF2.s (j := 78) rfl) (hF2.r (j := 78) (k := 17) rfl rfl) ?_
            refine ex_iload_n (pc := 89) (k := 1) (by decide +kernel) rfl ?_
            refine ex_bipush (pc := 90) (k := 6) (v := nI 6) (by decide +kernel) (by decide) ?_
            refine ex_isub (pc := 92) (by decide +kernel) ?_
            obtain ⟨g1, h⟩ := h
            refine ey_iald (pc := 93) (v := mi M2 89 ((l1 - (nI 6)).toNatClampNeg)) (by decide +kernel) (hF2.s (j := 89) rfl) g1 rfl rfl ?_
            refine ex_iload_n (pc := 94) (k := 2) (by decide +kernel) rfl ?_
            refine ex_callS (pc := 95) (as := [.int (mi M2 89 ((l1 - (nI 6)).toNatClampNeg)), .int l2]) (by decide +kernel) F_MM_isUnder (in_t7 (i := 78) rfl rfl) rfl rfl (Nat.le_of_ble_eq_true rfl) (Nat.lt_succ_self _) ⟨Nat.zero_le _, Nat.zero_le _⟩ (KC_B (Con.mono h ?_))
            intro o M3 ⟨r3, e9, hF3, h⟩
            refine ⟨r3, e9, ?_⟩
            refine ey_ifeqB (pc := 98) (off := 10) (tgt := 108) (by decide +kernel) (by decide) (fun hc => ?_) (fun hc => ?_)
            · replace h := h.1 hc
              refine ex_bipush (pc := 108) (k := -13) (v := -13) (by decide +kernel) (by decide) ?_
              exact ex_ireturn (pc := 110) (by decide +kernel) rfl rfl h
            · replace h := h.2 hc
              refine ex_iload_n (pc := 101) (k := 1) (by decide +kernel) rfl ?_
              refine ex_bipush (pc := 102) (k := 6) (v := nI 6) (by decide +kernel) (by decide) ?_
              refine ex_isub (pc := 104) (by decide +kernel) ?_
              refine ex_goto (pc := 105) (off := 5) (tgt := 110) (by decide +kernel) (by decide) ?_
              exact ex_ireturn (pc := 110) (by decide +kernel) rfl rfl h
        · replace h := h.2 hc
          refine ex_bipush (pc := 74) (k := -11) (v := -11) (by decide +kernel) (by decide) ?_
          refine ex_goto (pc := 76) (off := 34) (tgt := 110) (by decide +kernel) (by decide) ?_
          exact ex_ireturn (pc := 110) (by decide +kernel) rfl rfl h
      · replace h := h.2 hc
        refine ex_iload_n (pc := 32) (k := 1) (by decide +kernel) rfl ?_
        refine ex_aload_n (pc := 33) (k := 0) (by decide +kernel) rfl ?_
        refine ey_getI (pc := 34) (v := mi M2 78 0) (by decide +kernel) lf_MM_151 (hF2.s (j := 78) rfl) rfl ?_
        refine ex_icmp_lt (pc := 37) (off := 8) (tgt := 45) (by decide +kernel) (by decide) (fun hc => ?_) (fun hc => ?_)
        · replace h := h.1 hc
          refine ex_iload_n (pc := 45) (k := 2) (by decide +kernel) rfl ?_
          refine ex_bipush (pc := 46) (k := 6) (v := nI 6) (by decide +kernel) (by decide) ?_
          refine ex_icmp_ne (pc := 48) (off := 12) (tgt := 60) (by decide +kernel) (by decide) (fun hc => ?_) (fun hc => ?_)
          · replace h := h.1 hc
            refine ex_bipush (pc := 60) (k := -13) (v := -13) (by decide +kernel) (by decide) ?_
            exact ex_ireturn (pc := 62) (by decide +kernel) rfl rfl h
          · replace h := h.2 hc
            refine ex_aload_n (pc := 51) (k := 0) (by decide +kernel) rfl ?_
            refine ex_getR (pc := 52) (a := 79) (by decide +kernel) lf_MM_7 (hF2.s (j := 78) rfl) (hF2.r (j := 78) (k := 1) rfl rfl) ?_
            refine ex_iload_n (pc := 55) (k := 1) (by decide +kernel) rfl ?_
            obtain ⟨g2, h⟩ := h
            refine ey_iald (pc := 56) (v := mi M2 79 l1.toNatClampNeg) (by decide +kernel) (hF2.s (j := 79) rfl) g2 rfl rfl ?_
            refine ex_goto (pc := 57) (off := 5) (tgt := 62) (by decide +kernel) (by decide) ?_
            exact ex_ireturn (pc := 62) (by decide +kernel) rfl rfl h
        · replace h := h.2 hc
          refine ex_bipush (pc := 40) (k := -11) (v := -11) (by decide +kernel) (by decide) ?_
          refine ex_goto (pc := 42) (off := 20) (tgt := 62) (by decide +kernel) (by decide) ?_
          exact ex_ireturn (pc := 62) (by decide +kernel) rfl rfl h
    · replace h := h.2 hc
      refine ex_bipush (pc := 23) (k := -12) (v := -12) (by decide +kernel) (by decide) ?_
      exact ex_ireturn (pc := 25) (by decide +kernel) rfl rfl h
  · replace h := h.2 hc
    refine ex_bipush (pc := 10) (k := -2) (v := -2) (by decide +kernel) (by decide) ?_
    exact ex_ireturn (pc := 12) (by decide +kernel) rfl rfl h
