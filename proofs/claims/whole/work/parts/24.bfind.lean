/-! printed blocks: MarketDays$Finder, MarketDays$Pedlar -/
theorem k_Finder_countWays_0 {d bc bs : Nat}  {M : Mem} {Φ : Option Value → Mem → Prop} (hF : Fx M) (h : Con d m_Ways_suppose 0 0 [.ref 58, .int (mi M 1 9)] M (PV fun M1 => Fx M1 ∧ Con d m_Ways_begin 0 0 [.ref 58, .int (nI 63)] M1 (PV fun M2 => Fx M2 ∧ Ex (d + 1) m_Finder_countWays bc bs 25 [some (.ref 53), some (.int (nI 0))] [] M2 Φ))) : Ex (d + 1) m_Finder_countWays bc bs 0 [some (.ref 53), none] [] M Φ := by
  refine ex_aload_n (pc := 0) (k := 0) (by decide +kernel) rfl ?_
  refine ex_getR (pc := 1) (a := 58) (by decide +kernel) lf_Finder_41 (hF.s (j := 53) rfl) (hF.r (j := 53) (k := 2) rfl rfl) ?_
  refine ex_aload_n (pc := 4) (k := 0) (by decide +kernel) rfl ?_
  refine ex_getR (pc := 5) (a := 1) (by decide +kernel) lf_Finder_28 (hF.s (j := 53) rfl) (hF.r (j := 53) (k := 0) rfl rfl) ?_
  refine ey_getI (pc := 8) (v := mi M 1 9) (by decide +kernel) lf_Finder_45 (hF.s (j := 1) rfl) rfl ?_
  refine ex_callV (pc := 11) (as := [.int (mi M 1 9)]) (by decide +kernel) F_Ways_suppose (in_t4 (i := 55) rfl rfl) (hF.s (j := 58) rfl) rfl (by decide) rfl rfl (Nat.le_of_ble_eq_true rfl) (Nat.lt_succ_self _) ⟨Nat.zero_le _, Nat.zero_le _⟩ (KC_V (Con.mono h ?_))
  intro o M1 ⟨e9, hF1, h⟩
  refine ⟨e9, ?_⟩
  refine ex_aload_n (pc := 14) (k := 0) (by decide +kernel) rfl ?_
  refine ex_getR (pc := 15) (a := 58) (by decide +kernel) lf_Finder_41 (hF1.s (j := 53) rfl) (hF1.r (j := 53) (k := 2) rfl rfl) ?_
  refine ex_bipush (pc := 18) (k := 63) (v := nI 63) (by decide +kernel) (by decide) ?_
  refine ex_callV (pc := 20) (as := [.int (nI 63)]) (by decide +kernel) F_Ways_begin (in_t4 (i := 63) rfl rfl) (hF1.s (j := 58) rfl) rfl (by decide) rfl rfl (Nat.le_of_ble_eq_true rfl) (Nat.lt_succ_self _) ⟨Nat.zero_le _, Nat.zero_le _⟩ (KC_V (Con.mono h ?_))
  intro o M2 ⟨e9, hF2, h⟩
  refine ⟨e9, ?_⟩
  refine ex_iconst (pc := 23) (k := 0) (v := nI 0) (by decide +kernel) (by decide) ?_
  refine ex_istore_n (pc := 24) (k := 1) (lo2 := [some (.ref 53), some (.int (nI 0))]) (by decide +kernel) (by decide) rfl ?_
  exact h
theorem k_Finder_countWays_25 {d bc bs : Nat} {l1 : Int32} {M : Mem} {Φ : Option Value → Mem → Prop} (hF : Fx M) (h : ((nI 100000) ≤ l1 → Φ (some (.int l1)) M) ∧ (¬ (nI 100000) ≤ l1 → Con d m_Ways_next 0 0 [.ref 58] M (PB fun r1 M1 => Fx M1 ∧ (r1 = false → Φ (some (.int l1)) M1) ∧ (r1 = true → Ex (d + 1) m_Finder_countWays bc bs 25 [some (.ref 53), some (.int (l1 + nI 1))] [] M1 Φ)))) : Ex (d + 1) m_Finder_countWays bc bs 25 [some (.ref 53), some (.int l1)] [] M Φ := by
  refine ex_iload_n (pc := 25) (k := 1) (by decide +kernel) rfl ?_
  refine ex_ldc (pc := 26) (v := nI 100000) (by decide +kernel) (in_t4 (i := 68) rfl rfl) ?_
  refine ex_icmp_ge (pc := 28) (off := 19) (tgt := 47) (by decide +kernel) (by decide) (fun hc => ?_) (fun hc => ?_)
  · replace h := h.1 hc
    refine ex_iload_n (pc := 47) (k := 1) (by decide +kernel) rfl ?_
    exact ex_ireturn (pc := 48) (by decide +kernel) rfl rfl h
  · replace h := h.2 hc
    refine ex_aload_n (pc := 31) (k := 0) (by decide +kernel) rfl ?_
    refine ex_getR (pc := 32) (a := 58) (by decide +kernel) lf_Finder_41 (hF.s (j := 53) rfl) (hF.r (j := 53) (k := 2) rfl rfl) ?_
    refine ex_callV (pc := 35) (as := []) (by decide +kernel) F_Ways_next (in_t4 (i := 69) rfl rfl) (hF.s (j := 58) rfl) rfl (by decide) rfl rfl (Nat.le_of_ble_eq_true rfl) (Nat.lt_succ_self _) ⟨Nat.zero_le _, Nat.zero_le _⟩ (KC_B (Con.mono h ?_))
    intro o M1 ⟨r1, e9, hF1, h⟩
    refine ⟨r1, e9, ?_⟩
    refine ey_ifeqB (pc := 38) (off := 9) (tgt := 47) (by decide +kernel) (by decide) (fun hc => ?_) (fun hc => ?_)
    · replace h := h.1 hc
      refine ex_iload_n (pc := 47) (k := 1) (by decide +kernel) rfl ?_
      exact ex_ireturn (pc := 48) (by decide +kernel) rfl rfl h
    · replace h := h.2 hc
      refine ex_iinc (pc := 41) (i := 1) (k := 1) (v := l1 + nI 1) (lo2 := [some (.ref 53), some (.int (l1 + nI 1))]) (by decide +kernel) (by decide) rfl rfl rfl ?_
      refine ex_goto (pc := 44) (off := -19) (tgt := 25) (by decide +kernel) (by decide) ?_
      exact h
theorem k_Finder_fewestDays_0 {d bc bs : Nat}  {M : Mem} {Φ : Option Value → Mem → Prop} (hF : Fx M) (h : Ex (d + 1) m_Finder_fewestDays bc bs 2 [some (.ref 53), some (.int (nI 2))] [] M Φ) : Ex (d + 1) m_Finder_fewestDays bc bs 0 [some (.ref 53), none] [] M Φ := by
  refine ex_iconst (pc := 0) (k := 2) (v := nI 2) (by decide +kernel) (by decide) ?_
  refine ex_istore_n (pc := 1) (k := 1) (lo2 := [some (.ref 53), some (.int (nI 2))]) (by decide +kernel) (by decide) rfl ?_
  exact h
theorem k_Finder_fewestDays_2 {d bc bs : Nat} {l1 : Int32} {M : Mem} {Φ : Option Value → Mem → Prop} (hF : Fx M) (h : ((nI 7) < l1 → Φ (some (.int (-1))) M) ∧ (¬ (nI 7) < l1 → Con d m_Ways_suppose 0 0 [.ref 58, .int l1] M (PV fun M1 => Fx M1 ∧ Con d m_Finder_isWay 0 0 [.ref 53, .int (nI 63)] M1 (PB fun r1 M2 => Fx M2 ∧ (r1 = false → Ex (d + 1) m_Finder_fewestDays bc bs 2 [some (.ref 53), some (.int (l1 + nI 1))] [] M2 Φ) ∧ (r1 = true → Φ (some (.int l1)) M2))))) : Ex (d + 1) m_Finder_fewestDays bc bs 2 [some (.ref 53), some (.int l1)] [] M Φ := by
  refine ex_iload_n (pc := 2) (k := 1) (by decide +kernel) rfl ?_
  refine ex_bipush (pc := 3) (k := 7) (v := nI 7) (by decide +kernel) (by decide) ?_
  refine ex_icmp_gt (pc := 5) (off := 28) (tgt := 33) (by decide +kernel) (by decide) (fun hc => ?_) (fun hc => ?_)
  · replace h := h.1 hc
    refine ex_iconst (pc := 33) (k := -1) (v := -1) (by decide +kernel) (by decide) ?_
    exact ex_ireturn (pc := 34) (by decide +kernel) rfl rfl h
  · replace h := h.2 hc
    refine ex_aload_n (pc := 8) (k := 0) (by decide +kernel) rfl ?_
    refine ex_getR (pc := 9) (a := 58) (by decide +kernel) lf_Finder_41 (hF.s (j := 53) rfl) (hF.r (j := 53) (k := 2) rfl rfl) ?_
    refine ex_iload_n (pc := 12) (k := 1) (by decide +kernel) rfl ?_
    refine ex_callV (pc := 13) (as := [.int l1]) (by decide +kernel) F_Ways_suppose (in_t4 (i := 55) rfl rfl) (hF.s (j := 58) rfl) rfl (by decide) rfl rfl (Nat.le_of_ble_eq_true rfl) (Nat.lt_succ_self _) ⟨Nat.zero_le _, Nat.zero_le _⟩ (KC_V (Con.mono h ?_))
    intro o M1 ⟨e9, hF1, h⟩
    refine ⟨e9, ?_⟩
    refine ex_aload_n (pc := 16) (k := 0) (by decide +kernel) rfl ?_
    refine ex_bipush (pc := 17) (k := 63) (v := nI 63) (by decide +kernel) (by decide) ?_
    refine ex_callV (pc := 19) (as := [.int (nI 63)]) (by decide +kernel) F_Finder_isWay (in_t4 (i := 147) rfl rfl) (hF1.s (j := 53) rfl) rfl (by decide) rfl rfl (Nat.le_of_ble_eq_true rfl) (Nat.lt_succ_self _) ⟨Nat.zero_le _, Nat.zero_le _⟩ (KC_B (Con.mono h ?_))
    intro o M2 ⟨r1, e9, hF2, h⟩
    refine ⟨r1, e9, ?_⟩
    refine ey_ifeqB (pc := 22) (off := 5) (tgt := 27) (by decide +kernel) (by decide) (fun hc => ?_) (fun hc => ?_)
    · replace h := h.1 hc
      refine ex_iinc (pc := 27) (i := 1) (k := 1) (v := l1 + nI 1) (lo2 := [some (.ref 53), some (.int (l1 + nI 1))]) (by decide +kernel) (by decide) rfl rfl rfl ?_
      refine ex_goto (pc := 30) (off := -28) (tgt := 2) (by decide +kernel) (by decide) ?_
      exact h
    · replace h := h.2 hc
      refine ex_iload_n (pc := 25) (k := 1) (by decide +kernel) rfl ?_
      exact ex_ireturn (pc := 26) (by decide +kernel) rfl rfl h
theorem k_Finder_smallestKnot_0 {d bc bs : Nat}  {M : Mem} {Φ : Option Value → Mem → Prop} (hF : Fx M) (h : Con d m_Ways_suppose 0 0 [.ref 58, .int (mi M 1 9)] M (PV fun M1 => Fx M1 ∧ Con d m_Finder_isWay 0 0 [.ref 53, .int (nI 63)] M1 (PB fun r1 M2 => Fx M2 ∧ (r1 = false → Ex (d + 1) m_Finder_smallestKnot bc bs 27 [some (.ref 53), some (.int (nI 1)), none] [] M2 Φ) ∧ (r1 = true → Φ (some (.int (nI 0))) M2)))) : Ex (d + 1) m_Finder_smallestKnot bc bs 0 [some (.ref 53), none, none] [] M Φ := by
  refine ex_aload_n (pc := 0) (k := 0) (by decide +kernel) rfl ?_
  refine ex_getR (pc := 1) (a := 58) (by decide +kernel) lf_Finder_41 (hF.s (j := 53) rfl) (hF.r (j := 53) (k := 2) rfl rfl) ?_
  refine ex_aload_n (pc := 4) (k := 0) (by decide +kernel) rfl ?_
  refine ex_getR (pc := 5) (a := 1) (by decide +kernel) lf_Finder_28 (hF.s (j := 53) rfl) (hF.r (j := 53) (k := 0) rfl rfl) ?_
  refine ey_getI (pc := 8) (v := mi M 1 9) (by decide +kernel) lf_Finder_45 (hF.s (j := 1) rfl) rfl ?_
  refine ex_callV (pc := 11) (as := [.int (mi M 1 9)]) (by decide +kernel) F_Ways_suppose (in_t4 (i := 55) rfl rfl) (hF.s (j := 58) rfl) rfl (by decide) rfl rfl (Nat.le_of_ble_eq_true rfl) (Nat.lt_succ_self _) ⟨Nat.zero_le _, Nat.zero_le _⟩ (KC_V (Con.mono h ?_))
  intro o M1 ⟨e9, hF1, h⟩
  refine ⟨e9, ?_⟩
  refine ex_aload_n (pc := 14) (k := 0) (by decide +kernel) rfl ?_
  refine ex_bipush (pc := 15) (k := 63) (v := nI 63) (by decide +kernel) (by decide) ?_
  refine ex_callV (pc := 17) (as := [.int (nI 63)]) (by decide +kernel) F_Finder_isWay (in_t4 (i := 147) rfl rfl) (hF1.s (j := 53) rfl) rfl (by decide) rfl rfl (Nat.le_of_ble_eq_true rfl) (Nat.lt_succ_self _) ⟨Nat.zero_le _, Nat.zero_le _⟩ (KC_B (Con.mono h ?_))
  intro o M2 ⟨r1, e9, hF2, h⟩
  refine ⟨r1, e9, ?_⟩
  refine ey_ifeqB (pc := 20) (off := 5) (tgt := 25) (by decide +kernel) (by decide) (fun hc => ?_) (fun hc => ?_)
  · replace h := h.1 hc
    refine ex_iconst (pc := 25) (k := 1) (v := nI 1) (by decide +kernel) (by decide) ?_
    refine ex_istore_n (pc := 26) (k := 1) (lo2 := [some (.ref 53), some (.int (nI 1)), none]) (by decide +kernel) (by decide) rfl ?_
    exact h
  · replace h := h.2 hc
    refine ex_iconst (pc := 23) (k := 0) (v := nI 0) (by decide +kernel) (by decide) ?_
    exact ex_ireturn (pc := 24) (by decide +kernel) rfl rfl h
theorem k_Finder_smallestKnot_27 {d bc bs : Nat} {l1 : Int32} {M : Mem} {Φ : Option Value → Mem → Prop} (hF : Fx M) (h : ((mi M 1 8) < l1 → Φ (some (.int (nI 0))) M) ∧ (¬ (mi M 1 8) < l1 → Ex (d + 1) m_Finder_smallestKnot bc bs 40 [some (.ref 53), some (.int l1), some (.int (nI 1))] [] M Φ)) : Ex (d + 1) m_Finder_smallestKnot bc bs 27 [some (.ref 53), some (.int l1), none] [] M Φ := by
  refine ex_iload_n (pc := 27) (k := 1) (by decide +kernel) rfl ?_
  refine ex_aload_n (pc := 28) (k := 0) (by decide +kernel) rfl ?_
  refine ex_getR (pc := 29) (a := 1) (by decide +kernel) lf_Finder_28 (hF.s (j := 53) rfl) (hF.r (j := 53) (k := 0) rfl rfl) ?_
  refine ey_getI (pc := 32) (v := mi M 1 8) (by decide +kernel) lf_Finder_66 (hF.s (j := 1) rfl) rfl ?_
  refine ex_icmp_gt (pc := 35) (off := 48) (tgt := 83) (by decide +kernel) (by decide) (fun hc => ?_) (fun hc => ?_)
  · replace h := h.1 hc
    refine ex_iconst (pc := 83) (k := 0) (v := nI 0) (by decide +kernel) (by decide) ?_
    exact ex_ireturn (pc := 84) (by decide +kernel) rfl rfl h
  · replace h := h.2 hc
    refine ex_iconst (pc := 38) (k := 1) (v := nI 1) (by decide +kernel) (by decide) ?_
    refine ex_istore_n (pc := 39) (k := 2) (lo2 := [some (.ref 53), some (.int l1), some (.int (nI 1))]) (by decide +kernel) (by decide) rfl ?_
    exact h
theorem k_Finder_smallestKnot_40 {d bc bs : Nat} {l1 : Int32} {l2 : Int32} {M : Mem} {Φ : Option Value → Mem → Prop} (hF : Fx M) (h : (((nI 1) <<< ((mi M 1 8) &&& 31)) ≤ l2 → Ex (d + 1) m_Finder_smallestKnot bc bs 27 [some (.ref 53), some (.int (l1 + nI 1)), none] [] M Φ) ∧ (¬ ((nI 1) <<< ((mi M 1 8) &&& 31)) ≤ l2 → Con d m_Integer_bitCount 0 0 [.int l2] M (PI fun r1 M1 => Fx M1 ∧ (¬ r1 = l1 → Ex (d + 1) m_Finder_smallestKnot bc bs 40 [some (.ref 53), some (.int l1), some (.int (l2 + nI 1))] [] M1 Φ) ∧ (r1 = l1 → Con d m_Finder_isWay 0 0 [.ref 53, .int l2] M1 (PB fun r2 M2 => Fx M2 ∧ (r2 = true → Ex (d + 1) m_Finder_smallestKnot bc bs 40 [some (.ref 53), some (.int l1), some (.int (l2 + nI 1))] [] M2 Φ) ∧ (r2 = false → Φ (some (.int l2)) M2)))))) : Ex (d + 1) m_Finder_smallestKnot bc bs 40 [some (.ref 53), some (.int l1), some (.int l2)] [] M Φ := by
  refine ex_iload_n (pc := 40) (k := 2) (by decide +kernel) rfl ?_
  refine ex_iconst (pc := 41) (k := 1) (v := nI 1) (by decide +kernel) (by decide) ?_
  refine ex_aload_n (pc := 42) (k := 0) (by decide +kernel) rfl ?_
  refine ex_getR (pc := 43) (a := 1) (by decide +kernel) lf_Finder_28 (hF.s (j := 53) rfl) (hF.r (j := 53) (k := 0) rfl rfl) ?_
  refine ey_getI (pc := 46) (v := mi M 1 8) (by decide +kernel) lf_Finder_66 (hF.s (j := 1) rfl) rfl ?_
  refine ex_ishl (pc := 49) (by decide +kernel) ?_
  refine ex_icmp_ge (pc := 50) (off := 27) (tgt := 77) (by decide +kernel) (by decide) (fun hc => ?_) (fun hc => ?_)
  · replace h := h.1 hc
    refine ex_iinc (pc := 77) (i := 1) (k := 1) (v := l1 + nI 1) (lo2 := [some (.ref 53), some (.int (l1 + nI 1)), some (.int l2)]) (by decide +kernel) (by decide) rfl rfl rfl ?_
    refine ex_goto (pc := 80) (off := -53) (tgt := 27) (by decide +kernel) (by decide) ?_
    exact Ex.msk [true, true, false] h
  · replace h := h.2 hc
    refine ex_iload_n (pc := 53) (k := 2) (by decide +kernel) rfl ?_
    refine ex_callS (pc := 54) (as := [.int l2]) (by decide +kernel) F_Integer_bitCount (in_t4 (i := 123) rfl rfl) rfl rfl (Nat.le_of_ble_eq_true rfl) (Nat.lt_succ_self _) ⟨Nat.zero_le _, Nat.zero_le _⟩ (KC_I (Con.mono h ?_))
    intro o M1 ⟨r1, e9, hF1, h⟩
    refine ⟨r1, e9, ?_⟩
    refine ex_iload_n (pc := 57) (k := 1) (by decide +kernel) rfl ?_
    refine ex_icmp_ne (pc := 58) (off := 13) (tgt := 71) (by decide +kernel) (by decide) (fun hc => ?_) (fun hc => ?_)
    · replace h := h.1 hc
      refine ex_iinc (pc := 71) (i := 2) (k := 1) (v := l2 + nI 1) (lo2 := [some (.ref 53), some (.int l1), some (.int (l2 + nI 1))]) (by decide +kernel) (by decide) rfl rfl rfl ?_
      refine ex_goto (pc := 74) (off := -34) (tgt := 40) (by decide +kernel) (by decide) ?_
      exact h
    · replace h := h.2 hc
      refine ex_aload_n (pc := 61) (k := 0) (by decide +kernel) rfl ?_
      refine ex_iload_n (pc := 62) (k := 2) (by decide +kernel) rfl ?_
      refine ex_callV (pc := 63) (as := [.int l2]) (by decide +kernel) F_Finder_isWay (in_t4 (i := 147) rfl rfl) (hF1.s (j := 53) rfl) rfl (by decide) rfl rfl (Nat.le_of_ble_eq_true rfl) (Nat.lt_succ_self _) ⟨Nat.zero_le _, Nat.zero_le _⟩ (KC_B (Con.mono h ?_))
      intro o M2 ⟨r2, e9, hF2, h⟩
      refine ⟨r2, e9, ?_⟩
      refine ey_ifneB (pc := 66) (off := 5) (tgt := 71) (by decide +kernel) (by decide) (fun hc => ?_) (fun hc => ?_)
      · replace h := h.1 hc
        refine ex_iinc (pc := 71) (i := 2) (k := 1) (v := l2 + nI 1) (lo2 := [some (.ref 53), some (.int l1), some (.int (l2 + nI 1))]) (by decide +kernel) (by decide) rfl rfl rfl ?_
        refine ex_goto (pc := 74) (off := -34) (tgt := 40) (by decide +kernel) (by decide) ?_
        exact h
      · replace h := h.2 hc
        refine ex_iload_n (pc := 69) (k := 2) (by decide +kernel) rfl ?_
        exact ex_ireturn (pc := 70) (by decide +kernel) rfl rfl h
theorem k_Finder_isWay_0 {d bc bs : Nat} {l1 : Int32} {M : Mem} {Φ : Option Value → Mem → Prop} (hF : Fx M) (h : Con d m_Ways_begin 0 0 [.ref 58, .int l1] M (PV fun M1 => Fx M1 ∧ Con d m_Ways_next 0 0 [.ref 58] M1 (PB fun r1 M2 => Fx M2 ∧ Φ (some (.int (b2i r1))) M2))) : Ex (d + 1) m_Finder_isWay bc bs 0 [some (.ref 53), some (.int l1)] [] M Φ := by
  refine ex_aload_n (pc := 0) (k := 0) (by decide +kernel) rfl ?_
  refine ex_getR (pc := 1) (a := 58) (by decide +kernel) lf_Finder_41 (hF.s (j := 53) rfl) (hF.r (j := 53) (k := 2) rfl rfl) ?_
  refine ex_iload_n (pc := 4) (k := 1) (by decide +kernel) rfl ?_
  refine ex_callV (pc := 5) (as := [.int l1]) (by decide +kernel) F_Ways_begin (in_t4 (i := 63) rfl rfl) (hF.s (j := 58) rfl) rfl (by decide) rfl rfl (Nat.le_of_ble_eq_true rfl) (Nat.lt_succ_self _) ⟨Nat.zero_le _, Nat.zero_le _⟩ (KC_V (Con.mono h ?_))
  intro o M1 ⟨e9, hF1, h⟩
  refine ⟨e9, ?_⟩
  refine ex_aload_n (pc := 8) (k := 0) (by decide +kernel) rfl ?_
  refine ex_getR (pc := 9) (a := 58) (by decide +kernel) lf_Finder_41 (hF1.s (j := 53) rfl) (hF1.r (j := 53) (k := 2) rfl rfl) ?_
  refine ex_callV (pc := 12) (as := []) (by decide +kernel) F_Ways_next (in_t4 (i := 69) rfl rfl) (hF1.s (j := 58) rfl) rfl (by decide) rfl rfl (Nat.le_of_ble_eq_true rfl) (Nat.lt_succ_self _) ⟨Nat.zero_le _, Nat.zero_le _⟩ (KC_B (Con.mono h ?_))
  intro o M2 ⟨r1, e9, hF2, h⟩
  refine ⟨r1, e9, ?_⟩
  exact ex_ireturn (pc := 15) (v := b2i r1) (by decide +kernel) rfl (b2i_n _) h
theorem k_Finder_seek_0 {d bc bs : Nat} {l1 : Int32} {l2 : Nat} {M : Mem} {Φ : Option Value → Mem → Prop} (hF : Fx M) (h : (¬ l1 = (nI 2) → Con d m_Ways_suppose 0 0 [.ref 58, .int (mi M 1 9)] (wi M 53 4 (nI 0)) (PV fun M1 => Fx M1 ∧ Con d m_Ways_begin 0 0 [.ref 58, .int (nI 63)] M1 (PV fun M2 => Fx M2 ∧ Ex (d + 1) m_Finder_seek bc bs 51 [some (.ref 53), some (.int l1), some (.ref l2), some (.int (nI 0)), some (.int (nI 0)), some (.int (nI 0)), some (.int (nI 0)), none] [] M2 Φ))) ∧ (l1 = (nI 2) → Con d m_Finder_weigh 0 0 [.ref 53] (wi M 53 4 (nI 0)) (PI fun r1 M3 => Fx M3 ∧ Con d m_Ways_suppose 0 0 [.ref 58, .int (mi M3 1 9)] M3 (PV fun M4 => Fx M4 ∧ Con d m_Ways_begin 0 0 [.ref 58, .int (nI 63)] M4 (PV fun M5 => Fx M5 ∧ Ex (d + 1) m_Finder_seek bc bs 51 [some (.ref 53), some (.int l1), some (.ref l2), some (.int r1), some (.int (nI 0)), some (.int (nI 0)), some (.int (nI 0)), none] [] M5 Φ))))) : Ex (d + 1) m_Finder_seek bc bs 0 [some (.ref 53), some (.int l1), some (.ref l2), none, none, none, none, none] [] M Φ := by
  refine ex_aload_n (pc := 0) (k := 0) (by decide +kernel) rfl ?_
  refine ex_iconst (pc := 1) (k := 0) (v := nI 0) (by decide +kernel) (by decide) ?_
  refine ex_putI (pc := 2) (index := 15) (ci := 2) (k := 4) (fin := false) (by decide +kernel) ⟨_, _, _, _, cf_Finder, by decide, in_t1 (i := 231) rfl rfl, rfl, (fun h => by cases h), rfl, rfl⟩ rfl (fun h => by cases h) (hF.s (j := 53) rfl) ?_
  refine ex_iload_n (pc := 5) (k := 1) (by decide +kernel) rfl ?_
  refine ex_iconst (pc := 6) (k := 2) (v := nI 2) (by decide +kernel) (by decide) ?_
  refine ex_icmp_ne (pc := 7) (off := 10) (tgt := 17) (by decide +kernel) (by decide) (fun hc => ?_) (fun hc => ?_)
  · replace h := h.1 hc
    refine ex_iconst (pc := 17) (k := 0) (v := nI 0) (by decide +kernel) (by decide) ?_
    refine ex_istore_n (pc := 18) (k := 3) (lo2 := [some (.ref 53), some (.int l1), some (.ref l2), some (.int (nI 0)), none, none, none, none]) (by decide +kernel) (by decide) rfl ?_
    refine ex_aload_n (pc := 19) (k := 0) (by decide +kernel) rfl ?_
    refine ex_getR (pc := 20) (a := 58) (by decide +kernel) lf_Finder_41 (hF.s (j := 53) rfl) (hF.r (j := 53) (k := 2) rfl rfl) ?_
    refine ex_aload_n (pc := 23) (k := 0) (by decide +kernel) rfl ?_
    refine ex_getR (pc := 24) (a := 1) (by decide +kernel) lf_Finder_28 (hF.s (j := 53) rfl) (hF.r (j := 53) (k := 0) rfl rfl) ?_
    refine ey_getI (pc := 27) (v := mi M 1 9) (by decide +kernel) lf_Finder_45 (hF.s (j := 1) rfl) rfl ?_
    refine ex_callV (pc := 30) (as := [.int (mi M 1 9)]) (by decide +kernel) F_Ways_suppose (in_t4 (i := 55) rfl rfl) (hF.s (j := 58) rfl) rfl (by decide) rfl rfl (Nat.le_of_ble_eq_true rfl) (Nat.lt_succ_self _) ⟨Nat.zero_le _, Nat.zero_le _⟩ (KC_V (Con.mono h ?_))
    intro o M1 ⟨e9, hF1, h⟩
    refine ⟨e9, ?_⟩
    refine ex_aload_n (pc := 33) (k := 0) (by decide +kernel) rfl ?_
    refine ex_getR (pc := 34) (a := 58) (by decide +kernel) lf_Finder_41 (hF1.s (j := 53) rfl) (hF1.r (j := 53) (k := 2) rfl rfl) ?_
    refine ex_bipush (pc := 37) (k := 63) (v := nI 63) (by decide +kernel) (by decide) ?_
    refine ex_callV (pc := 39) (as := [.int (nI 63)]) (by decide +kernel) F_Ways_begin (in_t4 (i := 63) rfl rfl) (hF1.s (j := 58) rfl) rfl (by decide) rfl rfl (Nat.le_of_ble_eq_true rfl) (Nat.lt_succ_self _) ⟨Nat.zero_le _, Nat.zero_le _⟩ (KC_V (Con.mono h ?_))
    intro o M2 ⟨e9, hF2, h⟩
    refine ⟨e9, ?_⟩
    refine ex_iconst (pc := 42) (k := 0) (v := nI 0) (by decide +kernel) (by decide) ?_
    refine ex_istore (pc := 43) (k := 4) (lo2 := [some (.ref 53), some (.int l1), some (.ref l2), some (.int (nI 0)), some (.int (nI 0)), none, none, none]) (by decide +kernel) (by decide) rfl ?_
    refine ex_iconst (pc := 45) (k := 0) (v := nI 0) (by decide +kernel) (by decide) ?_
    refine ex_istore (pc := 46) (k := 5) (lo2 := [some (.ref 53), some (.int l1), some (.ref l2), some (.int (nI 0)), some (.int (nI 0)), some (.int (nI 0)), none, none]) (by decide +kernel) (by decide) rfl ?_
    refine ex_iconst (pc := 48) (k := 0) (v := nI 0) (by decide +kernel) (by decide) ?_
    refine ex_istore (pc := 49) (k := 6) (lo2 := [some (.ref 53), some (.int l1), some (.ref l2), some (.int (nI 0)), some (.int (nI 0)), some (.int (nI 0)), some (.int (nI 0)), none]) (by decide +kernel) (by decide) rfl ?_
    exact h
  · replace h := h.2 hc
    refine ex_aload_n (pc := 10) (k := 0) (by decide +kernel) rfl ?_
    refine ex_callV (pc := 11) (as := []) (by decide +kernel) F_Finder_weigh (in_t4 (i := 94) rfl rfl) (hF.s (j := 53) rfl) rfl (by decide) rfl rfl (Nat.le_of_ble_eq_true rfl) (Nat.lt_succ_self _) ⟨Nat.zero_le _, Nat.zero_le _⟩ (KC_I (Con.mono h ?_))
    intro o M3 ⟨r1, e9, hF3, h⟩
    refine ⟨r1, e9, ?_⟩
    refine ex_goto (pc := 14) (off := 4) (tgt := 18) (by decide +kernel) (by decide) ?_
    refine ex_istore_n (pc := 18) (k := 3) (lo2 := [some (.ref 53), some (.int l1), some (.ref l2), some (.int r1), none, none, none, none]) (by decide +kernel) (by decide) rfl ?_
    refine ex_aload_n (pc := 19) (k := 0) (by decide +kernel) rfl ?_
    refine ex_getR (pc := 20) (a := 58) (by decide +kernel) lf_Finder_41 (hF3.s (j := 53) rfl) (hF3.r (j := 53) (k := 2) rfl rfl) ?_
    refine ex_aload_n (pc := 23) (k := 0) (by decide +kernel) rfl ?_
    refine ex_getR (pc := 24) (a := 1) (by decide +kernel) lf_Finder_28 (hF3.s (j := 53) rfl) (hF3.r (j := 53) (k := 0) rfl rfl) ?_
    refine ey_getI (pc := 27) (v := mi M3 1 9) (by decide +kernel) lf_Finder_45 (hF3.s (j := 1) rfl) rfl ?_
    refine ex_callV (pc := 30) (as := [.int (mi M3 1 9)]) (by decide +kernel) F_Ways_suppose (in_t4 (i := 55) rfl rfl) (hF3.s (j := 58) rfl) rfl (by decide) rfl rfl (Nat.le_of_ble_eq_true rfl) (Nat.lt_succ_self _) ⟨Nat.zero_le _, Nat.zero_le _⟩ (KC_V (Con.mono h ?_))
    intro o M4 ⟨e9, hF4, h⟩
    refine ⟨e9, ?_⟩
    refine ex_aload_n (pc := 33) (k := 0) (by decide +kernel) rfl ?_
    refine ex_getR (pc := 34) (a := 58) (by decide +kernel) lf_Finder_41 (hF4.s (j := 53) rfl) (hF4.r (j := 53) (k := 2) rfl rfl) ?_
    refine ex_bipush (pc := 37) (k := 63) (v := nI 63) (by decide +kernel) (by decide) ?_
    refine ex_callV (pc := 39) (as := [.int (nI 63)]) (by decide +kernel) F_Ways_begin (in_t4 (i := 63) rfl rfl) (hF4.s (j := 58) rfl) rfl (by decide) rfl rfl (Nat.le_of_ble_eq_true rfl) (Nat.lt_succ_self _) ⟨Nat.zero_le _, Nat.zero_le _⟩ (KC_V (Con.mono h ?_))
    intro o M5 ⟨e9, hF5, h⟩
    refine ⟨e9, ?_⟩
    refine ex_iconst (pc := 42) (k := 0) (v := nI 0) (by decide +kernel) (by decide) ?_
    refine ex_istore (pc := 43) (k := 4) (lo2 := [some (.ref 53), some (.int l1), some (.ref l2), some (.int r1), some (.int (nI 0)), none, none, none]) (by decide +kernel) (by decide) rfl ?_
    refine ex_iconst (pc := 45) (k := 0) (v := nI 0) (by decide +kernel) (by decide) ?_
    refine ex_istore (pc := 46) (k := 5) (lo2 := [some (.ref 53), some (.int l1), some (.ref l2), some (.int r1), some (.int (nI 0)), some (.int (nI 0)), none, none]) (by decide +kernel) (by decide) rfl ?_
    refine ex_iconst (pc := 48) (k := 0) (v := nI 0) (by decide +kernel) (by decide) ?_
    refine ex_istore (pc := 49) (k := 6) (lo2 := [some (.ref 53), some (.int l1), some (.ref l2), some (.int r1), some (.int (nI 0)), some (.int (nI 0)), some (.int (nI 0)), none]) (by decide +kernel) (by decide) rfl ?_
    exact h
theorem k_Finder_seek_51 {d bc bs : Nat} {l1 : Int32} {l2 : Nat} {l3 : Int32} {l4 : Int32} {l5 : Int32} {l6 : Int32} {M : Mem} {Φ : Option Value → Mem → Prop} (hF : Fx M) (h : ((nI 1000000) ≤ l6 → Ex (d + 1) m_Finder_seek bc bs 116 [some (.ref 53), some (.int l1), some (.ref l2), some (.int l3), some (.int l4), some (.int l5), some (.int l6), none] [] M Φ) ∧ (¬ (nI 1000000) ≤ l6 → (l4 = 0 → Ex (d + 1) m_Finder_seek bc bs 69 [some (.ref 53), some (.int l1), some (.ref l2), some (.int l3), some (.int l4), some (.int l5), some (.int l6), none] [] M Φ) ∧ (¬ l4 = 0 → (l3 ≤ l5 → Ex (d + 1) m_Finder_seek bc bs 116 [some (.ref 53), some (.int l1), some (.ref l2), some (.int l3), some (.int l4), some (.int l5), some (.int l6), none] [] M Φ) ∧ (¬ l3 ≤ l5 → Ex (d + 1) m_Finder_seek bc bs 69 [some (.ref 53), some (.int l1), some (.ref l2), some (.int l3), some (.int l4), some (.int l5), some (.int l6), none] [] M Φ)))) : Ex (d + 1) m_Finder_seek bc bs 51 [some (.ref 53), some (.int l1), some (.ref l2), some (.int l3), some (.int l4), some (.int l5), some (.int l6), none] [] M Φ := by
  refine ex_iload (pc := 51) (k := 6) (by decide +kernel) rfl ?_
  refine ex_ldc (pc := 53) (v := nI 1000000) (by decide +kernel) (in_t4 (i := 113) rfl rfl) ?_
  refine ex_icmp_ge (pc := 55) (off := 61) (tgt := 116) (by decide +kernel) (by decide) (fun hc => ?_) (fun hc => ?_)
  · replace h := h.1 hc
    exact h
  · replace h := h.2 hc
    refine ex_iload (pc := 58) (k := 4) (by decide +kernel) rfl ?_
    refine ex_if_eq (pc := 60) (off := 9) (tgt := 69) (by decide +kernel) (by decide) (fun hc => ?_) (fun hc => ?_)
    · replace h := h.1 hc
      exact h
    · replace h := h.2 hc
      refine ex_iload (pc := 63) (k := 5) (by decide +kernel) rfl ?_
      refine ex_iload_n (pc := 65) (k := 3) (by decide +kernel) rfl ?_
      refine ex_icmp_ge (pc := 66) (off := 50) (tgt := 116) (by decide +kernel) (by decide) (fun hc => ?_) (fun hc => ?_)
      · replace h := h.1 hc
        exact h
      · replace h := h.2 hc
        exact h
theorem k_Finder_seek_69 {d bc bs : Nat} {l1 : Int32} {l2 : Nat} {l3 : Int32} {l4 : Int32} {l5 : Int32} {l6 : Int32} {M : Mem} {Φ : Option Value → Mem → Prop} (hF : Fx M) (h : Con d m_Ways_next 0 0 [.ref 58] M (PB fun r1 M1 => Fx M1 ∧ (r1 = false → Ex (d + 1) m_Finder_seek bc bs 116 [some (.ref 53), some (.int l1), some (.ref l2), some (.int l3), some (.int l4), some (.int l5), some (.int l6), none] [] M1 Φ) ∧ (r1 = true → Con d m_Finder_score 0 0 [.ref 53, .int l1, .ref l2] M1 (PI fun r2 M2 => Fx M2 ∧ (l4 = 0 → Ex (d + 1) m_Finder_seek bc bs 99 [some (.ref 53), some (.int l1), some (.ref l2), some (.int l3), some (.int l4), some (.int l5), some (.int l6), some (.int r2)] [] M2 Φ) ∧ (¬ l4 = 0 → (r2 ≤ l5 → Ex (d + 1) m_Finder_seek bc bs 51 [some (.ref 53), some (.int l1), some (.ref l2), some (.int l3), some (.int l4), some (.int l5), some (.int (l6 + nI 1)), none] [] M2 Φ) ∧ (¬ r2 ≤ l5 → Ex (d + 1) m_Finder_seek bc bs 99 [some (.ref 53), some (.int l1), some (.ref l2), some (.int l3), some (.int l4), some (.int l5), some (.int l6), some (.int r2)] [] M2 Φ)))))) : Ex (d + 1) m_Finder_seek bc bs 69 [some (.ref 53), some (.int l1), some (.ref l2), some (.int l3), some (.int l4), some (.int l5), some (.int l6), none] [] M Φ := by
  refine ex_aload_n (pc := 69) (k := 0) (by decide +kernel) rfl ?_
  refine ex_getR (pc := 70) (a := 58) (by decide +kernel) lf_Finder_41 (hF.s (j := 53) rfl) (hF.r (j := 53) (k := 2) rfl rfl) ?_
  refine ex_callV (pc := 73) (as := []) (by decide +kernel) F_Ways_next (in_t4 (i := 69) rfl rfl) (hF.s (j := 58) rfl) rfl (by decide) rfl rfl (Nat.le_of_ble_eq_true rfl) (Nat.lt_succ_self _) ⟨Nat.zero_le _, Nat.zero_le _⟩ (KC_B (Con.mono h ?_))
  intro o M1 ⟨r1, e9, hF1, h⟩
  refine ⟨r1, e9, ?_⟩
  refine ey_ifeqB (pc := 76) (off := 40) (tgt := 116) (by decide +kernel) (by decide) (fun hc => ?_) (fun hc => ?_)
  · replace h := h.1 hc
    exact h
  · replace h := h.2 hc
    refine ex_aload_n (pc := 79) (k := 0) (by decide +kernel) rfl ?_
    refine ex_iload_n (pc := 80) (k := 1) (by decide +kernel) rfl ?_
    refine ex_aload_n (pc := 81) (k := 2) (by decide +kernel) rfl ?_
    refine ex_callV (pc := 82) (as := [.int l1, .ref l2]) (by decide +kernel) F_Finder_score (in_t4 (i := 114) rfl rfl) (hF1.s (j := 53) rfl) rfl (by decide) rfl rfl (Nat.le_of_ble_eq_true rfl) (Nat.lt_succ_self _) ⟨Nat.zero_le _, Nat.zero_le _⟩ (KC_I (Con.mono h ?_))
    intro o M2 ⟨r2, e9, hF2, h⟩
    refine ⟨r2, e9, ?_⟩
    refine ex_istore (pc := 85) (k := 7) (lo2 := [some (.ref 53), some (.int l1), some (.ref l2), some (.int l3), some (.int l4), some (.int l5), some (.int l6), some (.int r2)]) (by decide +kernel) (by decide) rfl ?_
    refine ex_iload (pc := 87) (k := 4) (by decide +kernel) rfl ?_
    refine ex_if_eq (pc := 89) (off := 10) (tgt := 99) (by decide +kernel) (by decide) (fun hc => ?_) (fun hc => ?_)
    · replace h := h.1 hc
      exact h
    · replace h := h.2 hc
      refine ex_iload (pc := 92) (k := 7) (by decide +kernel) rfl ?_
      refine ex_iload (pc := 94) (k := 5) (by decide +kernel) rfl ?_
      refine ex_icmp_le (pc := 96) (off := 14) (tgt := 110) (by decide +kernel) (by decide) (fun hc => ?_) (fun hc => ?_)
      · replace h := h.1 hc
        refine ex_iinc (pc := 110) (i := 6) (k := 1) (v := l6 + nI 1) (lo2 := [some (.ref 53), some (.int l1), some (.ref l2), some (.int l3), some (.int l4), some (.int l5), some (.int (l6 + nI 1)), some (.int r2)]) (by decide +kernel) (by decide) rfl rfl rfl ?_
        refine ex_goto (pc := 113) (off := -62) (tgt := 51) (by decide +kernel) (by decide) ?_
        exact Ex.msk [true, true, true, true, true, true, true, false] h
      · replace h := h.2 hc
        exact h
theorem k_Finder_seek_99 {d bc bs : Nat} {l1 : Int32} {l2 : Nat} {l3 : Int32} {l4 : Int32} {l5 : Int32} {l6 : Int32} {l7 : Int32} {M : Mem} {Φ : Option Value → Mem → Prop} (hF : Fx M) (h : Con d m_Finder_keepWay 0 0 [.ref 53] M (PV fun M1 => Fx M1 ∧ Ex (d + 1) m_Finder_seek bc bs 51 [some (.ref 53), some (.int l1), some (.ref l2), some (.int l3), some (.int (nI 1)), some (.int l7), some (.int (l6 + nI 1)), none] [] M1 Φ)) : Ex (d + 1) m_Finder_seek bc bs 99 [some (.ref 53), some (.int l1), some (.ref l2), some (.int l3), some (.int l4), some (.int l5), some (.int l6), some (.int l7)] [] M Φ := by
  refine ex_iconst (pc := 99) (k := 1) (v := nI 1) (by decide +kernel) (by decide) ?_
  refine ex_istore (pc := 100) (k := 4) (lo2 := [some (.ref 53), some (.int l1), some (.ref l2), some (.int l3), some (.int (nI 1)), some (.int l5), some (.int l6), some (.int l7)]) (by decide +kernel) (by decide) rfl ?_
  refine ex_iload (pc := 102) (k := 7) (by decide +kernel) rfl ?_
  refine ex_istore (pc := 104) (k := 5) (lo2 := [some (.ref 53), some (.int l1), some (.ref l2), some (.int l3), some (.int (nI 1)), some (.int l7), some (.int l6), some (.int l7)]) (by decide +kernel) (by decide) rfl ?_
  refine ex_aload_n (pc := 106) (k := 0) (by decide +kernel) rfl ?_
  refine ex_callV (pc := 107) (as := []) (by decide +kernel) F_Finder_keepWay (in_t4 (i := 130) rfl rfl) (hF.s (j := 53) rfl) rfl (by decide) rfl rfl (Nat.le_of_ble_eq_true rfl) (Nat.lt_succ_self _) ⟨Nat.zero_le _, Nat.zero_le _⟩ (KC_V (Con.mono h ?_))
  intro o M1 ⟨e9, hF1, h⟩
  refine ⟨e9, ?_⟩
  refine ex_iinc (pc := 110) (i := 6) (k := 1) (v := l6 + nI 1) (lo2 := [some (.ref 53), some (.int l1), some (.ref l2), some (.int l3), some (.int (nI 1)), some (.int l7), some (.int (l6 + nI 1)), some (.int l7)]) (by decide +kernel) (by decide) rfl rfl rfl ?_
  refine ex_goto (pc := 113) (off := -62) (tgt := 51) (by decide +kernel) (by decide) ?_
  exact Ex.msk [true, true, true, true, true, true, true, false] h
theorem k_Finder_seek_116 {d bc bs : Nat} {l1 : Int32} {l2 : Nat} {l3 : Int32} {l4 : Int32} {l5 : Int32} {l6 : Int32} {M : Mem} {Φ : Option Value → Mem → Prop} (hF : Fx M) (h : (¬ l4 = 0 → (¬ l1 = (nI 1) → (¬ l1 = (nI 2) → Φ (some (.long (Int32.toInt64 (-l5)))) M) ∧ (l1 = (nI 2) → Φ (some (.long (Int32.toInt64 l5))) M)) ∧ (l1 = (nI 1) → Φ (some (.long 1)) M)) ∧ (l4 = 0 → Φ (some (.long (-4611686018427387903))) M)) : Ex (d + 1) m_Finder_seek bc bs 116 [some (.ref 53), some (.int l1), some (.ref l2), some (.int l3), some (.int l4), some (.int l5), some (.int l6), none] [] M Φ := by
  refine ex_iload (pc := 116) (k := 4) (by decide +kernel) rfl ?_
  refine ex_if_ne (pc := 118) (off := 7) (tgt := 125) (by decide +kernel) (by decide) (fun hc => ?_) (fun hc => ?_)
  · replace h := h.1 hc
    refine ex_iload_n (pc := 125) (k := 1) (by decide +kernel) rfl ?_
    refine ex_iconst (pc := 126) (k := 1) (v := nI 1) (by decide +kernel) (by decide) ?_
    refine ex_icmp_ne (pc := 127) (off := 7) (tgt := 134) (by decide +kernel) (by decide) (fun hc => ?_) (fun hc => ?_)
    · replace h := h.1 hc
      refine ex_iload_n (pc := 134) (k := 1) (by decide +kernel) rfl ?_
      refine ex_iconst (pc := 135) (k := 2) (v := nI 2) (by decide +kernel) (by decide) ?_
      refine ex_icmp_ne (pc := 136) (off := 9) (tgt := 145) (by decide +kernel) (by decide) (fun hc => ?_) (fun hc => ?_)
      · replace h := h.1 hc
        refine ex_iload (pc := 145) (k := 5) (by decide +kernel) rfl ?_
        refine ex_ineg (pc := 147) (by decide +kernel) ?_
        refine ex_i2l (pc := 148) (by decide +kernel) ?_
        exact ex_lreturn (pc := 149) (by decide +kernel) rfl h
      · replace h := h.2 hc
        refine ex_iload (pc := 139) (k := 5) (by decide +kernel) rfl ?_
        refine ex_i2l (pc := 141) (by decide +kernel) ?_
        refine ex_goto (pc := 142) (off := 7) (tgt := 149) (by decide +kernel) (by decide) ?_
        exact ex_lreturn (pc := 149) (by decide +kernel) rfl h
    · replace h := h.2 hc
      refine ex_lconst (pc := 130) (k := 1) (v := 1) (by decide +kernel) rfl ?_
      refine ex_goto (pc := 131) (off := 18) (tgt := 149) (by decide +kernel) (by decide) ?_
      exact ex_lreturn (pc := 149) (by decide +kernel) rfl h
  · replace h := h.2 hc
    refine ex_ldc2 (pc := 121) (v := -4611686018427387903) (by decide +kernel) (in_t4 (i := 134) rfl rfl) ?_
    exact ex_lreturn (pc := 124) (by decide +kernel) rfl h
theorem k_Finder_seek_n_0 {d bc bs : Nat} {l1 : Int32} {M : Mem} {Φ : Option Value → Mem → Prop} (hF : Fx M) (h : (¬ l1 = (nI 2) → Con d m_Ways_suppose 0 0 [.ref 58, .int (mi M 1 9)] (wi M 53 4 (nI 0)) (PV fun M1 => Fx M1 ∧ Con d m_Ways_begin 0 0 [.ref 58, .int (nI 63)] M1 (PV fun M2 => Fx M2 ∧ Ex (d + 1) m_Finder_seek bc bs 51 [some (.ref 53), some (.int l1), some (.null), some (.int (nI 0)), some (.int (nI 0)), some (.int (nI 0)), some (.int (nI 0)), none] [] M2 Φ))) ∧ (l1 = (nI 2) → Con d m_Finder_weigh 0 0 [.ref 53] (wi M 53 4 (nI 0)) (PI fun r1 M3 => Fx M3 ∧ Con d m_Ways_suppose 0 0 [.ref 58, .int (mi M3 1 9)] M3 (PV fun M4 => Fx M4 ∧ Con d m_Ways_begin 0 0 [.ref 58, .int (nI 63)] M4 (PV fun M5 => Fx M5 ∧ Ex (d + 1) m_Finder_seek bc bs 51 [some (.ref 53), some (.int l1), some (.null), some (.int r1), some (.int (nI 0)), some (.int (nI 0)), some (.int (nI 0)), none] [] M5 Φ))))) : Ex (d + 1) m_Finder_seek bc bs 0 [some (.ref 53), some (.int l1), some (.null), none, none, none, none, none] [] M Φ := by
  refine ex_aload_n (pc := 0) (k := 0) (by decide +kernel) rfl ?_
  refine ex_iconst (pc := 1) (k := 0) (v := nI 0) (by decide +kernel) (by decide) ?_
  refine ex_putI (pc := 2) (index := 15) (ci := 2) (k := 4) (fin := false) (by decide +kernel) ⟨_, _, _, _, cf_Finder, by decide, in_t1 (i := 231) rfl rfl, rfl, (fun h => by cases h), rfl, rfl⟩ rfl (fun h => by cases h) (hF.s (j := 53) rfl) ?_
  refine ex_iload_n (pc := 5) (k := 1) (by decide +kernel) rfl ?_
  refine ex_iconst (pc := 6) (k := 2) (v := nI 2) (by decide +kernel) (by decide) ?_
  refine ex_icmp_ne (pc := 7) (off := 10) (tgt := 17) (by decide +kernel) (by decide) (fun hc => ?_) (fun hc => ?_)
  · replace h := h.1 hc
    refine ex_iconst (pc := 17) (k := 0) (v := nI 0) (by decide +kernel) (by decide) ?_
    refine ex_istore_n (pc := 18) (k := 3) (lo2 := [some (.ref 53), some (.int l1), some (.null), some (.int (nI 0)), none, none, none, none]) (by decide +kernel) (by decide) rfl ?_
    refine ex_aload_n (pc := 19) (k := 0) (by decide +kernel) rfl ?_
    refine ex_getR (pc := 20) (a := 58) (by decide +kernel) lf_Finder_41 (hF.s (j := 53) rfl) (hF.r (j := 53) (k := 2) rfl rfl) ?_
    refine ex_aload_n (pc := 23) (k := 0) (by decide +kernel) rfl ?_
    refine ex_getR (pc := 24) (a := 1) (by decide +kernel) lf_Finder_28 (hF.s (j := 53) rfl) (hF.r (j := 53) (k := 0) rfl rfl) ?_
    refine ey_getI (pc := 27) (v := mi M 1 9) (by decide +kernel) lf_Finder_45 (hF.s (j := 1) rfl) rfl ?_
    refine ex_callV (pc := 30) (as := [.int (mi M 1 9)]) (by decide +kernel) F_Ways_suppose (in_t4 (i := 55) rfl rfl) (hF.s (j := 58) rfl) rfl (by decide) rfl rfl (Nat.le_of_ble_eq_true rfl) (Nat.lt_succ_self _) ⟨Nat.zero_le _, Nat.zero_le _⟩ (KC_V (Con.mono h ?_))
    intro o M1 ⟨e9, hF1, h⟩
    refine ⟨e9, ?_⟩
    refine ex_aload_n (pc := 33) (k := 0) (by decide +kernel) rfl ?_
    refine ex_getR (pc := 34) (a := 58) (by decide +kernel) lf_Finder_41 (hF1.s (j := 53) rfl) (hF1.r (j := 53) (k := 2) rfl rfl) ?_
    refine ex_bipush (pc := 37) (k := 63) (v := nI 63) (by decide +kernel) (by decide) ?_
    refine ex_callV (pc := 39) (as := [.int (nI 63)]) (by decide +kernel) F_Ways_begin (in_t4 (i := 63) rfl rfl) (hF1.s (j := 58) rfl) rfl (by decide) rfl rfl (Nat.le_of_ble_eq_true rfl) (Nat.lt_succ_self _) ⟨Nat.zero_le _, Nat.zero_le _⟩ (KC_V (Con.mono h ?_))
    intro o M2 ⟨e9, hF2, h⟩
    refine ⟨e9, ?_⟩
    refine ex_iconst (pc := 42) (k := 0) (v := nI 0) (by decide +kernel) (by decide) ?_
    refine ex_istore (pc := 43) (k := 4) (lo2 := [some (.ref 53), some (.int l1), some (.null), some (.int (nI 0)), some (.int (nI 0)), none, none, none]) (by decide +kernel) (by decide) rfl ?_
    refine ex_iconst (pc := 45) (k := 0) (v := nI 0) (by decide +kernel) (by decide) ?_
    refine ex_istore (pc := 46) (k := 5) (lo2 := [some (.ref 53), some (.int l1), some (.null), some (.int (nI 0)), some (.int (nI 0)), some (.int (nI 0)), none, none]) (by decide +kernel) (by decide) rfl ?_
    refine ex_iconst (pc := 48) (k := 0) (v := nI 0) (by decide +kernel) (by decide) ?_
    refine ex_istore (pc := 49) (k := 6) (lo2 := [some (.ref 53), some (.int l1), some (.null), some (.int (nI 0)), some (.int (nI 0)), some (.int (nI 0)), some (.int (nI 0)), none]) (by decide +kernel) (by decide) rfl ?_
    exact h
  · replace h := h.2 hc
    refine ex_aload_n (pc := 10) (k := 0) (by decide +kernel) rfl ?_
    refine ex_callV (pc := 11) (as := []) (by decide +kernel) F_Finder_weigh (in_t4 (i := 94) rfl rfl) (hF.s (j := 53) rfl) rfl (by decide) rfl rfl (Nat.le_of_ble_eq_true rfl) (Nat.lt_succ_self _) ⟨Nat.zero_le _, Nat.zero_le _⟩ (KC_I (Con.mono h ?_))
    intro o M3 ⟨r1, e9, hF3, h⟩
    refine ⟨r1, e9, ?_⟩
    refine ex_goto (pc := 14) (off := 4) (tgt := 18) (by decide +kernel) (by decide) ?_
    refine ex_istore_n (pc := 18) (k := 3) (lo2 := [some (.ref 53), some (.int l1), some (.null), some (.int r1), none, none, none, none]) (by decide +kernel) (by decide) rfl ?_
    refine ex_aload_n (pc := 19) (k := 0) (by decide +kernel) rfl ?_
    refine ex_getR (pc := 20) (a := 58) (by decide +kernel) lf_Finder_41 (hF3.s (j := 53) rfl) (hF3.r (j := 53) (k := 2) rfl rfl) ?_
    refine ex_aload_n (pc := 23) (k := 0) (by decide +kernel) rfl ?_
    refine ex_getR (pc := 24) (a := 1) (by decide +kernel) lf_Finder_28 (hF3.s (j := 53) rfl) (hF3.r (j := 53) (k := 0) rfl rfl) ?_
    refine ey_getI (pc := 27) (v := mi M3 1 9) (by decide +kernel) lf_Finder_45 (hF3.s (j := 1) rfl) rfl ?_
    refine ex_callV (pc := 30) (as := [.int (mi M3 1 9)]) (by decide +kernel) F_Ways_suppose (in_t4 (i := 55) rfl rfl) (hF3.s (j := 58) rfl) rfl (by decide) rfl rfl (Nat.le_of_ble_eq_true rfl) (Nat.lt_succ_self _) ⟨Nat.zero_le _, Nat.zero_le _⟩ (KC_V (Con.mono h ?_))
    intro o M4 ⟨e9, hF4, h⟩
    refine ⟨e9, ?_⟩
    refine ex_aload_n (pc := 33) (k := 0) (by decide +kernel) rfl ?_
    refine ex_getR (pc := 34) (a := 58) (by decide +kernel) lf_Finder_41 (hF4.s (j := 53) rfl) (hF4.r (j := 53) (k := 2) rfl rfl) ?_
    refine ex_bipush (pc := 37) (k := 63) (v := nI 63) (by decide +kernel) (by decide) ?_
    refine ex_callV (pc := 39) (as := [.int (nI 63)]) (by decide +kernel) F_Ways_begin (in_t4 (i := 63) rfl rfl) (hF4.s (j := 58) rfl) rfl (by decide) rfl rfl (Nat.le_of_ble_eq_true rfl) (Nat.lt_succ_self _) ⟨Nat.zero_le _, Nat.zero_le _⟩ (KC_V (Con.mono h ?_))
    intro o M5 ⟨e9, hF5, h⟩
    refine ⟨e9, ?_⟩
    refine ex_iconst (pc := 42) (k := 0) (v := nI 0) (by decide +kernel) (by decide) ?_
    refine ex_istore (pc := 43) (k := 4) (lo2 := [some (.ref 53), some (.int l1), some (.null), some (.int r1), some (.int (nI 0)), none, none, none]) (by decide +kernel) (by decide) rfl ?_
    refine ex_iconst (pc := 45) (k := 0) (v := nI 0) (by decide +kernel) (by decide) ?_
    refine ex_istore (pc := 46) (k := 5) (lo2 := [some (.ref 53), some (.int l1), some (.null), some (.int r1), some (.int (nI 0)), some (.int (nI 0)), none, none]) (by decide +kernel) (by decide) rfl ?_
    refine ex_iconst (pc := 48) (k := 0) (v := nI 0) (by decide +kernel) (by decide) ?_
    refine ex_istore (pc := 49) (k := 6) (lo2 := [some (.ref 53), some (.int l1), some (.null), some (.int r1), some (.int (nI 0)), some (.int (nI 0)), some (.int (nI 0)), none]) (by decide +kernel) (by decide) rfl ?_
    exact h
theorem k_Finder_seek_n_51 {d bc bs : Nat} {l1 : Int32} {l3 : Int32} {l4 : Int32} {l5 : Int32} {l6 : Int32} {M : Mem} {Φ : Option Value → Mem → Prop} (hF : Fx M) (h : ((nI 1000000) ≤ l6 → Ex (d + 1) m_Finder_seek bc bs 116 [some (.ref 53), some (.int l1), some (.null), some (.int l3), some (.int l4), some (.int l5), some (.int l6), none] [] M Φ) ∧ (¬ (nI 1000000) ≤ l6 → (l4 = 0 → Ex (d + 1) m_Finder_seek bc bs 69 [some (.ref 53), some (.int l1), some (.null), some (.int l3), some (.int l4), some (.int l5), some (.int l6), none] [] M Φ) ∧ (¬ l4 = 0 → (l3 ≤ l5 → Ex (d + 1) m_Finder_seek bc bs 116 [some (.ref 53), some (.int l1), some (.null), some (.int l3), some (.int l4), some (.int l5), some (.int l6), none] [] M Φ) ∧ (¬ l3 ≤ l5 → Ex (d + 1) m_Finder_seek bc bs 69 [some (.ref 53), some (.int l1), some (.null), some (.int l3), some (.int l4), some (.int l5), some (.int l6), none] [] M Φ)))) : Ex (d + 1) m_Finder_seek bc bs 51 [some (.ref 53), some (.int l1), some (.null), some (.int l3), some (.int l4), some (.int l5), some (.int l6), none] [] M Φ := by
  refine ex_iload (pc := 51) (k := 6) (by decide +kernel) rfl ?_
  refine ex_ldc (pc := 53) (v := nI 1000000) (by decide +kernel) (in_t4 (i := 113) rfl rfl) ?_
  refine ex_icmp_ge (pc := 55) (off := 61) (tgt := 116) (by decide +kernel) (by decide) (fun hc => ?_) (fun hc => ?_)
  · replace h := h.1 hc
    exact h
  · replace h := h.2 hc
    refine ex_iload (pc := 58) (k := 4) (by decide +kernel) rfl ?_
    refine ex_if_eq (pc := 60) (off := 9) (tgt := 69) (by decide +kernel) (by decide) (fun hc => ?_) (fun hc => ?_)
    · replace h := h.1 hc
      exact h
    · replace h := h.2 hc
      refine ex_iload (pc := 63) (k := 5) (by decide +kernel) rfl ?_
      refine ex_iload_n (pc := 65) (k := 3) (by decide +kernel) rfl ?_
      refine ex_icmp_ge (pc := 66) (off := 50) (tgt := 116) (by decide +kernel) (by decide) (fun hc => ?_) (fun hc => ?_)
      · replace h := h.1 hc
        exact h
      · replace h := h.2 hc
        exact h
theorem k_Finder_seek_n_69 {d bc bs : Nat} {l1 : Int32} {l3 : Int32} {l4 : Int32} {l5 : Int32} {l6 : Int32} {M : Mem} {Φ : Option Value → Mem → Prop} (hF : Fx M) (h : Con d m_Ways_next 0 0 [.ref 58] M (PB fun r1 M1 => Fx M1 ∧ (r1 = false → Ex (d + 1) m_Finder_seek bc bs 116 [some (.ref 53), some (.int l1), some (.null), some (.int l3), some (.int l4), some (.int l5), some (.int l6), none] [] M1 Φ) ∧ (r1 = true → Con d m_Finder_score 0 0 [.ref 53, .int l1, .null] M1 (PI fun r2 M2 => Fx M2 ∧ (l4 = 0 → Ex (d + 1) m_Finder_seek bc bs 99 [some (.ref 53), some (.int l1), some (.null), some (.int l3), some (.int l4), some (.int l5), some (.int l6), some (.int r2)] [] M2 Φ) ∧ (¬ l4 = 0 → (r2 ≤ l5 → Ex (d + 1) m_Finder_seek bc bs 51 [some (.ref 53), some (.int l1), some (.null), some (.int l3), some (.int l4), some (.int l5), some (.int (l6 + nI 1)), none] [] M2 Φ) ∧ (¬ r2 ≤ l5 → Ex (d + 1) m_Finder_seek bc bs 99 [some (.ref 53), some (.int l1), some (.null), some (.int l3), some (.int l4), some (.int l5), some (.int l6), some (.int r2)] [] M2 Φ)))))) : Ex (d + 1) m_Finder_seek bc bs 69 [some (.ref 53), some (.int l1), some (.null), some (.int l3), some (.int l4), some (.int l5), some (.int l6), none] [] M Φ := by
  refine ex_aload_n (pc := 69) (k := 0) (by decide +kernel) rfl ?_
  refine ex_getR (pc := 70) (a := 58) (by decide +kernel) lf_Finder_41 (hF.s (j := 53) rfl) (hF.r (j := 53) (k := 2) rfl rfl) ?_
  refine ex_callV (pc := 73) (as := []) (by decide +kernel) F_Ways_next (in_t4 (i := 69) rfl rfl) (hF.s (j := 58) rfl) rfl (by decide) rfl rfl (Nat.le_of_ble_eq_true rfl) (Nat.lt_succ_self _) ⟨Nat.zero_le _, Nat.zero_le _⟩ (KC_B (Con.mono h ?_))
  intro o M1 ⟨r1, e9, hF1, h⟩
  refine ⟨r1, e9, ?_⟩
  refine ey_ifeqB (pc := 76) (off := 40) (tgt := 116) (by decide +kernel) (by decide) (fun hc => ?_) (fun hc => ?_)
  · replace h := h.1 hc
    exact h
  · replace h := h.2 hc
    refine ex_aload_n (pc := 79) (k := 0) (by decide +kernel) rfl ?_
    refine ex_iload_n (pc := 80) (k := 1) (by decide +kernel) rfl ?_
    refine ex_aload_nN (pc := 81) (k := 2) (by decide +kernel) rfl ?_
    refine ex_callV (pc := 82) (as := [.int l1, .null]) (by decide +kernel) F_Finder_score (in_t4 (i := 114) rfl rfl) (hF1.s (j := 53) rfl) rfl (by decide) rfl rfl (Nat.le_of_ble_eq_true rfl) (Nat.lt_succ_self _) ⟨Nat.zero_le _, Nat.zero_le _⟩ (KC_I (Con.mono h ?_))
    intro o M2 ⟨r2, e9, hF2, h⟩
    refine ⟨r2, e9, ?_⟩
    refine ex_istore (pc := 85) (k := 7) (lo2 := [some (.ref 53), some (.int l1), some (.null), some (.int l3), some (.int l4), some (.int l5), some (.int l6), some (.int r2)]) (by decide +kernel) (by decide) rfl ?_
    refine ex_iload (pc := 87) (k := 4) (by decide +kernel) rfl ?_
    refine ex_if_eq (pc := 89) (off := 10) (tgt := 99) (by decide +kernel) (by decide) (fun hc => ?_) (fun hc => ?_)
    · replace h := h.1 hc
      exact h
    · replace h := h.2 hc
      refine ex_iload (pc := 92) (k := 7) (by decide +kernel) rfl ?_
      refine ex_iload (pc := 94) (k := 5) (by decide +kernel) rfl ?_
      refine ex_icmp_le (pc := 96) (off := 14) (tgt := 110) (by decide +kernel) (by decide) (fun hc => ?_) (fun hc => ?_)
      · replace h := h.1 hc
        refine ex_iinc (pc := 110) (i := 6) (k := 1) (v := l6 + nI 1) (lo2 := [some (.ref 53), some (.int l1), some (.null), some (.int l3), some (.int l4), some (.int l5), some (.int (l6 + nI 1)), some (.int r2)]) (by decide +kernel) (by decide) rfl rfl rfl ?_
        refine ex_goto (pc := 113) (off := -62) (tgt := 51) (by decide +kernel) (by decide) ?_
        exact Ex.msk [true, true, true, true, true, true, true, false] h
      · replace h := h.2 hc
        exact h
theorem k_Finder_seek_n_99 {d bc bs : Nat} {l1 : Int32} {l3 : Int32} {l4 : Int32} {l5 : Int32} {l6 : Int32} {l7 : Int32} {M : Mem} {Φ : Option Value → Mem → Prop} (hF : Fx M) (h : Con d m_Finder_keepWay 0 0 [.ref 53] M (PV fun M1 => Fx M1 ∧ Ex (d + 1) m_Finder_seek bc bs 51 [some (.ref 53), some (.int l1), some (.null), some (.int l3), some (.int (nI 1)), some (.int l7), some (.int (l6 + nI 1)), none] [] M1 Φ)) : Ex (d + 1) m_Finder_seek bc bs 99 [some (.ref 53), some (.int l1), some (.null), some (.int l3), some (.int l4), some (.int l5), some (.int l6), some (.int l7)] [] M Φ := by
  refine ex_iconst (pc := 99) (k := 1) (v := nI 1) (by decide +kernel) (by decide) ?_
  refine ex_istore (pc := 100) (k := 4) (lo2 := [some (.ref 53), some (.int l1), some (.null), some (.int l3), some (.int (nI 1)), some (.int l5), some (.int l6), some (.int l7)]) (by decide +kernel) (by decide) rfl ?_
  refine ex_iload (pc := 102) (k := 7) (by decide +kernel) rfl ?_
  refine ex_istore (pc := 104) (k := 5) (lo2 := [some (.ref 53), some (.int l1), some (.null), some (.int l3), some (.int (nI 1)), some (.int l7), some (.int l6), some (.int l7)]) (by decide +kernel) (by decide) rfl ?_
  refine ex_aload_n (pc := 106) (k := 0) (by decide +kernel) rfl ?_
  refine ex_callV (pc := 107) (as := []) (by decide +kernel) F_Finder_keepWay (in_t4 (i := 130) rfl rfl) (hF.s (j := 53) rfl) rfl (by decide) rfl rfl (Nat.le_of_ble_eq_true rfl) (Nat.lt_succ_self _) ⟨Nat.zero_le _, Nat.zero_le _⟩ (KC_V (Con.mono h ?_))
  intro o M1 ⟨e9, hF1, h⟩
  refine ⟨e9, ?_⟩
  refine ex_iinc (pc := 110) (i := 6) (k := 1) (v := l6 + nI 1) (lo2 := [some (.ref 53), some (.int l1), some (.null), some (.int l3), some (.int (nI 1)), some (.int l7), some (.int (l6 + nI 1)), some (.int l7)]) (by decide +kernel) (by decide) rfl rfl rfl ?_
  refine ex_goto (pc := 113) (off := -62) (tgt := 51) (by decide +kernel) (by decide) ?_
  exact Ex.msk [true, true, true, true, true, true, true, false] h
theorem k_Finder_seek_n_116 {d bc bs : Nat} {l1 : Int32} {l3 : Int32} {l4 : Int32} {l5 : Int32} {l6 : Int32} {M : Mem} {Φ : Option Value → Mem → Prop} (hF : Fx M) (h : (¬ l4 = 0 → (¬ l1 = (nI 1) → (¬ l1 = (nI 2) → Φ (some (.long (Int32.toInt64 (-l5)))) M) ∧ (l1 = (nI 2) → Φ (some (.long (Int32.toInt64 l5))) M)) ∧ (l1 = (nI 1) → Φ (some (.long 1)) M)) ∧ (l4 = 0 → Φ (some (.long (-4611686018427387903))) M)) : Ex (d + 1) m_Finder_seek bc bs 116 [some (.ref 53), some (.int l1), some (.null), some (.int l3), some (.int l4), some (.int l5), some (.int l6), none] [] M Φ := by
  refine ex_iload (pc := 116) (k := 4) (by decide +kernel) rfl ?_
  refine ex_if_ne (pc := 118) (off := 7) (tgt := 125) (by decide +kernel) (by decide) (fun hc => ?_) (fun hc => ?_)
  · replace h := h.1 hc
    refine ex_iload_n (pc := 125) (k := 1) (by decide +kernel) rfl ?_
    refine ex_iconst (pc := 126) (k := 1) (v := nI 1) (by decide +kernel) (by decide) ?_
    refine ex_icmp_ne (pc := 127) (off := 7) (tgt := 134) (by decide +kernel) (by decide) (fun hc => ?_) (fun hc => ?_)
    · replace h := h.1 hc
      refine ex_iload_n (pc := 134) (k := 1) (by decide +kernel) rfl ?_
      refine ex_iconst (pc := 135) (k := 2) (v := nI 2) (by decide +kernel) (by decide) ?_
      refine ex_icmp_ne (pc := 136) (off := 9) (tgt := 145) (by decide +kernel) (by decide) (fun hc => ?_) (fun hc => ?_)
      · replace h := h.1 hc
        refine ex_iload (pc := 145) (k := 5) (by decide +kernel) rfl ?_
        refine ex_ineg (pc := 147) (by decide +kernel) ?_
        refine ex_i2l (pc := 148) (by decide +kernel) ?_
        exact ex_lreturn (pc := 149) (by decide +kernel) rfl h
      · replace h := h.2 hc
        refine ex_iload (pc := 139) (k := 5) (by decide +kernel) rfl ?_
        refine ex_i2l (pc := 141) (by decide +kernel) ?_
        refine ex_goto (pc := 142) (off := 7) (tgt := 149) (by decide +kernel) (by decide) ?_
        exact ex_lreturn (pc := 149) (by decide +kernel) rfl h
    · replace h := h.2 hc
      refine ex_lconst (pc := 130) (k := 1) (v := 1) (by decide +kernel) rfl ?_
      refine ex_goto (pc := 131) (off := 18) (tgt := 149) (by decide +kernel) (by decide) ?_
      exact ex_lreturn (pc := 149) (by decide +kernel) rfl h
  · replace h := h.2 hc
    refine ex_ldc2 (pc := 121) (v := -4611686018427387903) (by decide +kernel) (in_t4 (i := 134) rfl rfl) ?_
    exact ex_lreturn (pc := 124) (by decide +kernel) rfl h
theorem k_Finder_keepWay_0 {d bc bs : Nat}  {M : Mem} {Φ : Option Value → Mem → Prop} (hF : Fx M) (h : Ex (d + 1) m_Finder_keepWay bc bs 13 [some (.ref 53), some (.int (nI 0))] [] (wi M 53 4 (mi M 1 8)) Φ) : Ex (d + 1) m_Finder_keepWay bc bs 0 [some (.ref 53), none] [] M Φ := by
  refine ex_aload_n (pc := 0) (k := 0) (by decide +kernel) rfl ?_
  refine ex_aload_n (pc := 1) (k := 0) (by decide +kernel) rfl ?_
  refine ex_getR (pc := 2) (a := 1) (by decide +kernel) lf_Finder_28 (hF.s (j := 53) rfl) (hF.r (j := 53) (k := 0) rfl rfl) ?_
  refine ey_getI (pc := 5) (v := mi M 1 8) (by decide +kernel) lf_Finder_66 (hF.s (j := 1) rfl) rfl ?_
  refine ex_putI (pc := 8) (index := 15) (ci := 2) (k := 4) (fin := false) (by decide +kernel) ⟨_, _, _, _, cf_Finder, by decide, in_t1 (i := 231) rfl rfl, rfl, (fun h => by cases h), rfl, rfl⟩ rfl (fun h => by cases h) (hF.s (j := 53) rfl) ?_
  refine ex_iconst (pc := 11) (k := 0) (v := nI 0) (by decide +kernel) (by decide) ?_
  refine ex_istore_n (pc := 12) (k := 1) (lo2 := [some (.ref 53), some (.int (nI 0))]) (by decide +kernel) (by decide) rfl ?_
  exact h
theorem k_Finder_keepWay_13 {d bc bs : Nat} {l1 : Int32} {M : Mem} {Φ : Option Value → Mem → Prop} (hF : Fx M) (h : ((mi M 53 4) ≤ l1 → Φ none M) ∧ (¬ (mi M 53 4) ≤ l1 → vp_in l1 6 ∧ vp_in l1 6 ∧ Ex (d + 1) m_Finder_keepWay bc bs 13 [some (.ref 53), some (.int (l1 + nI 1))] [] (wi M 54 l1.toNatClampNeg (mi M 62 l1.toNatClampNeg)) Φ)) : Ex (d + 1) m_Finder_keepWay bc bs 13 [some (.ref 53), some (.int l1)] [] M Φ := by
  refine ex_iload_n (pc := 13) (k := 1) (by decide +kernel) rfl ?_
  refine ex_aload_n (pc := 14) (k := 0) (by decide +kernel) rfl ?_
  refine ey_getI (pc := 15) (v := mi M 53 4) (by decide +kernel) lf_Finder_15 (hF.s (j := 53) rfl) rfl ?_
  refine ex_icmp_ge (pc := 18) (off := 24) (tgt := 42) (by decide +kernel) (by decide) (fun hc => ?_) (fun hc => ?_)
  · replace h := h.1 hc
    exact ex_return (pc := 42) (by decide +kernel) rfl h
  · replace h := h.2 hc
    refine ex_aload_n (pc := 21) (k := 0) (by decide +kernel) rfl ?_
    refine ex_getR (pc := 22) (a := 54) (by decide +kernel) lf_Finder_9 (hF.s (j := 53) rfl) (hF.r (j := 53) (k := 3) rfl rfl) ?_
    refine ex_iload_n (pc := 25) (k := 1) (by decide +kernel) rfl ?_
    refine ex_aload_n (pc := 26) (k := 0) (by decide +kernel) rfl ?_
    refine ex_getR (pc := 27) (a := 58) (by decide +kernel) lf_Finder_41 (hF.s (j := 53) rfl) (hF.r (j := 53) (k := 2) rfl rfl) ?_
    refine ex_getR (pc := 30) (a := 62) (by decide +kernel) lf_Finder_89 (hF.s (j := 58) rfl) (hF.r (j := 58) (k := 7) rfl rfl) ?_
    refine ex_iload_n (pc := 33) (k := 1) (by decide +kernel) rfl ?_
    obtain ⟨g1, h⟩ := h
    refine ey_iald (pc := 34) (v := mi M 62 l1.toNatClampNeg) (by decide +kernel) (hF.s (j := 62) rfl) g1 rfl rfl ?_
    obtain ⟨g2, h⟩ := h
    refine ey_iast (pc := 35) (by decide +kernel) (hF.s (j := 54) rfl) g2 rfl ?_
    refine ex_iinc (pc := 36) (i := 1) (k := 1) (v := l1 + nI 1) (lo2 := [some (.ref 53), some (.int (l1 + nI 1))]) (by decide +kernel) (by decide) rfl rfl rfl ?_
    refine ex_goto (pc := 39) (off := -26) (tgt := 13) (by decide +kernel) (by decide) ?_
    exact h
theorem k_Finder_score_0 {d bc bs : Nat} {l1 : Int32} {l2 : Nat} {M : Mem} {Φ : Option Value → Mem → Prop} (hF : Fx M) (h : (¬ l1 = (nI 2) → (¬ l1 = (nI 3) → Φ (some (.int (nI 0))) M) ∧ (l1 = (nI 3) → Con d m_Finder_otherNumbers 0 0 [.ref 53, .ref l2] M (PI fun r1 M1 => Fx M1 ∧ Φ (some (.int (-r1))) M1))) ∧ (l1 = (nI 2) → Con d m_Finder_worthOfWay 0 0 [.ref 53] M (PI fun r2 M2 => Fx M2 ∧ Φ (some (.int r2)) M2))) : Ex (d + 1) m_Finder_score bc bs 0 [some (.ref 53), some (.int l1), some (.ref l2)] [] M Φ := by
  refine ex_iload_n (pc := 0) (k := 1) (by decide +kernel) rfl ?_
  refine ex_iconst (pc := 1) (k := 2) (v := nI 2) (by decide +kernel) (by decide) ?_
  refine ex_icmp_ne (pc := 2) (off := 10) (tgt := 12) (by decide +kernel) (by decide) (fun hc => ?_) (fun hc => ?_)
  · replace h := h.1 hc
    refine ex_iload_n (pc := 12) (k := 1) (by decide +kernel) rfl ?_
    refine ex_iconst (pc := 13) (k := 3) (v := nI 3) (by decide +kernel) (by decide) ?_
    refine ex_icmp_ne (pc := 14) (off := 12) (tgt := 26) (by decide +kernel) (by decide) (fun hc => ?_) (fun hc => ?_)
    · replace h := h.1 hc
      refine ex_iconst (pc := 26) (k := 0) (v := nI 0) (by decide +kernel) (by decide) ?_
      exact ex_ireturn (pc := 27) (by decide +kernel) rfl rfl h
    · replace h := h.2 hc
      refine ex_aload_n (pc := 17) (k := 0) (by decide +kernel) rfl ?_
      refine ex_aload_n (pc := 18) (k := 2) (by decide +kernel) rfl ?_
      refine ex_callV (pc := 19) (as := [.ref l2]) (by decide +kernel) F_Finder_otherNumbers (in_t4 (i := 125) rfl rfl) (hF.s (j := 53) rfl) rfl (by decide) rfl rfl (Nat.le_of_ble_eq_true rfl) (Nat.lt_succ_self _) ⟨Nat.zero_le _, Nat.zero_le _⟩ (KC_I (Con.mono h ?_))
      intro o M1 ⟨r1, e9, hF1, h⟩
      refine ⟨r1, e9, ?_⟩
      refine ex_ineg (pc := 22) (by decide +kernel) ?_
      refine ex_goto (pc := 23) (off := 4) (tgt := 27) (by decide +kernel) (by decide) ?_
      exact ex_ireturn (pc := 27) (by decide +kernel) rfl rfl h
  · replace h := h.2 hc
    refine ex_aload_n (pc := 5) (k := 0) (by decide +kernel) rfl ?_
    refine ex_callV (pc := 6) (as := []) (by decide +kernel) F_Finder_worthOfWay (in_t4 (i := 118) rfl rfl) (hF.s (j := 53) rfl) rfl (by decide) rfl rfl (Nat.le_of_ble_eq_true rfl) (Nat.lt_succ_self _) ⟨Nat.zero_le _, Nat.zero_le _⟩ (KC_I (Con.mono h ?_))
    intro o M2 ⟨r2, e9, hF2, h⟩
    refine ⟨r2, e9, ?_⟩
    refine ex_goto (pc := 9) (off := 18) (tgt := 27) (by decide +kernel) (by decide) ?_
    exact ex_ireturn (pc := 27) (by decide +kernel) rfl rfl h
theorem k_Finder_score_n_0 {d bc bs : Nat} {l1 : Int32} {M : Mem} {Φ : Option Value → Mem → Prop} (hF : Fx M) (h : (¬ l1 = (nI 2) → (¬ l1 = (nI 3) → Φ (some (.int (nI 0))) M) ∧ (l1 = (nI 3) → Con d m_Finder_otherNumbers 0 0 [.ref 53, .null] M (PI fun r1 M1 => Fx M1 ∧ Φ (some (.int (-r1))) M1))) ∧ (l1 = (nI 2) → Con d m_Finder_worthOfWay 0 0 [.ref 53] M (PI fun r2 M2 => Fx M2 ∧ Φ (some (.int r2)) M2))) : Ex (d + 1) m_Finder_score bc bs 0 [some (.ref 53), some (.int l1), some (.null)] [] M Φ := by
  refine ex_iload_n (pc := 0) (k := 1) (by decide +kernel) rfl ?_
  refine ex_iconst (pc := 1) (k := 2) (v := nI 2) (by decide +kernel) (by decide) ?_
  refine ex_icmp_ne (pc := 2) (off := 10) (tgt := 12) (by decide +kernel) (by decide) (fun hc => ?_) (fun hc => ?_)
  · replace h := h.1 hc
    refine ex_iload_n (pc := 12) (k := 1) (by decide +kernel) rfl ?_
    refine ex_iconst (pc := 13) (k := 3) (v := nI 3) (by decide +kernel) (by decide) ?_
    refine ex_icmp_ne (pc := 14) (off := 12) (tgt := 26) (by decide +kernel) (by decide) (fun hc => ?_) (fun hc => ?_)
    · replace h := h.1 hc
      refine ex_iconst (pc := 26) (k := 0) (v := nI 0) (by decide +kernel) (by decide) ?_
      exact ex_ireturn (pc := 27) (by decide +kernel) rfl rfl h
    · replace h := h.2 hc
      refine ex_aload_n (pc := 17) (k := 0) (by decide +kernel) rfl ?_
      refine ex_aload_nN (pc := 18) (k := 2) (by decide +kernel) rfl ?_
      refine ex_callV (pc := 19) (as := [.null]) (by decide +kernel) F_Finder_otherNumbers (in_t4 (i := 125) rfl rfl) (hF.s (j := 53) rfl) rfl (by decide) rfl rfl (Nat.le_of_ble_eq_true rfl) (Nat.lt_succ_self _) ⟨Nat.zero_le _, Nat.zero_le _⟩ (KC_I (Con.mono h ?_))
      intro o M1 ⟨r1, e9, hF1, h⟩
      refine ⟨r1, e9, ?_⟩
      refine ex_ineg (pc := 22) (by decide +kernel) ?_
      refine ex_goto (pc := 23) (off := 4) (tgt := 27) (by decide +kernel) (by decide) ?_
      exact ex_ireturn (pc := 27) (by decide +kernel) rfl rfl h
  · replace h := h.2 hc
    refine ex_aload_n (pc := 5) (k := 0) (by decide +kernel) rfl ?_
    refine ex_callV (pc := 6) (as := []) (by decide +kernel) F_Finder_worthOfWay (in_t4 (i := 118) rfl rfl) (hF.s (j := 53) rfl) rfl (by decide) rfl rfl (Nat.le_of_ble_eq_true rfl) (Nat.lt_succ_self _) ⟨Nat.zero_le _, Nat.zero_le _⟩ (KC_I (Con.mono h ?_))
    intro o M2 ⟨r2, e9, hF2, h⟩
    refine ⟨r2, e9, ?_⟩
    refine ex_goto (pc := 9) (off := 18) (tgt := 27) (by decide +kernel) (by decide) ?_
    exact ex_ireturn (pc := 27) (by decide +kernel) rfl rfl h
theorem k_Finder_otherNumbers_0 {d bc bs : Nat} {l1 : Nat} {M : Mem} {Φ : Option Value → Mem → Prop} (hF : Fx M) (h : Ex (d + 1) m_Finder_otherNumbers bc bs 4 [some (.ref 53), some (.ref l1), some (.int (nI 0)), some (.int (nI 0))] [] M Φ) : Ex (d + 1) m_Finder_otherNumbers bc bs 0 [some (.ref 53), some (.ref l1), none, none] [] M Φ := by
  refine ex_iconst (pc := 0) (k := 0) (v := nI 0) (by decide +kernel) (by decide) ?_
  refine ex_istore_n (pc := 1) (k := 2) (lo2 := [some (.ref 53), some (.ref l1), some (.int (nI 0)), none]) (by decide +kernel) (by decide) rfl ?_
  refine ex_iconst (pc := 2) (k := 0) (v := nI 0) (by decide +kernel) (by decide) ?_
  refine ex_istore_n (pc := 3) (k := 3) (lo2 := [some (.ref 53), some (.ref l1), some (.int (nI 0)), some (.int (nI 0))]) (by decide +kernel) (by decide) rfl ?_
  exact h
theorem k_Finder_otherNumbers_4 {d bc bs : Nat} {l1 : Nat} {l2 : Int32} {l3 : Int32} {M : Mem} {Φ : Option Value → Mem → Prop} (hF : Fx M) (h : ((mi M 1 8) ≤ l3 → Φ (some (.int l2)) M) ∧ (¬ (mi M 1 8) ≤ l3 → (sh M)[l1]? = some (3, 2) ∧ Con d m_Giving_numberOf 0 0 [.ref l1, .int l3] M (PI fun r1 M1 => Fx M1 ∧ vp_in l3 6 ∧ (r1 = (mi M1 62 l3.toNatClampNeg) → Ex (d + 1) m_Finder_otherNumbers bc bs 4 [some (.ref 53), some (.ref l1), some (.int l2), some (.int (l3 + nI 1))] [] M1 Φ) ∧ (¬ r1 = (mi M1 62 l3.toNatClampNeg) → Ex (d + 1) m_Finder_otherNumbers bc bs 4 [some (.ref 53), some (.ref l1), some (.int (l2 + nI 1)), some (.int (l3 + nI 1))] [] M1 Φ)))) : Ex (d + 1) m_Finder_otherNumbers bc bs 4 [some (.ref 53), some (.ref l1), some (.int l2), some (.int l3)] [] M Φ := by
  refine ex_iload_n (pc := 4) (k := 3) (by decide +kernel) rfl ?_
  refine ex_aload_n (pc := 5) (k := 0) (by decide +kernel) rfl ?_
  refine ex_getR (pc := 6) (a := 1) (by decide +kernel) lf_Finder_28 (hF.s (j := 53) rfl) (hF.r (j := 53) (k := 0) rfl rfl) ?_
  refine ey_getI (pc := 9) (v := mi M 1 8) (by decide +kernel) lf_Finder_66 (hF.s (j := 1) rfl) rfl ?_
  refine ex_icmp_ge (pc := 12) (off := 33) (tgt := 45) (by decide +kernel) (by decide) (fun hc => ?_) (fun hc => ?_)
  · replace h := h.1 hc
    refine ex_iload_n (pc := 45) (k := 2) (by decide +kernel) rfl ?_
    exact ex_ireturn (pc := 46) (by decide +kernel) rfl rfl h
  · replace h := h.2 hc
    refine ex_aload_n (pc := 15) (k := 1) (by decide +kernel) rfl ?_
    refine ex_ifnull (pc := 16) (off := 20) (by decide +kernel) ?_
    refine ex_aload_n (pc := 19) (k := 1) (by decide +kernel) rfl ?_
    refine ex_iload_n (pc := 20) (k := 3) (by decide +kernel) rfl ?_
    obtain ⟨g1, h⟩ := h
    refine ex_callV (pc := 21) (as := [.int l3]) (by decide +kernel) F_Giving_numberOf (in_t4 (i := 129) rfl rfl) g1 rfl (by decide) rfl rfl (Nat.le_of_ble_eq_true rfl) (Nat.lt_succ_self _) ⟨Nat.zero_le _, Nat.zero_le _⟩ (KC_I (Con.mono h ?_))
    intro o M1 ⟨r1, e9, hF1, h⟩
    refine ⟨r1, e9, ?_⟩
    refine ex_aload_n (pc := 24) (k := 0) (by decide +kernel) rfl ?_
    refine ex_getR (pc := 25) (a := 58) (by decide +kernel) lf_Finder_41 (hF1.s (j := 53) rfl) (hF1.r (j := 53) (k := 2) rfl rfl) ?_
    refine ex_getR (pc := 28) (a := 62) (by decide +kernel) lf_Finder_89 (hF1.s (j := 58) rfl) (hF1.r (j := 58) (k := 7) rfl rfl) ?_
    refine ex_iload_n (pc := 31) (k := 3) (by decide +kernel) rfl ?_
    obtain ⟨g2, h⟩ := h
    refine ey_iald (pc := 32) (v := mi M1 62 l3.toNatClampNeg) (by decide +kernel) (hF1.s (j := 62) rfl) g2 rfl rfl ?_
    refine ex_icmp_eq (pc := 33) (off := 6) (tgt := 39) (by decide +kernel) (by decide) (fun hc => ?_) (fun hc => ?_)
    · replace h := h.1 hc
      refine ex_iinc (pc := 39) (i := 3) (k := 1) (v := l3 + nI 1) (lo2 := [some (.ref 53), some (.ref l1), some (.int l2), some (.int (l3 + nI 1))]) (by decide +kernel) (by decide) rfl rfl rfl ?_
      refine ex_goto (pc := 42) (off := -38) (tgt := 4) (by decide +kernel) (by decide) ?_
      exact h
    · replace h := h.2 hc
      refine ex_iinc (pc := 36) (i := 2) (k := 1) (v := l2 + nI 1) (lo2 := [some (.ref 53), some (.ref l1), some (.int (l2 + nI 1)), some (.int l3)]) (by decide +kernel) (by decide) rfl rfl rfl ?_
      refine ex_iinc (pc := 39) (i := 3) (k := 1) (v := l3 + nI 1) (lo2 := [some (.ref 53), some (.ref l1), some (.int (l2 + nI 1)), some (.int (l3 + nI 1))]) (by decide +kernel) (by decide) rfl rfl rfl ?_
      refine ex_goto (pc := 42) (off := -38) (tgt := 4) (by decide +kernel) (by decide) ?_
      exact h
theorem k_Finder_worthOfWay_0 {d bc bs : Nat}  {M : Mem} {Φ : Option Value → Mem → Prop} (hF : Fx M) (h : Con d m_Arrays_fill 0 0 [.ref 57, .int (nI 0)] M (PV fun M1 => Fx M1 ∧ Ex (d + 1) m_Finder_worthOfWay bc bs 10 [some (.ref 53), some (.int (nI 0)), none, none, none, none] [] M1 Φ)) : Ex (d + 1) m_Finder_worthOfWay bc bs 0 [some (.ref 53), none, none, none, none, none] [] M Φ := by
  refine ex_aload_n (pc := 0) (k := 0) (by decide +kernel) rfl ?_
  refine ex_getR (pc := 1) (a := 57) (by decide +kernel) lf_Finder_25 (hF.s (j := 53) rfl) (hF.r (j := 53) (k := 7) rfl rfl) ?_
  refine ex_iconst (pc := 4) (k := 0) (v := nI 0) (by decide +kernel) (by decide) ?_
  refine ex_callS (pc := 5) (as := [.ref 57, .int (nI 0)]) (by decide +kernel) F_Arrays_fill (in_t4 (i := 122) rfl rfl) rfl rfl (Nat.le_of_ble_eq_true rfl) (Nat.lt_succ_self _) ⟨Nat.zero_le _, Nat.zero_le _⟩ (KC_V (Con.mono h ?_))
  intro o M1 ⟨e9, hF1, h⟩
  refine ⟨e9, ?_⟩
  refine ex_iconst (pc := 8) (k := 0) (v := nI 0) (by decide +kernel) (by decide) ?_
  refine ex_istore_n (pc := 9) (k := 1) (lo2 := [some (.ref 53), some (.int (nI 0)), none, none, none, none]) (by decide +kernel) (by decide) rfl ?_
  exact h
theorem k_Finder_worthOfWay_10 {d bc bs : Nat} {l1 : Int32} {M : Mem} {Φ : Option Value → Mem → Prop} (hF : Fx M) (h : ((mi M 1 8) ≤ l1 → Ex (d + 1) m_Finder_worthOfWay bc bs 51 [some (.ref 53), some (.int (nI 0)), some (.int (nI 0)), none, none, none] [] M Φ) ∧ (¬ (mi M 1 8) ≤ l1 → vp_in l1 6 ∧ vp_in (mi M 62 l1.toNatClampNeg) 7 ∧ vp_in (mi M 62 l1.toNatClampNeg) 7 ∧ Ex (d + 1) m_Finder_worthOfWay bc bs 10 [some (.ref 53), some (.int (l1 + nI 1)), none, none, none, none] [] (wi M 57 ((mi M 62 l1.toNatClampNeg).toNatClampNeg) ((mi M 57 ((mi M 62 l1.toNatClampNeg).toNatClampNeg)) ||| ((nI 1) <<< (l1 &&& 31)))) Φ)) : Ex (d + 1) m_Finder_worthOfWay bc bs 10 [some (.ref 53), some (.int l1), none, none, none, none] [] M Φ := by
  refine ex_iload_n (pc := 10) (k := 1) (by decide +kernel) rfl ?_
  refine ex_aload_n (pc := 11) (k := 0) (by decide +kernel) rfl ?_
  refine ex_getR (pc := 12) (a := 1) (by decide +kernel) lf_Finder_28 (hF.s (j := 53) rfl) (hF.r (j := 53) (k := 0) rfl rfl) ?_
  refine ey_getI (pc := 15) (v := mi M 1 8) (by decide +kernel) lf_Finder_66 (hF.s (j := 1) rfl) rfl ?_
  refine ex_icmp_ge (pc := 18) (off := 29) (tgt := 47) (by decide +kernel) (by decide) (fun hc => ?_) (fun hc => ?_)
  · replace h := h.1 hc
    refine ex_iconst (pc := 47) (k := 0) (v := nI 0) (by decide +kernel) (by decide) ?_
    refine ex_istore_n (pc := 48) (k := 1) (lo2 := [some (.ref 53), some (.int (nI 0)), none, none, none, none]) (by decide +kernel) (by decide) rfl ?_
    refine ex_iconst (pc := 49) (k := 0) (v := nI 0) (by decide +kernel) (by decide) ?_
    refine ex_istore_n (pc := 50) (k := 2) (lo2 := [some (.ref 53), some (.int (nI 0)), some (.int (nI 0)), none, none, none]) (by decide +kernel) (by decide) rfl ?_
    exact h
  · replace h := h.2 hc
    refine ex_aload_n (pc := 21) (k := 0) (by decide +kernel) rfl ?_
    refine ex_getR (pc := 22) (a := 57) (by decide +kernel) lf_Finder_25 (hF.s (j := 53) rfl) (hF.r (j := 53) (k := 7) rfl rfl) ?_
    refine ex_aload_n (pc := 25) (k := 0) (by decide +kernel) rfl ?_
    refine ex_getR (pc := 26) (a := 58) (by decide +kernel) lf_Finder_41 (hF.s (j := 53) rfl) (hF.r (j := 53) (k := 2) rfl rfl) ?_
    refine ex_getR (pc := 29) (a := 62) (by decide +kernel) lf_Finder_89 (hF.s (j := 58) rfl) (hF.r (j := 58) (k := 7) rfl rfl) ?_
    refine ex_iload_n (pc := 32) (k := 1) (by decide +kernel) rfl ?_
    obtain ⟨g1, h⟩ := h
    refine ey_iald (pc := 33) (v := mi M 62 l1.toNatClampNeg) (by decide +kernel) (hF.s (j := 62) rfl) g1 rfl rfl ?_
    refine ex_dup2 (pc := 34) (by decide +kernel) rfl rfl ?_
    obtain ⟨g2, h⟩ := h
    refine ey_iald (pc := 35) (v := mi M 57 ((mi M 62 l1.toNatClampNeg).toNatClampNeg)) (by decide +kernel) (hF.s (j := 57) rfl) g2 rfl rfl ?_
    refine ex_iconst (pc := 36) (k := 1) (v := nI 1) (by decide +kernel) (by decide) ?_
    refine ex_iload_n (pc := 37) (k := 1) (by decide +kernel) rfl ?_
    refine ex_ishl (pc := 38) (by decide +kernel) ?_
    refine ex_ior (pc := 39) (by decide +kernel) ?_
    obtain ⟨g3, h⟩ := h
    refine ey_iast (pc := 40) (by decide +kernel) (hF.s (j := 57) rfl) g3 rfl ?_
    refine ex_iinc (pc := 41) (i := 1) (k := 1) (v := l1 + nI 1) (lo2 := [some (.ref 53), some (.int (l1 + nI 1)), none, none, none, none]) (by decide +kernel) (by decide) rfl rfl rfl ?_
    refine ex_goto (pc := 44) (off := -34) (tgt := 10) (by decide +kernel) (by decide) ?_
    exact h
theorem k_Finder_worthOfWay_51 {d bc bs : Nat} {l1 : Int32} {l2 : Int32} {M : Mem} {Φ : Option Value → Mem → Prop} (hF : Fx M) (h : ((mi M 1 8) ≤ l2 → Φ (some (.int l1)) M) ∧ (¬ (mi M 1 8) ≤ l2 → vp_in l2 6 ∧ vp_in (mi M 62 l2.toNatClampNeg) 7 ∧ Con d m_Integer_bitCount 0 0 [.int (mi M 57 ((mi M 62 l2.toNatClampNeg).toNatClampNeg))] M (PI fun r1 M1 => Fx M1 ∧ Con d m_MD_dayBefore 0 0 [.int (mi M 62 l2.toNatClampNeg), .int (mi M1 1 9)] M1 (PI fun r2 M2 => Fx M2 ∧ vp_in r2 7 ∧ vp_in ((l2 <<< ((nI 6) &&& 31)) ||| (mi M2 57 r2.toNatClampNeg)) 384 ∧ Con d m_Finder_worthPlace 0 0 [.int l2, .int (mi M 62 l2.toNatClampNeg), .int (r1 - (nI 1)), .int (mi M2 56 (((l2 <<< ((nI 6) &&& 31)) ||| (mi M2 57 r2.toNatClampNeg)).toNatClampNeg))] M2 (PI fun r3 M3 => Fx M3 ∧ vp_in r3 1764 ∧ Ex (d + 1) m_Finder_worthOfWay bc bs 51 [some (.ref 53), some (.int (l1 + (mi M3 55 r3.toNatClampNeg))), some (.int (l2 + nI 1)), none, none, none] [] M3 Φ))))) : Ex (d + 1) m_Finder_worthOfWay bc bs 51 [some (.ref 53), some (.int l1), some (.int l2), none, none, none] [] M Φ := by
  refine ex_iload_n (pc := 51) (k := 2) (by decide +kernel) rfl ?_
  refine ex_aload_n (pc := 52) (k := 0) (by decide +kernel) rfl ?_
  refine ex_getR (pc := 53) (a := 1) (by decide +kernel) lf_Finder_28 (hF.s (j := 53) rfl) (hF.r (j := 53) (k := 0) rfl rfl) ?_
  refine ey_getI (pc := 56) (v := mi M 1 8) (by decide +kernel) lf_Finder_66 (hF.s (j := 1) rfl) rfl ?_
  refine ex_icmp_ge (pc := 59) (off := 77) (tgt := 136) (by decide +kernel) (by decide) (fun hc => ?_) (fun hc => ?_)
  · replace h := h.1 hc
    refine ex_iload_n (pc := 136) (k := 1) (by decide +kernel) rfl ?_
    exact ex_ireturn (pc := 137) (by decide +kernel) rfl rfl h
  · replace h := h.2 hc
    refine ex_aload_n (pc := 62) (k := 0) (by decide +kernel) rfl ?_
    refine ex_getR (pc := 63) (a := 58) (by decide +kernel) lf_Finder_41 (hF.s (j := 53) rfl) (hF.r (j := 53) (k := 2) rfl rfl) ?_
    refine ex_getR (pc := 66) (a := 62) (by decide +kernel) lf_Finder_89 (hF.s (j := 58) rfl) (hF.r (j := 58) (k := 7) rfl rfl) ?_
    refine ex_iload_n (pc := 69) (k := 2) (by decide +kernel) rfl ?_
    obtain ⟨g1, h⟩ := h
    refine ey_iald (pc := 70) (v := mi M 62 l2.toNatClampNeg) (by decide +kernel) (hF.s (j := 62) rfl) g1 rfl rfl ?_
    refine ex_istore_n (pc := 71) (k := 3) (lo2 := [some (.ref 53), some (.int l1), some (.int l2), some (.int (mi M 62 l2.toNatClampNeg)), none, none]) (by decide +kernel) (by decide) rfl ?_
    refine ex_aload_n (pc := 72) (k := 0) (by decide +kernel) rfl ?_
    refine ex_getR (pc := 73) (a := 57) (by decide +kernel) lf_Finder_25 (hF.s (j := 53) rfl) (hF.r (j := 53) (k := 7) rfl rfl) ?_
    refine ex_iload_n (pc := 76) (k := 3) (by decide +kernel) rfl ?_
    obtain ⟨g2, h⟩ := h
    refine ey_iald (pc := 77) (v := mi M 57 ((mi M 62 l2.toNatClampNeg).toNatClampNeg)) (by decide +kernel) (hF.s (j := 57) rfl) g2 rfl rfl ?_
    refine ex_callS (pc := 78) (as := [.int (mi M 57 ((mi M 62 l2.toNatClampNeg).toNatClampNeg))]) (by decide +kernel) F_Integer_bitCount (in_t4 (i := 123) rfl rfl) rfl rfl (Nat.le_of_ble_eq_true rfl) (Nat.lt_succ_self _) ⟨Nat.zero_le _, Nat.zero_le _⟩ (KC_I (Con.mono h ?_))
    intro o M1 ⟨r1, e9, hF1, h⟩
    refine ⟨r1, e9, ?_⟩
    refine ex_iconst (pc := 81) (k := 1) (v := nI 1) (by decide +kernel) (by decide) ?_
    refine ex_isub (pc := 82) (by decide +kernel) ?_
    refine ex_istore (pc := 83) (k := 4) (lo2 := [some (.ref 53), some (.int l1), some (.int l2), some (.int (mi M 62 l2.toNatClampNeg)), some (.int (r1 - (nI 1))), none]) (by decide +kernel) (by decide) rfl ?_
    refine ex_aload_n (pc := 85) (k := 0) (by decide +kernel) rfl ?_
    refine ex_getR (pc := 86) (a := 57) (by decide +kernel) lf_Finder_25 (hF1.s (j := 53) rfl) (hF1.r (j := 53) (k := 7) rfl rfl) ?_
    refine ex_iload_n (pc := 89) (k := 3) (by decide +kernel) rfl ?_
    refine ex_aload_n (pc := 90) (k := 0) (by decide +kernel) rfl ?_
    refine ex_getR (pc := 91) (a := 1) (by decide +kernel) lf_Finder_28 (hF1.s (j := 53) rfl) (hF1.r (j := 53) (k := 0) rfl rfl) ?_
    refine ey_getI (pc := 94) (v := mi M1 1 9) (by decide +kernel) lf_Finder_45 (hF1.s (j := 1) rfl) rfl ?_
    refine ex_callSN (pc := 97) (host := "MarketDays") (as := [.int (mi M 62 l2.toNatClampNeg), .int (mi M1 1 9)]) (by decide +kernel) F_MD_dayBefore (List.mem_filter.mpr ⟨in_u4 (i := 124) rfl, rfl⟩) rfl rfl (Nat.le_of_ble_eq_true rfl) (Nat.lt_succ_self _) ⟨Nat.zero_le _, Nat.zero_le _⟩ (KC_I (Con.mono h ?_))
    intro o M2 ⟨r2, e9, hF2, h⟩
    refine ⟨r2, e9, ?_⟩
    obtain ⟨g3, h⟩ := h
    refine ey_iald (pc := 100) (v := mi M2 57 r2.toNatClampNeg) (by decide +kernel) (hF2.s (j := 57) rfl) g3 rfl rfl ?_
    refine ex_istore (pc := 101) (k := 5) (lo2 := [some (.ref 53), some (.int l1), some (.int l2), some (.int (mi M 62 l2.toNatClampNeg)), some (.int (r1 - (nI 1))), some (.int (mi M2 57 r2.toNatClampNeg))]) (by decide +kernel) (by decide) rfl ?_
    refine ex_iload_n (pc := 103) (k := 1) (by decide +kernel) rfl ?_
    refine ex_aload_n (pc := 104) (k := 0) (by decide +kernel) rfl ?_
    refine ex_getR (pc := 105) (a := 55) (by decide +kernel) lf_Finder_19 (hF2.s (j := 53) rfl) (hF2.r (j := 53) (k := 5) rfl rfl) ?_
    refine ex_iload_n (pc := 108) (k := 2) (by decide +kernel) rfl ?_
    refine ex_iload_n (pc := 109) (k := 3) (by decide +kernel) rfl ?_
    refine ex_iload (pc := 110) (k := 4) (by decide +kernel) rfl ?_
    refine ex_aload_n (pc := 112) (k := 0) (by decide +kernel) rfl ?_
    refine ex_getR (pc := 113) (a := 56) (by decide +kernel) lf_Finder_22 (hF2.s (j := 53) rfl) (hF2.r (j := 53) (k := 6) rfl rfl) ?_
    refine ex_iload_n (pc := 116) (k := 2) (by decide +kernel) rfl ?_
    refine ex_bipush (pc := 117) (k := 6) (v := nI 6) (by decide +kernel) (by decide) ?_
    refine ex_ishl (pc := 119) (by decide +kernel) ?_
    refine ex_iload (pc := 120) (k := 5) (by decide +kernel) rfl ?_
    refine ex_ior (pc := 122) (by decide +kernel) ?_
    obtain ⟨g4, h⟩ := h
    refine ey_iald (pc := 123) (v := mi M2 56 (((l2 <<< ((nI 6) &&& 31)) ||| (mi M2 57 r2.toNatClampNeg)).toNatClampNeg)) (by decide +kernel) (hF2.s (j := 56) rfl) g4 rfl rfl ?_
    refine ex_callS (pc := 124) (as := [.int l2, .int (mi M 62 l2.toNatClampNeg), .int (r1 - (nI 1)), .int (mi M2 56 (((l2 <<< ((nI 6) &&& 31)) ||| (mi M2 57 r2.toNatClampNeg)).toNatClampNeg))]) (by decide +kernel) F_Finder_worthPlace (in_t4 (i := 109) rfl rfl) rfl rfl (Nat.le_of_ble_eq_true rfl) (Nat.lt_succ_self _) ⟨Nat.zero_le _, Nat.zero_le _⟩ (KC_I (Con.mono h ?_))
    intro o M3 ⟨r3, e9, hF3, h⟩
    refine ⟨r3, e9, ?_⟩
    obtain ⟨g5, h⟩ := h
    refine ey_iald (pc := 127) (v := mi M3 55 r3.toNatClampNeg) (by decide +kernel) (hF3.s (j := 55) rfl) g5 rfl rfl ?_
    refine ex_iadd (pc := 128) (by decide +kernel) ?_
    refine ex_istore_n (pc := 129) (k := 1) (lo2 := [some (.ref 53), some (.int (l1 + (mi M3 55 r3.toNatClampNeg))), some (.int l2), some (.int (mi M 62 l2.toNatClampNeg)), some (.int (r1 - (nI 1))), some (.int (mi M2 57 r2.toNatClampNeg))]) (by decide +kernel) (by decide) rfl ?_
    refine ex_iinc (pc := 130) (i := 2) (k := 1) (v := l2 + nI 1) (lo2 := [some (.ref 53), some (.int (l1 + (mi M3 55 r3.toNatClampNeg))), some (.int (l2 + nI 1)), some (.int (mi M 62 l2.toNatClampNeg)), some (.int (r1 - (nI 1))), some (.int (mi M2 57 r2.toNatClampNeg))]) (by decide +kernel) (by decide) rfl rfl rfl ?_
    refine ex_goto (pc := 133) (off := -82) (tgt := 51) (by decide +kernel) (by decide) ?_
    exact Ex.msk [true, true, true, false, false, false] h
theorem k_Finder_weigh_0 {d bc bs : Nat}  {M : Mem} {Φ : Option Value → Mem → Prop} (hF : Fx M) (h : Ex (d + 1) m_Finder_weigh bc bs 4 [some (.ref 53), some (.int (nI 0)), some (.int (nI 0)), none, none, none] [] M Φ) : Ex (d + 1) m_Finder_weigh bc bs 0 [some (.ref 53), none, none, none, none, none] [] M Φ := by
  refine ex_iconst (pc := 0) (k := 0) (v := nI 0) (by decide +kernel) (by decide) ?_
  refine ex_istore_n (pc := 1) (k := 1) (lo2 := [some (.ref 53), some (.int (nI 0)), none, none, none, none]) (by decide +kernel) (by decide) rfl ?_
  refine ex_iconst (pc := 2) (k := 0) (v := nI 0) (by decide +kernel) (by decide) ?_
  refine ex_istore_n (pc := 3) (k := 2) (lo2 := [some (.ref 53), some (.int (nI 0)), some (.int (nI 0)), none, none, none]) (by decide +kernel) (by decide) rfl ?_
  exact h
theorem k_Finder_weigh_4 {d bc bs : Nat} {l1 : Int32} {l2 : Int32} {M : Mem} {Φ : Option Value → Mem → Prop} (hF : Fx M) (h : ((mi M 1 8) ≤ l2 → Φ (some (.int l1)) M) ∧ (¬ (mi M 1 8) ≤ l2 → Ex (d + 1) m_Finder_weigh bc bs 17 [some (.ref 53), some (.int l1), some (.int l2), some (.int (nI 0)), none, none] [] M Φ)) : Ex (d + 1) m_Finder_weigh bc bs 4 [some (.ref 53), some (.int l1), some (.int l2), none, none, none] [] M Φ := by
  refine ex_iload_n (pc := 4) (k := 2) (by decide +kernel) rfl ?_
  refine ex_aload_n (pc := 5) (k := 0) (by decide +kernel) rfl ?_
  refine ex_getR (pc := 6) (a := 1) (by decide +kernel) lf_Finder_28 (hF.s (j := 53) rfl) (hF.r (j := 53) (k := 0) rfl rfl) ?_
  refine ey_getI (pc := 9) (v := mi M 1 8) (by decide +kernel) lf_Finder_66 (hF.s (j := 1) rfl) rfl ?_
  refine ex_icmp_ge (pc := 12) (off := 111) (tgt := 123) (by decide +kernel) (by decide) (fun hc => ?_) (fun hc => ?_)
  · replace h := h.1 hc
    refine ex_iload_n (pc := 123) (k := 1) (by decide +kernel) rfl ?_
    exact ex_ireturn (pc := 124) (by decide +kernel) rfl rfl h
  · replace h := h.2 hc
    refine ex_iconst (pc := 15) (k := 0) (v := nI 0) (by decide +kernel) (by decide) ?_
    refine ex_istore_n (pc := 16) (k := 3) (lo2 := [some (.ref 53), some (.int l1), some (.int l2), some (.int (nI 0)), none, none]) (by decide +kernel) (by decide) rfl ?_
    exact h
theorem k_Finder_weigh_17 {d bc bs : Nat} {l1 : Int32} {l2 : Int32} {l3 : Int32} {M : Mem} {Φ : Option Value → Mem → Prop} (hF : Fx M) (h : (((nI 1) <<< ((mi M 1 8) &&& 31)) ≤ l3 → Ex (d + 1) m_Finder_weigh bc bs 60 [some (.ref 53), some (.int l1), some (.int l2), some (.int (-999)), some (.int (nI 0)), none] [] M Φ) ∧ (¬ ((nI 1) <<< ((mi M 1 8) &&& 31)) ≤ l3 → Con d m_Finder_nearestOf 0 0 [.ref 53, .int l2, .int l3] M (PI fun r1 M1 => Fx M1 ∧ vp_in ((l2 <<< ((nI 6) &&& 31)) ||| l3) 384 ∧ Ex (d + 1) m_Finder_weigh bc bs 17 [some (.ref 53), some (.int l1), some (.int l2), some (.int (l3 + nI 1)), none, none] [] (wi M1 56 (((l2 <<< ((nI 6) &&& 31)) ||| l3).toNatClampNeg) r1) Φ))) : Ex (d + 1) m_Finder_weigh bc bs 17 [some (.ref 53), some (.int l1), some (.int l2), some (.int l3), none, none] [] M Φ := by
  refine ex_iload_n (pc := 17) (k := 3) (by decide +kernel) rfl ?_
  refine ex_iconst (pc := 18) (k := 1) (v := nI 1) (by decide +kernel) (by decide) ?_
  refine ex_aload_n (pc := 19) (k := 0) (by decide +kernel) rfl ?_
  refine ex_getR (pc := 20) (a := 1) (by decide +kernel) lf_Finder_28 (hF.s (j := 53) rfl) (hF.r (j := 53) (k := 0) rfl rfl) ?_
  refine ey_getI (pc := 23) (v := mi M 1 8) (by decide +kernel) lf_Finder_66 (hF.s (j := 1) rfl) rfl ?_
  refine ex_ishl (pc := 26) (by decide +kernel) ?_
  refine ex_icmp_ge (pc := 27) (off := 26) (tgt := 53) (by decide +kernel) (by decide) (fun hc => ?_) (fun hc => ?_)
  · replace h := h.1 hc
    refine ex_sipush (pc := 53) (k := -999) (v := -999) (by decide +kernel) (by decide) ?_
    refine ex_istore_n (pc := 56) (k := 3) (lo2 := [some (.ref 53), some (.int l1), some (.int l2), some (.int (-999)), none, none]) (by decide +kernel) (by decide) rfl ?_
    refine ex_iconst (pc := 57) (k := 0) (v := nI 0) (by decide +kernel) (by decide) ?_
    refine ex_istore (pc := 58) (k := 4) (lo2 := [some (.ref 53), some (.int l1), some (.int l2), some (.int (-999)), some (.int (nI 0)), none]) (by decide +kernel) (by decide) rfl ?_
    exact h
  · replace h := h.2 hc
    refine ex_aload_n (pc := 30) (k := 0) (by decide +kernel) rfl ?_
    refine ex_getR (pc := 31) (a := 56) (by decide +kernel) lf_Finder_22 (hF.s (j := 53) rfl) (hF.r (j := 53) (k := 6) rfl rfl) ?_
    refine ex_iload_n (pc := 34) (k := 2) (by decide +kernel) rfl ?_
    refine ex_bipush (pc := 35) (k := 6) (v := nI 6) (by decide +kernel) (by decide) ?_
    refine ex_ishl (pc := 37) (by decide +kernel) ?_
    refine ex_iload_n (pc := 38) (k := 3) (by decide +kernel) rfl ?_
    refine ex_ior (pc := 39) (by decide +kernel) ?_
    refine ex_aload_n (pc := 40) (k := 0) (by decide +kernel) rfl ?_
    refine ex_iload_n (pc := 41) (k := 2) (by decide +kernel) rfl ?_
    refine ex_iload_n (pc := 42) (k := 3) (by decide +kernel) rfl ?_
    refine ex_callV (pc := 43) (as := [.int l2, .int l3]) (by decide +kernel) F_Finder_nearestOf (in_t4 (i := 98) rfl rfl) (hF.s (j := 53) rfl) rfl (by decide) rfl rfl (Nat.le_of_ble_eq_true rfl) (Nat.lt_succ_self _) ⟨Nat.zero_le _, Nat.zero_le _⟩ (KC_I (Con.mono h ?_))
    intro o M1 ⟨r1, e9, hF1, h⟩
    refine ⟨r1, e9, ?_⟩
    obtain ⟨g1, h⟩ := h
    refine ey_iast (pc := 46) (by decide +kernel) (hF1.s (j := 56) rfl) g1 rfl ?_
    refine ex_iinc (pc := 47) (i := 3) (k := 1) (v := l3 + nI 1) (lo2 := [some (.ref 53), some (.int l1), some (.int l2), some (.int (l3 + nI 1)), none, none]) (by decide +kernel) (by decide) rfl rfl rfl ?_
    refine ex_goto (pc := 50) (off := -33) (tgt := 17) (by decide +kernel) (by decide) ?_
    exact h
theorem k_Finder_weigh_60 {d bc bs : Nat} {l1 : Int32} {l2 : Int32} {l3 : Int32} {l4 : Int32} {M : Mem} {Φ : Option Value → Mem → Prop} (hF : Fx M) (h : ((mi M 1 9) ≤ l4 → Ex (d + 1) m_Finder_weigh bc bs 4 [some (.ref 53), some (.int (l1 + l3)), some (.int (l2 + nI 1)), none, none, none] [] M Φ) ∧ (¬ (mi M 1 9) ≤ l4 → Ex (d + 1) m_Finder_weigh bc bs 75 [some (.ref 53), some (.int l1), some (.int l2), some (.int l3), some (.int l4), some (.int (nI 0))] [] M Φ)) : Ex (d + 1) m_Finder_weigh bc bs 60 [some (.ref 53), some (.int l1), some (.int l2), some (.int l3), some (.int l4), none] [] M Φ := by
  refine ex_iload (pc := 60) (k := 4) (by decide +kernel) rfl ?_
  refine ex_aload_n (pc := 62) (k := 0) (by decide +kernel) rfl ?_
  refine ex_getR (pc := 63) (a := 1) (by decide +kernel) lf_Finder_28 (hF.s (j := 53) rfl) (hF.r (j := 53) (k := 0) rfl rfl) ?_
  refine ey_getI (pc := 66) (v := mi M 1 9) (by decide +kernel) lf_Finder_45 (hF.s (j := 1) rfl) rfl ?_
  refine ex_icmp_ge (pc := 69) (off := 44) (tgt := 113) (by decide +kernel) (by decide) (fun hc => ?_) (fun hc => ?_)
  · replace h := h.1 hc
    refine ex_iload_n (pc := 113) (k := 1) (by decide +kernel) rfl ?_
    refine ex_iload_n (pc := 114) (k := 3) (by decide +kernel) rfl ?_
    refine ex_iadd (pc := 115) (by decide +kernel) ?_
    refine ex_istore_n (pc := 116) (k := 1) (lo2 := [some (.ref 53), some (.int (l1 + l3)), some (.int l2), some (.int l3), some (.int l4), none]) (by decide +kernel) (by decide) rfl ?_
    refine ex_iinc (pc := 117) (i := 2) (k := 1) (v := l2 + nI 1) (lo2 := [some (.ref 53), some (.int (l1 + l3)), some (.int (l2 + nI 1)), some (.int l3), some (.int l4), none]) (by decide +kernel) (by decide) rfl rfl rfl ?_
    refine ex_goto (pc := 120) (off := -116) (tgt := 4) (by decide +kernel) (by decide) ?_
    exact Ex.msk [true, true, true, false, false, true] h
  · replace h := h.2 hc
    refine ex_iconst (pc := 72) (k := 0) (v := nI 0) (by decide +kernel) (by decide) ?_
    refine ex_istore (pc := 73) (k := 5) (lo2 := [some (.ref 53), some (.int l1), some (.int l2), some (.int l3), some (.int l4), some (.int (nI 0))]) (by decide +kernel) (by decide) rfl ?_
    exact h
theorem k_Finder_weigh_75 {d bc bs : Nat} {l1 : Int32} {l2 : Int32} {l3 : Int32} {l4 : Int32} {l5 : Int32} {M : Mem} {Φ : Option Value → Mem → Prop} (hF : Fx M) (h : ((mi M 1 8) ≤ l5 → Ex (d + 1) m_Finder_weigh bc bs 60 [some (.ref 53), some (.int l1), some (.int l2), some (.int l3), some (.int (l4 + nI 1)), none] [] M Φ) ∧ (¬ (mi M 1 8) ≤ l5 → Con d m_Finder_weighDay 0 0 [.ref 53, .int l2, .int l4, .int l5] M (PI fun r1 M1 => Fx M1 ∧ Ex (d + 1) m_Finder_weigh bc bs 75 [some (.ref 53), some (.int l1), some (.int l2), some (.int (if l3 < r1 then r1 else l3)), some (.int l4), some (.int (l5 + nI 1))] [] M1 Φ))) : Ex (d + 1) m_Finder_weigh bc bs 75 [some (.ref 53), some (.int l1), some (.int l2), some (.int l3), some (.int l4), some (.int l5)] [] M Φ := by
  refine ex_iload (pc := 75) (k := 5) (by decide +kernel) rfl ?_
  refine ex_aload_n (pc := 77) (k := 0) (by decide +kernel) rfl ?_
  refine ex_getR (pc := 78) (a := 1) (by decide +kernel) lf_Finder_28 (hF.s (j := 53) rfl) (hF.r (j := 53) (k := 0) rfl rfl) ?_
  refine ey_getI (pc := 81) (v := mi M 1 8) (by decide +kernel) lf_Finder_66 (hF.s (j := 1) rfl) rfl ?_
  refine ex_icmp_ge (pc := 84) (off := 23) (tgt := 107) (by decide +kernel) (by decide) (fun hc => ?_) (fun hc => ?_)
  · replace h := h.1 hc
    refine ex_iinc (pc := 107) (i := 4) (k := 1) (v := l4 + nI 1) (lo2 := [some (.ref 53), some (.int l1), some (.int l2), some (.int l3), some (.int (l4 + nI 1)), some (.int l5)]) (by decide +kernel) (by decide) rfl rfl rfl ?_
    refine ex_goto (pc := 110) (off := -50) (tgt := 60) (by decide +kernel) (by decide) ?_
    exact Ex.msk [true, true, true, true, true, false] h
  · replace h := h.2 hc
    refine ex_iload_n (pc := 87) (k := 3) (by decide +kernel) rfl ?_
    refine ex_aload_n (pc := 88) (k := 0) (by decide +kernel) rfl ?_
    refine ex_iload_n (pc := 89) (k := 2) (by decide +kernel) rfl ?_
    refine ex_iload (pc := 90) (k := 4) (by decide +kernel) rfl ?_
    refine ex_iload (pc := 92) (k := 5) (by decide +kernel) rfl ?_
    refine ex_callV (pc := 94) (as := [.int l2, .int l4, .int l5]) (by decide +kernel) F_Finder_weighDay (in_t4 (i := 104) rfl rfl) (hF.s (j := 53) rfl) rfl (by decide) rfl rfl (Nat.le_of_ble_eq_true rfl) (Nat.lt_succ_self _) ⟨Nat.zero_le _, Nat.zero_le _⟩ (KC_I (Con.mono h ?_))
    intro o M1 ⟨r1, e9, hF1, h⟩
    refine ⟨r1, e9, ?_⟩
    refine ex_max (pc := 97) (by decide +kernel) (in_t4 (i := 112) rfl rfl) (Nat.le_of_ble_eq_true rfl) (Nat.succ_le_succ (Nat.zero_le _)) ?_
    refine ex_istore_n (pc := 100) (k := 3) (lo2 := [some (.ref 53), some (.int l1), some (.int l2), some (.int (if l3 < r1 then r1 else l3)), some (.int l4), some (.int l5)]) (by decide +kernel) (by decide) rfl ?_
    refine ex_iinc (pc := 101) (i := 5) (k := 1) (v := l5 + nI 1) (lo2 := [some (.ref 53), some (.int l1), some (.int l2), some (.int (if l3 < r1 then r1 else l3)), some (.int l4), some (.int (l5 + nI 1))]) (by decide +kernel) (by decide) rfl rfl rfl ?_
    refine ex_goto (pc := 104) (off := -29) (tgt := 75) (by decide +kernel) (by decide) ?_
    exact h
theorem k_Finder_weighDay_0 {d bc bs : Nat} {l1 : Int32} {l2 : Int32} {l3 : Int32} {M : Mem} {Φ : Option Value → Mem → Prop} (hF : Fx M) (h : Con d m_Law_worthOfDay 0 0 [.ref 46, .int l1, .int l2, .int (nI 99), .int l3] M (PI fun r1 M1 => Fx M1 ∧ Con d m_Finder_worthPlace 0 0 [.int l1, .int l2, .int l3, .int (nI 6)] M1 (PI fun r2 M2 => Fx M2 ∧ vp_in r2 1764 ∧ Ex (d + 1) m_Finder_weighDay bc bs 32 [some (.ref 53), some (.int l1), some (.int l2), some (.int l3), some (.int r1), some (.int (nI 0)), none] [] (wi M2 55 r2.toNatClampNeg r1) Φ))) : Ex (d + 1) m_Finder_weighDay bc bs 0 [some (.ref 53), some (.int l1), some (.int l2), some (.int l3), none, none, none] [] M Φ := by
  refine ex_aload_n (pc := 0) (k := 0) (by decide +kernel) rfl ?_
  refine ex_getR (pc := 1) (a := 46) (by decide +kernel) lf_Finder_32 (hF.s (j := 53) rfl) (hF.r (j := 53) (k := 1) rfl rfl) ?_
  refine ex_iload_n (pc := 4) (k := 1) (by decide +kernel) rfl ?_
  refine ex_iload_n (pc := 5) (k := 2) (by decide +kernel) rfl ?_
  refine ex_bipush (pc := 6) (k := 99) (v := nI 99) (by decide +kernel) (by decide) ?_
  refine ex_iload_n (pc := 8) (k := 3) (by decide +kernel) rfl ?_
  refine ex_callV (pc := 9) (as := [.int l1, .int l2, .int (nI 99), .int l3]) (by decide +kernel) F_Law_worthOfDay (in_t4 (i := 108) rfl rfl) (hF.s (j := 46) rfl) rfl (by decide) rfl rfl (Nat.le_of_ble_eq_true rfl) (Nat.lt_succ_self _) ⟨Nat.zero_le _, Nat.zero_le _⟩ (KC_I (Con.mono h ?_))
  intro o M1 ⟨r1, e9, hF1, h⟩
  refine ⟨r1, e9, ?_⟩
  refine ex_istore (pc := 12) (k := 4) (lo2 := [some (.ref 53), some (.int l1), some (.int l2), some (.int l3), some (.int r1), none, none]) (by decide +kernel) (by decide) rfl ?_
  refine ex_aload_n (pc := 14) (k := 0) (by decide +kernel) rfl ?_
  refine ex_getR (pc := 15) (a := 55) (by decide +kernel) lf_Finder_19 (hF1.s (j := 53) rfl) (hF1.r (j := 53) (k := 5) rfl rfl) ?_
  refine ex_iload_n (pc := 18) (k := 1) (by decide +kernel) rfl ?_
  refine ex_iload_n (pc := 19) (k := 2) (by decide +kernel) rfl ?_
  refine ex_iload_n (pc := 20) (k := 3) (by decide +kernel) rfl ?_
  refine ex_bipush (pc := 21) (k := 6) (v := nI 6) (by decide +kernel) (by decide) ?_
  refine ex_callS (pc := 23) (as := [.int l1, .int l2, .int l3, .int (nI 6)]) (by decide +kernel) F_Finder_worthPlace (in_t4 (i := 109) rfl rfl) rfl rfl (Nat.le_of_ble_eq_true rfl) (Nat.lt_succ_self _) ⟨Nat.zero_le _, Nat.zero_le _⟩ (KC_I (Con.mono h ?_))
  intro o M2 ⟨r2, e9, hF2, h⟩
  refine ⟨r2, e9, ?_⟩
  refine ex_iload (pc := 26) (k := 4) (by decide +kernel) rfl ?_
  obtain ⟨g1, h⟩ := h
  refine ey_iast (pc := 28) (by decide +kernel) (hF2.s (j := 55) rfl) g1 rfl ?_
  refine ex_iconst (pc := 29) (k := 0) (v := nI 0) (by decide +kernel) (by decide) ?_
  refine ex_istore (pc := 30) (k := 5) (lo2 := [some (.ref 53), some (.int l1), some (.int l2), some (.int l3), some (.int r1), some (.int (nI 0)), none]) (by decide +kernel) (by decide) rfl ?_
  exact h
theorem k_Finder_weighDay_32 {d bc bs : Nat} {l1 : Int32} {l2 : Int32} {l3 : Int32} {l4 : Int32} {l5 : Int32} {M : Mem} {Φ : Option Value → Mem → Prop} (hF : Fx M) (h : ((mi M 1 8) ≤ l5 → Φ (some (.int l4)) M) ∧ (¬ (mi M 1 8) ≤ l5 → Con d m_Land_hoursBetween 0 0 [.ref 1, .int l1, .int l5] M (PI fun r1 M1 => Fx M1 ∧ Con d m_Law_worthOfDay 0 0 [.ref 46, .int l1, .int l2, .int r1, .int l3] M1 (PI fun r2 M2 => Fx M2 ∧ Con d m_Finder_worthPlace 0 0 [.int l1, .int l2, .int l3, .int l5] M2 (PI fun r3 M3 => Fx M3 ∧ vp_in r3 1764 ∧ Ex (d + 1) m_Finder_weighDay bc bs 32 [some (.ref 53), some (.int l1), some (.int l2), some (.int l3), some (.int (if l4 < r2 then r2 else l4)), some (.int (l5 + nI 1)), none] [] (wi M3 55 r3.toNatClampNeg r2) Φ))))) : Ex (d + 1) m_Finder_weighDay bc bs 32 [some (.ref 53), some (.int l1), some (.int l2), some (.int l3), some (.int l4), some (.int l5), none] [] M Φ := by
  refine ex_iload (pc := 32) (k := 5) (by decide +kernel) rfl ?_
  refine ex_aload_n (pc := 34) (k := 0) (by decide +kernel) rfl ?_
  refine ex_getR (pc := 35) (a := 1) (by decide +kernel) lf_Finder_28 (hF.s (j := 53) rfl) (hF.r (j := 53) (k := 0) rfl rfl) ?_
  refine ey_getI (pc := 38) (v := mi M 1 8) (by decide +kernel) lf_Finder_66 (hF.s (j := 1) rfl) rfl ?_
  refine ex_icmp_ge (pc := 41) (off := 55) (tgt := 96) (by decide +kernel) (by decide) (fun hc => ?_) (fun hc => ?_)
  · replace h := h.1 hc
    refine ex_iload (pc := 96) (k := 4) (by decide +kernel) rfl ?_
    exact ex_ireturn (pc := 98) (by decide +kernel) rfl rfl h
  · replace h := h.2 hc
    refine ex_aload_n (pc := 44) (k := 0) (by decide +kernel) rfl ?_
    refine ex_getR (pc := 45) (a := 46) (by decide +kernel) lf_Finder_32 (hF.s (j := 53) rfl) (hF.r (j := 53) (k := 1) rfl rfl) ?_
    refine ex_iload_n (pc := 48) (k := 1) (by decide +kernel) rfl ?_
    refine ex_iload_n (pc := 49) (k := 2) (by decide +kernel) rfl ?_
    refine ex_aload_n (pc := 50) (k := 0) (by decide +kernel) rfl ?_
    refine ex_getR (pc := 51) (a := 1) (by decide +kernel) lf_Finder_28 (hF.s (j := 53) rfl) (hF.r (j := 53) (k := 0) rfl rfl) ?_
    refine ex_iload_n (pc := 54) (k := 1) (by decide +kernel) rfl ?_
    refine ex_iload (pc := 55) (k := 5) (by decide +kernel) rfl ?_
    refine ex_callV (pc := 57) (as := [.int l1, .int l5]) (by decide +kernel) F_Land_hoursBetween (in_t4 (i := 103) rfl rfl) (hF.s (j := 1) rfl) rfl (by decide) rfl rfl (Nat.le_of_ble_eq_true rfl) (Nat.lt_succ_self _) ⟨Nat.zero_le _, Nat.zero_le _⟩ (KC_I (Con.mono h ?_))
    intro o M1 ⟨r1, e9, hF1, h⟩
    refine ⟨r1, e9, ?_⟩
    refine ex_iload_n (pc := 60) (k := 3) (by decide +kernel) rfl ?_
    refine ex_callV (pc := 61) (as := [.int l1, .int l2, .int r1, .int l3]) (by decide +kernel) F_Law_worthOfDay (in_t4 (i := 108) rfl rfl) (hF1.s (j := 46) rfl) rfl (by decide) rfl rfl (Nat.le_of_ble_eq_true rfl) (Nat.lt_succ_self _) ⟨Nat.zero_le _, Nat.zero_le _⟩ (KC_I (Con.mono h ?_))
    intro o M2 ⟨r2, e9, hF2, h⟩
    refine ⟨r2, e9, ?_⟩
    refine ex_istore (pc := 64) (k := 6) (lo2 := [some (.ref 53), some (.int l1), some (.int l2), some (.int l3), some (.int l4), some (.int l5), some (.int r2)]) (by decide +kernel) (by decide) rfl ?_
    refine ex_aload_n (pc := 66) (k := 0) (by decide +kernel) rfl ?_
    refine ex_getR (pc := 67) (a := 55) (by decide +kernel) lf_Finder_19 (hF2.s (j := 53) rfl) (hF2.r (j := 53) (k := 5) rfl rfl) ?_
    refine ex_iload_n (pc := 70) (k := 1) (by decide +kernel) rfl ?_
    refine ex_iload_n (pc := 71) (k := 2) (by decide +kernel) rfl ?_
    refine ex_iload_n (pc := 72) (k := 3) (by decide +kernel) rfl ?_
    refine ex_iload (pc := 73) (k := 5) (by decide +kernel) rfl ?_
    refine ex_callS (pc := 75) (as := [.int l1, .int l2, .int l3, .int l5]) (by decide +kernel) F_Finder_worthPlace (in_t4 (i := 109) rfl rfl) rfl rfl (Nat.le_of_ble_eq_true rfl) (Nat.lt_succ_self _) ⟨Nat.zero_le _, Nat.zero_le _⟩ (KC_I (Con.mono h ?_))
    intro o M3 ⟨r3, e9, hF3, h⟩
    refine ⟨r3, e9, ?_⟩
    refine ex_iload (pc := 78) (k := 6) (by decide +kernel) rfl ?_
    obtain ⟨g1, h⟩ := h
    refine ey_iast (pc := 80) (by decide +kernel) (hF3.s (j := 55) rfl) g1 rfl ?_
    refine ex_iload (pc := 81) (k := 4) (by decide +kernel) rfl ?_
    refine ex_iload (pc := 83) (k := 6) (by decide +kernel) rfl ?_
    refine ex_max (pc := 85) (by decide +kernel) (in_t4 (i := 112) rfl rfl) (Nat.le_of_ble_eq_true rfl) (Nat.succ_le_succ (Nat.zero_le _)) ?_
    refine ex_istore (pc := 88) (k := 4) (lo2 := [some (.ref 53), some (.int l1), some (.int l2), some (.int l3), some (.int (if l4 < r2 then r2 else l4)), some (.int l5), some (.int r2)]) (by decide +kernel) (by decide) rfl ?_
    refine ex_iinc (pc := 90) (i := 5) (k := 1) (v := l5 + nI 1) (lo2 := [some (.ref 53), some (.int l1), some (.int l2), some (.int l3), some (.int (if l4 < r2 then r2 else l4)), some (.int (l5 + nI 1)), some (.int r2)]) (by decide +kernel) (by decide) rfl rfl rfl ?_
    refine ex_goto (pc := 93) (off := -61) (tgt := 32) (by decide +kernel) (by decide) ?_
    exact Ex.msk [true, true, true, true, true, true, false] h
theorem k_Finder_worthPlace_0 {d bc bs : Nat} {l0 : Int32} {l1 : Int32} {l2 : Int32} {l3 : Int32} {M : Mem} {Φ : Option Value → Mem → Prop} (hF : Fx M) (h : Φ (some (.int ((((((l0 * (nI 7)) + l1) * (nI 6)) + l2) * (nI 7)) + l3))) M) : Ex (d + 1) m_Finder_worthPlace bc bs 0 [some (.int l0), some (.int l1), some (.int l2), some (.int l3)] [] M Φ := by
  refine ex_iload_n (pc := 0) (k := 0) (by decide +kernel) rfl ?_
  refine ex_bipush (pc := 1) (k := 7) (v := nI 7) (by decide +kernel) (by decide) ?_
  refine ex_imul (pc := 3) (by decide +kernel) ?_
  refine ex_iload_n (pc := 4) (k := 1) (by decide +kernel) rfl ?_
  refine ex_iadd (pc := 5) (by decide +kernel) ?_
  refine ex_bipush (pc := 6) (k := 6) (v := nI 6) (by decide +kernel) (by decide) ?_
  refine ex_imul (pc := 8) (by decide +kernel) ?_
  refine ex_iload_n (pc := 9) (k := 2) (by decide +kernel) rfl ?_
  refine ex_iadd (pc := 10) (by decide +kernel) ?_
  refine ex_bipush (pc := 11) (k := 7) (v := nI 7) (by decide +kernel) (by decide) ?_
  refine ex_imul (pc := 13) (by decide +kernel) ?_
  refine ex_iload_n (pc := 14) (k := 3) (by decide +kernel) rfl ?_
  refine ex_iadd (pc := 15) (by decide +kernel) ?_
  exact ex_ireturn (pc := 16) (by decide +kernel) rfl rfl h
theorem k_Finder_nearestOf_0 {d bc bs : Nat} {l1 : Int32} {l2 : Int32} {M : Mem} {Φ : Option Value → Mem → Prop} (hF : Fx M) (h : Ex (d + 1) m_Finder_nearestOf bc bs 10 [some (.ref 53), some (.int l1), some (.int l2), some (.int (nI 6)), some (.int (nI 99)), some (.int (nI 0))] [] M Φ) : Ex (d + 1) m_Finder_nearestOf bc bs 0 [some (.ref 53), some (.int l1), some (.int l2), none, none, none] [] M Φ := by
  refine ex_bipush (pc := 0) (k := 6) (v := nI 6) (by decide +kernel) (by decide) ?_
  refine ex_istore_n (pc := 2) (k := 3) (lo2 := [some (.ref 53), some (.int l1), some (.int l2), some (.int (nI 6)), none, none]) (by decide +kernel) (by decide) rfl ?_
  refine ex_bipush (pc := 3) (k := 99) (v := nI 99) (by decide +kernel) (by decide) ?_
  refine ex_istore (pc := 5) (k := 4) (lo2 := [some (.ref 53), some (.int l1), some (.int l2), some (.int (nI 6)), some (.int (nI 99)), none]) (by decide +kernel) (by decide) rfl ?_
  refine ex_iconst (pc := 7) (k := 0) (v := nI 0) (by decide +kernel) (by decide) ?_
  refine ex_istore (pc := 8) (k := 5) (lo2 := [some (.ref 53), some (.int l1), some (.int l2), some (.int (nI 6)), some (.int (nI 99)), some (.int (nI 0))]) (by decide +kernel) (by decide) rfl ?_
  exact h
theorem k_Finder_nearestOf_10 {d bc bs : Nat} {l1 : Int32} {l2 : Int32} {l3 : Int32} {l4 : Int32} {l5 : Int32} {M : Mem} {Φ : Option Value → Mem → Prop} (hF : Fx M) (h : ((mi M 1 8) ≤ l5 → Φ (some (.int l3)) M) ∧ (¬ (mi M 1 8) ≤ l5 → (l5 = l1 → Ex (d + 1) m_Finder_nearestOf bc bs 10 [some (.ref 53), some (.int l1), some (.int l2), some (.int l3), some (.int l4), some (.int (l5 + nI 1))] [] M Φ) ∧ (¬ l5 = l1 → Con d m_MD_hasBit 0 0 [.int l2, .int l5] M (PB fun r1 M1 => Fx M1 ∧ (r1 = false → Ex (d + 1) m_Finder_nearestOf bc bs 10 [some (.ref 53), some (.int l1), some (.int l2), some (.int l3), some (.int l4), some (.int (l5 + nI 1))] [] M1 Φ) ∧ (r1 = true → Con d m_Land_hoursBetween 0 0 [.ref 1, .int l1, .int l5] M1 (PI fun r2 M2 => Fx M2 ∧ (l4 ≤ r2 → Ex (d + 1) m_Finder_nearestOf bc bs 10 [some (.ref 53), some (.int l1), some (.int l2), some (.int l3), some (.int l4), some (.int (l5 + nI 1))] [] M2 Φ) ∧ (¬ l4 ≤ r2 → Con d m_Land_hoursBetween 0 0 [.ref 1, .int l1, .int l5] M2 (PI fun r3 M3 => Fx M3 ∧ Ex (d + 1) m_Finder_nearestOf bc bs 10 [some (.ref 53), some (.int l1), some (.int l2), some (.int l5), some (.int r3), some (.int (l5 + nI 1))] [] M3 Φ)))))))) : Ex (d + 1) m_Finder_nearestOf bc bs 10 [some (.ref 53), some (.int l1), some (.int l2), some (.int l3), some (.int l4), some (.int l5)] [] M Φ := by
  refine ex_iload (pc := 10) (k := 5) (by decide +kernel) rfl ?_
  refine ex_aload_n (pc := 12) (k := 0) (by decide +kernel) rfl ?_
  refine ex_getR (pc := 13) (a := 1) (by decide +kernel) lf_Finder_28 (hF.s (j := 53) rfl) (hF.r (j := 53) (k := 0) rfl rfl) ?_
  refine ey_getI (pc := 16) (v := mi M 1 8) (by decide +kernel) lf_Finder_66 (hF.s (j := 1) rfl) rfl ?_
  refine ex_icmp_ge (pc := 19) (off := 54) (tgt := 73) (by decide +kernel) (by decide) (fun hc => ?_) (fun hc => ?_)
  · replace h := h.1 hc
    refine ex_iload_n (pc := 73) (k := 3) (by decide +kernel) rfl ?_
    exact ex_ireturn (pc := 74) (by decide +kernel) rfl rfl h
  · replace h := h.2 hc
    refine ex_iload (pc := 22) (k := 5) (by decide +kernel) rfl ?_
    refine ex_iload_n (pc := 24) (k := 1) (by decide +kernel) rfl ?_
    refine ex_icmp_eq (pc := 25) (off := 42) (tgt := 67) (by decide +kernel) (by decide) (fun hc => ?_) (fun hc => ?_)
    · replace h := h.1 hc
      refine ex_iinc (pc := 67) (i := 5) (k := 1) (v := l5 + nI 1) (lo2 := [some (.ref 53), some (.int l1), some (.int l2), some (.int l3), some (.int l4), some (.int (l5 + nI 1))]) (by decide +kernel) (by decide) rfl rfl rfl ?_
      refine ex_goto (pc := 70) (off := -60) (tgt := 10) (by decide +kernel) (by decide) ?_
      exact h
    · replace h := h.2 hc
      refine ex_iload_n (pc := 28) (k := 2) (by decide +kernel) rfl ?_
      refine ex_iload (pc := 29) (k := 5) (by decide +kernel) rfl ?_
      refine ex_callSN (pc := 31) (host := "MarketDays") (as := [.int l2, .int l5]) (by decide +kernel) F_MD_hasBit (List.mem_filter.mpr ⟨in_u4 (i := 102) rfl, rfl⟩) rfl rfl (Nat.le_of_ble_eq_true rfl) (Nat.lt_succ_self _) ⟨Nat.zero_le _, Nat.zero_le _⟩ (KC_B (Con.mono h ?_))
      intro o M1 ⟨r1, e9, hF1, h⟩
      refine ⟨r1, e9, ?_⟩
      refine ey_ifeqB (pc := 34) (off := 33) (tgt := 67) (by decide +kernel) (by decide) (fun hc => ?_) (fun hc => ?_)
      · replace h := h.1 hc
        refine ex_iinc (pc := 67) (i := 5) (k := 1) (v := l5 + nI 1) (lo2 := [some (.ref 53), some (.int l1), some (.int l2), some (.int l3), some (.int l4), some (.int (l5 + nI 1))]) (by decide +kernel) (by decide) rfl rfl rfl ?_
        refine ex_goto (pc := 70) (off := -60) (tgt := 10) (by decide +kernel) (by decide) ?_
        exact h
      · replace h := h.2 hc
        refine ex_aload_n (pc := 37) (k := 0) (by decide +kernel) rfl ?_
        refine ex_getR (pc := 38) (a := 1) (by decide +kernel) lf_Finder_28 (hF1.s (j := 53) rfl) (hF1.r (j := 53) (k := 0) rfl rfl) ?_
        refine ex_iload_n (pc := 41) (k := 1) (by decide +kernel) rfl ?_
        refine ex_iload (pc := 42) (k := 5) (by decide +kernel) rfl ?_
        refine ex_callV (pc := 44) (as := [.int l1, .int l5]) (by decide +kernel) F_Land_hoursBetween (in_t4 (i := 103) rfl rfl) (hF1.s (j := 1) rfl) rfl (by decide) rfl rfl (Nat.le_of_ble_eq_true rfl) (Nat.lt_succ_self _) ⟨Nat.zero_le _, Nat.zero_le _⟩ (KC_I (Con.mono h ?_))
        intro o M2 ⟨r2, e9, hF2, h⟩
        refine ⟨r2, e9, ?_⟩
        refine ex_iload (pc := 47) (k := 4) (by decide +kernel) rfl ?_
        refine ex_icmp_ge (pc := 49) (off := 18) (tgt := 67) (by decide +kernel) (by decide) (fun hc => ?_) (fun hc => ?_)
        · replace h := h.1 hc
          refine ex_iinc (pc := 67) (i := 5) (k := 1) (v := l5 + nI 1) (lo2 := [some (.ref 53), some (.int l1), some (.int l2), some (.int l3), some (.int l4), some (.int (l5 + nI 1))]) (by decide +kernel) (by decide) rfl rfl rfl ?_
          refine ex_goto (pc := 70) (off := -60) (tgt := 10) (by decide +kernel) (by decide) ?_
          exact h
        · replace h := h.2 hc
          refine ex_iload (pc := 52) (k := 5) (by decide +kernel) rfl ?_
          refine ex_istore_n (pc := 54) (k := 3) (lo2 := [some (.ref 53), some (.int l1), some (.int l2), some (.int l5), some (.int l4), some (.int l5)]) (by decide +kernel) (by decide) rfl ?_
          refine ex_aload_n (pc := 55) (k := 0) (by decide +kernel) rfl ?_
          refine ex_getR (pc := 56) (a := 1) (by decide +kernel) lf_Finder_28 (hF2.s (j := 53) rfl) (hF2.r (j := 53) (k := 0) rfl rfl) ?_
          refine ex_iload_n (pc := 59) (k := 1) (by decide +kernel) rfl ?_
          refine ex_iload (pc := 60) (k := 5) (by decide +kernel) rfl ?_
          refine ex_callV (pc := 62) (as := [.int l1, .int l5]) (by decide +kernel) F_Land_hoursBetween (in_t4 (i := 103) rfl rfl) (hF2.s (j := 1) rfl) rfl (by decide) rfl rfl (Nat.le_of_ble_eq_true rfl) (Nat.lt_succ_self _) ⟨Nat.zero_le _, Nat.zero_le _⟩ (KC_I (Con.mono h ?_))
          intro o M3 ⟨r3, e9, hF3, h⟩
          refine ⟨r3, e9, ?_⟩
          refine ex_istore (pc := 65) (k := 4) (lo2 := [some (.ref 53), some (.int l1), some (.int l2), some (.int l5), some (.int r3), some (.int l5)]) (by decide +kernel) (by decide) rfl ?_
          refine ex_iinc (pc := 67) (i := 5) (k := 1) (v := l5 + nI 1) (lo2 := [some (.ref 53), some (.int l1), some (.int l2), some (.int l5), some (.int r3), some (.int (l5 + nI 1))]) (by decide +kernel) (by decide) rfl rfl rfl ?_
          refine ex_goto (pc := 70) (off := -60) (tgt := 10) (by decide +kernel) (by decide) ?_
          exact h
theorem k_Pedlar_findRound_0 {d bc bs : Nat} {l1 : Int32} {l2 : Int32} {l3 : Int32} {M : Mem} {Φ : Option Value → Mem → Prop} (hF : Fx M) (h : Ex (d + 1) m_Pedlar_findRound bc bs 11 [some (.ref 63), some (.int l1), some (.int l2), some (.int l3), some (.int ((mi M 1 9) - (nI 1))), none, none, none] [] M Φ) : Ex (d + 1) m_Pedlar_findRound bc bs 0 [some (.ref 63), some (.int l1), some (.int l2), some (.int l3), none, none, none, none] [] M Φ := by
  refine ex_aload_n (pc := 0) (k := 0) (by decide +kernel) rfl ?_
  refine ex_getR (pc := 1) (a := 1) (by decide +kernel) lf_Pedlar_22 (hF.s (j := 63) rfl) (hF.r (j := 63) (k := 0) rfl rfl) ?_
  refine ey_getI (pc := 4) (v := mi M 1 9) (by decide +kernel) lf_Pedlar_30 (hF.s (j := 1) rfl) rfl ?_
  refine ex_iconst (pc := 7) (k := 1) (v := nI 1) (by decide +kernel) (by decide) ?_
  refine ex_isub (pc := 8) (by decide +kernel) ?_
  refine ex_istore (pc := 9) (k := 4) (lo2 := [some (.ref 63), some (.int l1), some (.int l2), some (.int l3), some (.int ((mi M 1 9) - (nI 1))), none, none, none]) (by decide +kernel) (by decide) rfl ?_
  exact h
theorem k_Pedlar_findRound_11 {d bc bs : Nat} {l1 : Int32} {l2 : Int32} {l3 : Int32} {l4 : Int32} {M : Mem} {Φ : Option Value → Mem → Prop} (hF : Fx M) (h : (l4 < 0 → Con d m_Pedlar_mostBeyond 0 0 [.ref 63, .int (nI 0), .int l1, .int l2] M (PI fun r1 M1 => Fx M1 ∧ Ex (d + 1) m_Pedlar_findRound bc bs 88 [some (.ref 63), some (.int l1), some (.int l2), some (.int l3), some (.int (if r1 < l3 then r1 else l3)), some (.int l1), some (.int (nI 0)), some (.int (nI 0))] [] M1 Φ)) ∧ (¬ l4 < 0 → Ex (d + 1) m_Pedlar_findRound bc bs 19 [some (.ref 63), some (.int l1), some (.int l2), some (.int l3), some (.int l4), some (.int (nI 0)), none, none] [] M Φ)) : Ex (d + 1) m_Pedlar_findRound bc bs 11 [some (.ref 63), some (.int l1), some (.int l2), some (.int l3), some (.int l4), none, none, none] [] M Φ := by
  refine ex_iload (pc := 11) (k := 4) (by decide +kernel) rfl ?_
  refine ex_if_lt (pc := 13) (off := 53) (tgt := 66) (by decide +kernel) (by decide) (fun hc => ?_) (fun hc => ?_)
  · replace h := h.1 hc
    refine ex_iload_n (pc := 66) (k := 3) (by decide +kernel) rfl ?_
    refine ex_aload_n (pc := 67) (k := 0) (by decide +kernel) rfl ?_
    refine ex_iconst (pc := 68) (k := 0) (v := nI 0) (by decide +kernel) (by decide) ?_
    refine ex_iload_n (pc := 69) (k := 1) (by decide +kernel) rfl ?_
    refine ex_iload_n (pc := 70) (k := 2) (by decide +kernel) rfl ?_
    refine ex_callV (pc := 71) (as := [.int (nI 0), .int l1, .int l2]) (by decide +kernel) F_Pedlar_mostBeyond (in_t4 (i := 196) rfl rfl) (hF.s (j := 63) rfl) rfl (by decide) rfl rfl (Nat.le_of_ble_eq_true rfl) (Nat.lt_succ_self _) ⟨Nat.zero_le _, Nat.zero_le _⟩ (KC_I (Con.mono h ?_))
    intro o M1 ⟨r1, e9, hF1, h⟩
    refine ⟨r1, e9, ?_⟩
    refine ex_min (pc := 74) (by decide +kernel) (in_t4 (i := 207) rfl rfl) (Nat.le_of_ble_eq_true rfl) (Nat.succ_le_succ (Nat.zero_le _)) ?_
    refine ex_istore (pc := 77) (k := 4) (lo2 := [some (.ref 63), some (.int l1), some (.int l2), some (.int l3), some (.int (if r1 < l3 then r1 else l3)), none, none, none]) (by decide +kernel) (by decide) rfl ?_
    refine ex_iload_n (pc := 79) (k := 1) (by decide +kernel) rfl ?_
    refine ex_istore (pc := 80) (k := 5) (lo2 := [some (.ref 63), some (.int l1), some (.int l2), some (.int l3), some (.int (if r1 < l3 then r1 else l3)), some (.int l1), none, none]) (by decide +kernel) (by decide) rfl ?_
    refine ex_iconst (pc := 82) (k := 0) (v := nI 0) (by decide +kernel) (by decide) ?_
    refine ex_istore (pc := 83) (k := 6) (lo2 := [some (.ref 63), some (.int l1), some (.int l2), some (.int l3), some (.int (if r1 < l3 then r1 else l3)), some (.int l1), some (.int (nI 0)), none]) (by decide +kernel) (by decide) rfl ?_
    refine ex_iconst (pc := 85) (k := 0) (v := nI 0) (by decide +kernel) (by decide) ?_
    refine ex_istore (pc := 86) (k := 7) (lo2 := [some (.ref 63), some (.int l1), some (.int l2), some (.int l3), some (.int (if r1 < l3 then r1 else l3)), some (.int l1), some (.int (nI 0)), some (.int (nI 0))]) (by decide +kernel) (by decide) rfl ?_
    exact h
  · replace h := h.2 hc
    refine ex_iconst (pc := 16) (k := 0) (v := nI 0) (by decide +kernel) (by decide) ?_
    refine ex_istore (pc := 17) (k := 5) (lo2 := [some (.ref 63), some (.int l1), some (.int l2), some (.int l3), some (.int l4), some (.int (nI 0)), none, none]) (by decide +kernel) (by decide) rfl ?_
    exact h
theorem k_Pedlar_findRound_19 {d bc bs : Nat} {l1 : Int32} {l2 : Int32} {l3 : Int32} {l4 : Int32} {l5 : Int32} {M : Mem} {Φ : Option Value → Mem → Prop} (hF : Fx M) (h : ((mi M 1 8) ≤ l5 → Ex (d + 1) m_Pedlar_findRound bc bs 11 [some (.ref 63), some (.int l1), some (.int l2), some (.int l3), some (.int (l4 + (-1))), none, none, none] [] M Φ) ∧ (¬ (mi M 1 8) ≤ l5 → Con d m_Pedlar_mostFrom 0 0 [.ref 63, .int l4, .int l5, .int l1, .int l2] M (PI fun r1 M1 => Fx M1 ∧ vp_in ((l4 * (nI 6)) + l5) 42 ∧ Ex (d + 1) m_Pedlar_findRound bc bs 19 [some (.ref 63), some (.int l1), some (.int l2), some (.int l3), some (.int l4), some (.int (l5 + nI 1)), none, none] [] (wi M1 65 (((l4 * (nI 6)) + l5).toNatClampNeg) r1) Φ))) : Ex (d + 1) m_Pedlar_findRound bc bs 19 [some (.ref 63), some (.int l1), some (.int l2), some (.int l3), some (.int l4), some (.int l5), none, none] [] M Φ := by
  refine ex_iload (pc := 19) (k := 5) (by decide +kernel) rfl ?_
  refine ex_aload_n (pc := 21) (k := 0) (by decide +kernel) rfl ?_
  refine ex_getR (pc := 22) (a := 1) (by decide +kernel) lf_Pedlar_22 (hF.s (j := 63) rfl) (hF.r (j := 63) (k := 0) rfl rfl) ?_
  refine ey_getI (pc := 25) (v := mi M 1 8) (by decide +kernel) lf_Pedlar_35 (hF.s (j := 1) rfl) rfl ?_
  refine ex_icmp_ge (pc := 28) (off := 32) (tgt := 60) (by decide +kernel) (by decide) (fun hc => ?_) (fun hc => ?_)
  · replace h := h.1 hc
    refine ex_iinc (pc := 60) (i := 4) (k := -1) (v := l4 + (-1)) (lo2 := [some (.ref 63), some (.int l1), some (.int l2), some (.int l3), some (.int (l4 + (-1))), some (.int l5), none, none]) (by decide +kernel) (by decide) rfl rfl rfl ?_
    refine ex_goto (pc := 63) (off := -52) (tgt := 11) (by decide +kernel) (by decide) ?_
    exact Ex.msk [true, true, true, true, true, false, true, true] h
  · replace h := h.2 hc
    refine ex_aload_n (pc := 31) (k := 0) (by decide +kernel) rfl ?_
    refine ex_getR (pc := 32) (a := 65) (by decide +kernel) lf_Pedlar_19 (hF.s (j := 63) rfl) (hF.r (j := 63) (k := 4) rfl rfl) ?_
    refine ex_iload (pc := 35) (k := 4) (by decide +kernel) rfl ?_
    refine ex_bipush (pc := 37) (k := 6) (v := nI 6) (by decide +kernel) (by decide) ?_
    refine ex_imul (pc := 39) (by decide +kernel) ?_
    refine ex_iload (pc := 40) (k := 5) (by decide +kernel) rfl ?_
    refine ex_iadd (pc := 42) (by decide +kernel) ?_
    refine ex_aload_n (pc := 43) (k := 0) (by decide +kernel) rfl ?_
    refine ex_iload (pc := 44) (k := 4) (by decide +kernel) rfl ?_
    refine ex_iload (pc := 46) (k := 5) (by decide +kernel) rfl ?_
    refine ex_iload_n (pc := 48) (k := 1) (by decide +kernel) rfl ?_
    refine ex_iload_n (pc := 49) (k := 2) (by decide +kernel) rfl ?_
    refine ex_callV (pc := 50) (as := [.int l4, .int l5, .int l1, .int l2]) (by decide +kernel) F_Pedlar_mostFrom (in_t4 (i := 192) rfl rfl) (hF.s (j := 63) rfl) rfl (by decide) rfl rfl (Nat.le_of_ble_eq_true rfl) (Nat.lt_succ_self _) ⟨Nat.zero_le _, Nat.zero_le _⟩ (KC_I (Con.mono h ?_))
    intro o M1 ⟨r1, e9, hF1, h⟩
    refine ⟨r1, e9, ?_⟩
    obtain ⟨g1, h⟩ := h
    refine ey_iast (pc := 53) (by decide +kernel) (hF1.s (j := 65) rfl) g1 rfl ?_
    refine ex_iinc (pc := 54) (i := 5) (k := 1) (v := l5 + nI 1) (lo2 := [some (.ref 63), some (.int l1), some (.int l2), some (.int l3), some (.int l4), some (.int (l5 + nI 1)), none, none]) (by decide +kernel) (by decide) rfl rfl rfl ?_
    refine ex_goto (pc := 57) (off := -38) (tgt := 19) (by decide +kernel) (by decide) ?_
    exact h
theorem k_Pedlar_findRound_88 {d bc bs : Nat} {l1 : Int32} {l2 : Int32} {l3 : Int32} {l4 : Int32} {l5 : Int32} {l6 : Int32} {l7 : Int32} {M : Mem} {Φ : Option Value → Mem → Prop} (hF : Fx M) (h : ((mi M 1 9) ≤ l7 → Φ (some (.int l4)) (wi M 63 3 (mi M 1 9))) ∧ (¬ (mi M 1 9) ≤ l7 → Con d m_Pedlar_firstStop 0 0 [.ref 63, .int l7, .int l5, .int l2, .int (l4 - l6)] M (PI fun r1 M1 => Fx M1 ∧ Con d m_Pedlar_salesAt 0 0 [.ref 63, .int l7, .int r1] M1 (PI fun r2 M2 => Fx M2 ∧ vp_in l7 7 ∧ Ex (d + 1) m_Pedlar_findRound bc bs 88 [some (.ref 63), some (.int l1), some (.int l2), some (.int l3), some (.int l4), some (.int r1), some (.int (l6 + r2)), some (.int (l7 + nI 1))] [] (wi M2 64 l7.toNatClampNeg r1) Φ)))) : Ex (d + 1) m_Pedlar_findRound bc bs 88 [some (.ref 63), some (.int l1), some (.int l2), some (.int l3), some (.int l4), some (.int l5), some (.int l6), some (.int l7)] [] M Φ := by
  refine ex_iload (pc := 88) (k := 7) (by decide +kernel) rfl ?_
  refine ex_aload_n (pc := 90) (k := 0) (by decide +kernel) rfl ?_
  refine ex_getR (pc := 91) (a := 1) (by decide +kernel) lf_Pedlar_22 (hF.s (j := 63) rfl) (hF.r (j := 63) (k := 0) rfl rfl) ?_
  refine ey_getI (pc := 94) (v := mi M 1 9) (by decide +kernel) lf_Pedlar_30 (hF.s (j := 1) rfl) rfl ?_
  refine ex_icmp_ge (pc := 97) (off := 47) (tgt := 144) (by decide +kernel) (by decide) (fun hc => ?_) (fun hc => ?_)
  · replace h := h.1 hc
    refine ex_aload_n (pc := 144) (k := 0) (by decide +kernel) rfl ?_
    refine ex_aload_n (pc := 145) (k := 0) (by decide +kernel) rfl ?_
    refine ex_getR (pc := 146) (a := 1) (by decide +kernel) lf_Pedlar_22 (hF.s (j := 63) rfl) (hF.r (j := 63) (k := 0) rfl rfl) ?_
    refine ey_getI (pc := 149) (v := mi M 1 9) (by decide +kernel) lf_Pedlar_30 (hF.s (j := 1) rfl) rfl ?_
    refine ex_putI (pc := 152) (index := 15) (ci := 6) (k := 3) (fin := false) (by decide +kernel) ⟨_, _, _, _, cf_Pedlar, by decide, in_t2 (i := 23) rfl rfl, rfl, (fun h => by cases h), rfl, rfl⟩ rfl (fun h => by cases h) (hF.s (j := 63) rfl) ?_
    refine ex_iload (pc := 155) (k := 4) (by decide +kernel) rfl ?_
    exact ex_ireturn (pc := 157) (by decide +kernel) rfl rfl h
  · replace h := h.2 hc
    refine ex_aload_n (pc := 100) (k := 0) (by decide +kernel) rfl ?_
    refine ex_iload (pc := 101) (k := 7) (by decide +kernel) rfl ?_
    refine ex_iload (pc := 103) (k := 5) (by decide +kernel) rfl ?_
    refine ex_iload_n (pc := 105) (k := 2) (by decide +kernel) rfl ?_
    refine ex_iload (pc := 106) (k := 4) (by decide +kernel) rfl ?_
    refine ex_iload (pc := 108) (k := 6) (by decide +kernel) rfl ?_
    refine ex_isub (pc := 110) (by decide +kernel) ?_
    refine ex_callV (pc := 111) (as := [.int l7, .int l5, .int l2, .int (l4 - l6)]) (by decide +kernel) F_Pedlar_firstStop (in_t4 (i := 208) rfl rfl) (hF.s (j := 63) rfl) rfl (by decide) rfl rfl (Nat.le_of_ble_eq_true rfl) (Nat.lt_succ_self _) ⟨Nat.zero_le _, Nat.zero_le _⟩ (KC_I (Con.mono h ?_))
    intro o M1 ⟨r1, e9, hF1, h⟩
    refine ⟨r1, e9, ?_⟩
    refine ex_istore (pc := 114) (k := 5) (lo2 := [some (.ref 63), some (.int l1), some (.int l2), some (.int l3), some (.int l4), some (.int r1), some (.int l6), some (.int l7)]) (by decide +kernel) (by decide) rfl ?_
    refine ex_iload (pc := 116) (k := 6) (by decide +kernel) rfl ?_
    refine ex_aload_n (pc := 118) (k := 0) (by decide +kernel) rfl ?_
    refine ex_iload (pc := 119) (k := 7) (by decide +kernel) rfl ?_
    refine ex_iload (pc := 121) (k := 5) (by decide +kernel) rfl ?_
    refine ex_callV (pc := 123) (as := [.int l7, .int r1]) (by decide +kernel) F_Pedlar_salesAt (in_t4 (i := 202) rfl rfl) (hF1.s (j := 63) rfl) rfl (by decide) rfl rfl (Nat.le_of_ble_eq_true rfl) (Nat.lt_succ_self _) ⟨Nat.zero_le _, Nat.zero_le _⟩ (KC_I (Con.mono h ?_))
    intro o M2 ⟨r2, e9, hF2, h⟩
    refine ⟨r2, e9, ?_⟩
    refine ex_iadd (pc := 126) (by decide +kernel) ?_
    refine ex_istore (pc := 127) (k := 6) (lo2 := [some (.ref 63), some (.int l1), some (.int l2), some (.int l3), some (.int l4), some (.int r1), some (.int (l6 + r2)), some (.int l7)]) (by decide +kernel) (by decide) rfl ?_
    refine ex_aload_n (pc := 129) (k := 0) (by decide +kernel) rfl ?_
    refine ex_getR (pc := 130) (a := 64) (by decide +kernel) lf_Pedlar_9 (hF2.s (j := 63) rfl) (hF2.r (j := 63) (k := 2) rfl rfl) ?_
    refine ex_iload (pc := 133) (k := 7) (by decide +kernel) rfl ?_
    refine ex_iload (pc := 135) (k := 5) (by decide +kernel) rfl ?_
    obtain ⟨g1, h⟩ := h
    refine ey_iast (pc := 137) (by decide +kernel) (hF2.s (j := 64) rfl) g1 rfl ?_
    refine ex_iinc (pc := 138) (i := 7) (k := 1) (v := l7 + nI 1) (lo2 := [some (.ref 63), some (.int l1), some (.int l2), some (.int l3), some (.int l4), some (.int r1), some (.int (l6 + r2)), some (.int (l7 + nI 1))]) (by decide +kernel) (by decide) rfl rfl rfl ?_
    refine ex_goto (pc := 141) (off := -53) (tgt := 88) (by decide +kernel) (by decide) ?_
    exact h
theorem k_Pedlar_mostFrom_0 {d bc bs : Nat} {l1 : Int32} {l2 : Int32} {l3 : Int32} {l4 : Int32} {M : Mem} {Φ : Option Value → Mem → Prop} (hF : Fx M) (h : (¬ l1 = ((mi M 1 9) - (nI 1)) → Con d m_Pedlar_mostBeyond 0 0 [.ref 63, .int (l1 + (nI 1)), .int l2, .int l4] M (PI fun r1 M1 => Fx M1 ∧ Ex (d + 1) m_Pedlar_mostFrom bc bs 43 [some (.ref 63), some (.int l1), some (.int l2), some (.int l3), some (.int l4), some (.int r1)] [] M1 Φ)) ∧ (l1 = ((mi M 1 9) - (nI 1)) → (¬ l2 = l3 → Ex (d + 1) m_Pedlar_mostFrom bc bs 43 [some (.ref 63), some (.int l1), some (.int l2), some (.int l3), some (.int l4), some (.int (-1))] [] M Φ) ∧ (l2 = l3 → Ex (d + 1) m_Pedlar_mostFrom bc bs 43 [some (.ref 63), some (.int l1), some (.int l2), some (.int l3), some (.int l4), some (.int (nI 0))] [] M Φ))) : Ex (d + 1) m_Pedlar_mostFrom bc bs 0 [some (.ref 63), some (.int l1), some (.int l2), some (.int l3), some (.int l4), none] [] M Φ := by
  refine ex_iconst (pc := 0) (k := 0) (v := nI 0) (by decide +kernel) (by decide) ?_
  refine ex_istore (pc := 1) (k := 5) (lo2 := [some (.ref 63), some (.int l1), some (.int l2), some (.int l3), some (.int l4), some (.int (nI 0))]) (by decide +kernel) (by decide) rfl ?_
  refine ex_iload_n (pc := 3) (k := 1) (by decide +kernel) rfl ?_
  refine ex_aload_n (pc := 4) (k := 0) (by decide +kernel) rfl ?_
  refine ex_getR (pc := 5) (a := 1) (by decide +kernel) lf_Pedlar_22 (hF.s (j := 63) rfl) (hF.r (j := 63) (k := 0) rfl rfl) ?_
  refine ey_getI (pc := 8) (v := mi M 1 9) (by decide +kernel) lf_Pedlar_30 (hF.s (j := 1) rfl) rfl ?_
  refine ex_iconst (pc := 11) (k := 1) (v := nI 1) (by decide +kernel) (by decide) ?_
  refine ex_isub (pc := 12) (by decide +kernel) ?_
  refine ex_icmp_ne (pc := 13) (off := 18) (tgt := 31) (by decide +kernel) (by decide) (fun hc => ?_) (fun hc => ?_)
  · replace h := h.1 hc
    refine ex_aload_n (pc := 31) (k := 0) (by decide +kernel) rfl ?_
    refine ex_iload_n (pc := 32) (k := 1) (by decide +kernel) rfl ?_
    refine ex_iconst (pc := 33) (k := 1) (v := nI 1) (by decide +kernel) (by decide) ?_
    refine ex_iadd (pc := 34) (by decide +kernel) ?_
    refine ex_iload_n (pc := 35) (k := 2) (by decide +kernel) rfl ?_
    refine ex_iload (pc := 36) (k := 4) (by decide +kernel) rfl ?_
    refine ex_callV (pc := 38) (as := [.int (l1 + (nI 1)), .int l2, .int l4]) (by decide +kernel) F_Pedlar_mostBeyond (in_t4 (i := 196) rfl rfl) (hF.s (j := 63) rfl) rfl (by decide) rfl rfl (Nat.le_of_ble_eq_true rfl) (Nat.lt_succ_self _) ⟨Nat.zero_le _, Nat.zero_le _⟩ (KC_I (Con.mono h ?_))
    intro o M1 ⟨r1, e9, hF1, h⟩
    refine ⟨r1, e9, ?_⟩
    refine ex_istore (pc := 41) (k := 5) (lo2 := [some (.ref 63), some (.int l1), some (.int l2), some (.int l3), some (.int l4), some (.int r1)]) (by decide +kernel) (by decide) rfl ?_
    exact h
  · replace h := h.2 hc
    refine ex_iload_n (pc := 16) (k := 2) (by decide +kernel) rfl ?_
    refine ex_iload_n (pc := 17) (k := 3) (by decide +kernel) rfl ?_
    refine ex_icmp_ne (pc := 18) (off := 7) (tgt := 25) (by decide +kernel) (by decide) (fun hc => ?_) (fun hc => ?_)
    · replace h := h.1 hc
      refine ex_iconst (pc := 25) (k := -1) (v := -1) (by decide +kernel) (by decide) ?_
      refine ex_istore (pc := 26) (k := 5) (lo2 := [some (.ref 63), some (.int l1), some (.int l2), some (.int l3), some (.int l4), some (.int (-1))]) (by decide +kernel) (by decide) rfl ?_
      refine ex_goto (pc := 28) (off := 15) (tgt := 43) (by decide +kernel) (by decide) ?_
      exact h
    · replace h := h.2 hc
      refine ex_iconst (pc := 21) (k := 0) (v := nI 0) (by decide +kernel) (by decide) ?_
      refine ex_goto (pc := 22) (off := 4) (tgt := 26) (by decide +kernel) (by decide) ?_
      refine ex_istore (pc := 26) (k := 5) (lo2 := [some (.ref 63), some (.int l1), some (.int l2), some (.int l3), some (.int l4), some (.int (nI 0))]) (by decide +kernel) (by decide) rfl ?_
      refine ex_goto (pc := 28) (off := 15) (tgt := 43) (by decide +kernel) (by decide) ?_
      exact h
theorem k_Pedlar_mostFrom_43 {d bc bs : Nat} {l1 : Int32} {l2 : Int32} {l3 : Int32} {l4 : Int32} {l5 : Int32} {M : Mem} {Φ : Option Value → Mem → Prop} (hF : Fx M) (h : (¬ l5 = (-1) → Con d m_Pedlar_salesAt 0 0 [.ref 63, .int l1, .int l2] M (PI fun r1 M1 => Fx M1 ∧ Φ (some (.int (l5 + r1))) M1)) ∧ (l5 = (-1) → Φ (some (.int (-1))) M)) : Ex (d + 1) m_Pedlar_mostFrom bc bs 43 [some (.ref 63), some (.int l1), some (.int l2), some (.int l3), some (.int l4), some (.int l5)] [] M Φ := by
  refine ex_iload (pc := 43) (k := 5) (by decide +kernel) rfl ?_
  refine ex_iconst (pc := 45) (k := -1) (v := -1) (by decide +kernel) (by decide) ?_
  refine ex_icmp_ne (pc := 46) (off := 7) (tgt := 53) (by decide +kernel) (by decide) (fun hc => ?_) (fun hc => ?_)
  · replace h := h.1 hc
    refine ex_iload (pc := 53) (k := 5) (by decide +kernel) rfl ?_
    refine ex_aload_n (pc := 55) (k := 0) (by decide +kernel) rfl ?_
    refine ex_iload_n (pc := 56) (k := 1) (by decide +kernel) rfl ?_
    refine ex_iload_n (pc := 57) (k := 2) (by decide +kernel) rfl ?_
    refine ex_callV (pc := 58) (as := [.int l1, .int l2]) (by decide +kernel) F_Pedlar_salesAt (in_t4 (i := 202) rfl rfl) (hF.s (j := 63) rfl) rfl (by decide) rfl rfl (Nat.le_of_ble_eq_true rfl) (Nat.lt_succ_self _) ⟨Nat.zero_le _, Nat.zero_le _⟩ (KC_I (Con.mono h ?_))
    intro o M1 ⟨r1, e9, hF1, h⟩
    refine ⟨r1, e9, ?_⟩
    refine ex_iadd (pc := 61) (by decide +kernel) ?_
    exact ex_ireturn (pc := 62) (by decide +kernel) rfl rfl h
  · replace h := h.2 hc
    refine ex_iconst (pc := 49) (k := -1) (v := -1) (by decide +kernel) (by decide) ?_
    refine ex_goto (pc := 50) (off := 12) (tgt := 62) (by decide +kernel) (by decide) ?_
    exact ex_ireturn (pc := 62) (by decide +kernel) rfl rfl h
theorem k_Pedlar_mostBeyond_0 {d bc bs : Nat} {l1 : Int32} {l2 : Int32} {l3 : Int32} {M : Mem} {Φ : Option Value → Mem → Prop} (hF : Fx M) (h : Ex (d + 1) m_Pedlar_mostBeyond bc bs 6 [some (.ref 63), some (.int l1), some (.int l2), some (.int l3), some (.int (-1)), some (.int (nI 0))] [] M Φ) : Ex (d + 1) m_Pedlar_mostBeyond bc bs 0 [some (.ref 63), some (.int l1), some (.int l2), some (.int l3), none, none] [] M Φ := by
  refine ex_iconst (pc := 0) (k := -1) (v := -1) (by decide +kernel) (by decide) ?_
  refine ex_istore (pc := 1) (k := 4) (lo2 := [some (.ref 63), some (.int l1), some (.int l2), some (.int l3), some (.int (-1)), none]) (by decide +kernel) (by decide) rfl ?_
  refine ex_iconst (pc := 3) (k := 0) (v := nI 0) (by decide +kernel) (by decide) ?_
  refine ex_istore (pc := 4) (k := 5) (lo2 := [some (.ref 63), some (.int l1), some (.int l2), some (.int l3), some (.int (-1)), some (.int (nI 0))]) (by decide +kernel) (by decide) rfl ?_
  exact h
theorem k_Pedlar_mostBeyond_6 {d bc bs : Nat} {l1 : Int32} {l2 : Int32} {l3 : Int32} {l4 : Int32} {l5 : Int32} {M : Mem} {Φ : Option Value → Mem → Prop} (hF : Fx M) (h : ((mi M 1 8) ≤ l5 → Φ (some (.int l4)) M) ∧ (¬ (mi M 1 8) ≤ l5 → Con d m_Land_hoursBetween 0 0 [.ref 1, .int l2, .int l5] M (PI fun r1 M1 => Fx M1 ∧ (l3 < r1 → Ex (d + 1) m_Pedlar_mostBeyond bc bs 6 [some (.ref 63), some (.int l1), some (.int l2), some (.int l3), some (.int l4), some (.int (l5 + nI 1))] [] M1 Φ) ∧ (¬ l3 < r1 → vp_in ((l1 * (nI 6)) + l5) 42 ∧ Ex (d + 1) m_Pedlar_mostBeyond bc bs 6 [some (.ref 63), some (.int l1), some (.int l2), some (.int l3), some (.int (if l4 < (mi M1 65 (((l1 * (nI 6)) + l5).toNatClampNeg)) then (mi M1 65 (((l1 * (nI 6)) + l5).toNatClampNeg)) else l4)), some (.int (l5 + nI 1))] [] M1 Φ)))) : Ex (d + 1) m_Pedlar_mostBeyond bc bs 6 [some (.ref 63), some (.int l1), some (.int l2), some (.int l3), some (.int l4), some (.int l5)] [] M Φ := by
  refine ex_iload (pc := 6) (k := 5) (by decide +kernel) rfl ?_
  refine ex_aload_n (pc := 8) (k := 0) (by decide +kernel) rfl ?_
  refine ex_getR (pc := 9) (a := 1) (by decide +kernel) lf_Pedlar_22 (hF.s (j := 63) rfl) (hF.r (j := 63) (k := 0) rfl rfl) ?_
  refine ey_getI (pc := 12) (v := mi M 1 8) (by decide +kernel) lf_Pedlar_35 (hF.s (j := 1) rfl) rfl ?_
  refine ex_icmp_ge (pc := 15) (off := 42) (tgt := 57) (by decide +kernel) (by decide) (fun hc => ?_) (fun hc => ?_)
  · replace h := h.1 hc
    refine ex_iload (pc := 57) (k := 4) (by decide +kernel) rfl ?_
    exact ex_ireturn (pc := 59) (by decide +kernel) rfl rfl h
  · replace h := h.2 hc
    refine ex_aload_n (pc := 18) (k := 0) (by decide +kernel) rfl ?_
    refine ex_getR (pc := 19) (a := 1) (by decide +kernel) lf_Pedlar_22 (hF.s (j := 63) rfl) (hF.r (j := 63) (k := 0) rfl rfl) ?_
    refine ex_iload_n (pc := 22) (k := 2) (by decide +kernel) rfl ?_
    refine ex_iload (pc := 23) (k := 5) (by decide +kernel) rfl ?_
    refine ex_callV (pc := 25) (as := [.int l2, .int l5]) (by decide +kernel) F_Land_hoursBetween (in_t4 (i := 200) rfl rfl) (hF.s (j := 1) rfl) rfl (by decide) rfl rfl (Nat.le_of_ble_eq_true rfl) (Nat.lt_succ_self _) ⟨Nat.zero_le _, Nat.zero_le _⟩ (KC_I (Con.mono h ?_))
    intro o M1 ⟨r1, e9, hF1, h⟩
    refine ⟨r1, e9, ?_⟩
    refine ex_iload_n (pc := 28) (k := 3) (by decide +kernel) rfl ?_
    refine ex_icmp_gt (pc := 29) (off := 22) (tgt := 51) (by decide +kernel) (by decide) (fun hc => ?_) (fun hc => ?_)
    · replace h := h.1 hc
      refine ex_iinc (pc := 51) (i := 5) (k := 1) (v := l5 + nI 1) (lo2 := [some (.ref 63), some (.int l1), some (.int l2), some (.int l3), some (.int l4), some (.int (l5 + nI 1))]) (by decide +kernel) (by decide) rfl rfl rfl ?_
      refine ex_goto (pc := 54) (off := -48) (tgt := 6) (by decide +kernel) (by decide) ?_
      exact h
    · replace h := h.2 hc
      refine ex_iload (pc := 32) (k := 4) (by decide +kernel) rfl ?_
      refine ex_aload_n (pc := 34) (k := 0) (by decide +kernel) rfl ?_
      refine ex_getR (pc := 35) (a := 65) (by decide +kernel) lf_Pedlar_19 (hF1.s (j := 63) rfl) (hF1.r (j := 63) (k := 4) rfl rfl) ?_
      refine ex_iload_n (pc := 38) (k := 1) (by decide +kernel) rfl ?_
      refine ex_bipush (pc := 39) (k := 6) (v := nI 6) (by decide +kernel) (by decide) ?_
      refine ex_imul (pc := 41) (by decide +kernel) ?_
      refine ex_iload (pc := 42) (k := 5) (by decide +kernel) rfl ?_
      refine ex_iadd (pc := 44) (by decide +kernel) ?_
      obtain ⟨g1, h⟩ := h
      refine ey_iald (pc := 45) (v := mi M1 65 (((l1 * (nI 6)) + l5).toNatClampNeg)) (by decide +kernel) (hF1.s (j := 65) rfl) g1 rfl rfl ?_
      refine ex_max (pc := 46) (by decide +kernel) (in_t4 (i := 201) rfl rfl) (Nat.le_of_ble_eq_true rfl) (Nat.succ_le_succ (Nat.zero_le _)) ?_
      refine ex_istore (pc := 49) (k := 4) (lo2 := [some (.ref 63), some (.int l1), some (.int l2), some (.int l3), some (.int (if l4 < (mi M1 65 (((l1 * (nI 6)) + l5).toNatClampNeg)) then (mi M1 65 (((l1 * (nI 6)) + l5).toNatClampNeg)) else l4)), some (.int l5)]) (by decide +kernel) (by decide) rfl ?_
      refine ex_iinc (pc := 51) (i := 5) (k := 1) (v := l5 + nI 1) (lo2 := [some (.ref 63), some (.int l1), some (.int l2), some (.int l3), some (.int (if l4 < (mi M1 65 (((l1 * (nI 6)) + l5).toNatClampNeg)) then (mi M1 65 (((l1 * (nI 6)) + l5).toNatClampNeg)) else l4)), some (.int (l5 + nI 1))]) (by decide +kernel) (by decide) rfl rfl rfl ?_
      refine ex_goto (pc := 54) (off := -48) (tgt := 6) (by decide +kernel) (by decide) ?_
      exact h
theorem k_Pedlar_firstStop_0 {d bc bs : Nat} {l1 : Int32} {l2 : Int32} {l3 : Int32} {l4 : Int32} {M : Mem} {Φ : Option Value → Mem → Prop} (hF : Fx M) (h : Ex (d + 1) m_Pedlar_firstStop bc bs 3 [some (.ref 63), some (.int l1), some (.int l2), some (.int l3), some (.int l4), some (.int (nI 0)), none] [] M Φ) : Ex (d + 1) m_Pedlar_firstStop bc bs 0 [some (.ref 63), some (.int l1), some (.int l2), some (.int l3), some (.int l4), none, none] [] M Φ := by
  refine ex_iconst (pc := 0) (k := 0) (v := nI 0) (by decide +kernel) (by decide) ?_
  refine ex_istore (pc := 1) (k := 5) (lo2 := [some (.ref 63), some (.int l1), some (.int l2), some (.int l3), some (.int l4), some (.int (nI 0)), none]) (by decide +kernel) (by decide) rfl ?_
  exact h
theorem k_Pedlar_firstStop_3 {d bc bs : Nat} {l1 : Int32} {l2 : Int32} {l3 : Int32} {l4 : Int32} {l5 : Int32} {M : Mem} {Φ : Option Value → Mem → Prop} (hF : Fx M) (h : ((mi M 1 8) ≤ l5 → Φ (some (.int l2)) M) ∧ (¬ (mi M 1 8) ≤ l5 → vp_in ((l1 * (nI 6)) + l5) 42 ∧ Con d m_Land_hoursBetween 0 0 [.ref 1, .int l2, .int l5] M (PI fun r1 M1 => Fx M1 ∧ (l3 < r1 → Ex (d + 1) m_Pedlar_firstStop bc bs 3 [some (.ref 63), some (.int l1), some (.int l2), some (.int l3), some (.int l4), some (.int (l5 + nI 1)), none] [] M1 Φ) ∧ (¬ l3 < r1 → ((mi M 65 (((l1 * (nI 6)) + l5).toNatClampNeg)) = (-1) → Ex (d + 1) m_Pedlar_firstStop bc bs 3 [some (.ref 63), some (.int l1), some (.int l2), some (.int l3), some (.int l4), some (.int (l5 + nI 1)), none] [] M1 Φ) ∧ (¬ (mi M 65 (((l1 * (nI 6)) + l5).toNatClampNeg)) = (-1) → ((mi M 65 (((l1 * (nI 6)) + l5).toNatClampNeg)) < l4 → Ex (d + 1) m_Pedlar_firstStop bc bs 3 [some (.ref 63), some (.int l1), some (.int l2), some (.int l3), some (.int l4), some (.int (l5 + nI 1)), none] [] M1 Φ) ∧ (¬ (mi M 65 (((l1 * (nI 6)) + l5).toNatClampNeg)) < l4 → Φ (some (.int l5)) M1)))))) : Ex (d + 1) m_Pedlar_firstStop bc bs 3 [some (.ref 63), some (.int l1), some (.int l2), some (.int l3), some (.int l4), some (.int l5), none] [] M Φ := by
  refine ex_iload (pc := 3) (k := 5) (by decide +kernel) rfl ?_
  refine ex_aload_n (pc := 5) (k := 0) (by decide +kernel) rfl ?_
  refine ex_getR (pc := 6) (a := 1) (by decide +kernel) lf_Pedlar_22 (hF.s (j := 63) rfl) (hF.r (j := 63) (k := 0) rfl rfl) ?_
  refine ey_getI (pc := 9) (v := mi M 1 8) (by decide +kernel) lf_Pedlar_35 (hF.s (j := 1) rfl) rfl ?_
  refine ex_icmp_ge (pc := 12) (off := 53) (tgt := 65) (by decide +kernel) (by decide) (fun hc => ?_) (fun hc => ?_)
  · replace h := h.1 hc
    refine ex_iload_n (pc := 65) (k := 2) (by decide +kernel) rfl ?_
    exact ex_ireturn (pc := 66) (by decide +kernel) rfl rfl h
  · replace h := h.2 hc
    refine ex_aload_n (pc := 15) (k := 0) (by decide +kernel) rfl ?_
    refine ex_getR (pc := 16) (a := 65) (by decide +kernel) lf_Pedlar_19 (hF.s (j := 63) rfl) (hF.r (j := 63) (k := 4) rfl rfl) ?_
    refine ex_iload_n (pc := 19) (k := 1) (by decide +kernel) rfl ?_
    refine ex_bipush (pc := 20) (k := 6) (v := nI 6) (by decide +kernel) (by decide) ?_
    refine ex_imul (pc := 22) (by decide +kernel) ?_
    refine ex_iload (pc := 23) (k := 5) (by decide +kernel) rfl ?_
    refine ex_iadd (pc := 25) (by decide +kernel) ?_
    obtain ⟨g1, h⟩ := h
    refine ey_iald (pc := 26) (v := mi M 65 (((l1 * (nI 6)) + l5).toNatClampNeg)) (by decide +kernel) (hF.s (j := 65) rfl) g1 rfl rfl ?_
    refine ex_istore (pc := 27) (k := 6) (lo2 := [some (.ref 63), some (.int l1), some (.int l2), some (.int l3), some (.int l4), some (.int l5), some (.int (mi M 65 (((l1 * (nI 6)) + l5).toNatClampNeg)))]) (by decide +kernel) (by decide) rfl ?_
    refine ex_aload_n (pc := 29) (k := 0) (by decide +kernel) rfl ?_
    refine ex_getR (pc := 30) (a := 1) (by decide +kernel) lf_Pedlar_22 (hF.s (j := 63) rfl) (hF.r (j := 63) (k := 0) rfl rfl) ?_
    refine ex_iload_n (pc := 33) (k := 2) (by decide +kernel) rfl ?_
    refine ex_iload (pc := 34) (k := 5) (by decide +kernel) rfl ?_
    refine ex_callV (pc := 36) (as := [.int l2, .int l5]) (by decide +kernel) F_Land_hoursBetween (in_t4 (i := 200) rfl rfl) (hF.s (j := 1) rfl) rfl (by decide) rfl rfl (Nat.le_of_ble_eq_true rfl) (Nat.lt_succ_self _) ⟨Nat.zero_le _, Nat.zero_le _⟩ (KC_I (Con.mono h ?_))
    intro o M1 ⟨r1, e9, hF1, h⟩
    refine ⟨r1, e9, ?_⟩
    refine ex_iload_n (pc := 39) (k := 3) (by decide +kernel) rfl ?_
    refine ex_icmp_gt (pc := 40) (off := 19) (tgt := 59) (by decide +kernel) (by decide) (fun hc => ?_) (fun hc => ?_)
    · replace h := h.1 hc
      refine ex_iinc (pc := 59) (i := 5) (k := 1) (v := l5 + nI 1) (lo2 := [some (.ref 63), some (.int l1), some (.int l2), some (.int l3), some (.int l4), some (.int (l5 + nI 1)), some (.int (mi M 65 (((l1 * (nI 6)) + l5).toNatClampNeg)))]) (by decide +kernel) (by decide) rfl rfl rfl ?_
      refine ex_goto (pc := 62) (off := -59) (tgt := 3) (by decide +kernel) (by decide) ?_
      exact Ex.msk [true, true, true, true, true, true, false] h
    · replace h := h.2 hc
      refine ex_iload (pc := 43) (k := 6) (by decide +kernel) rfl ?_
      refine ex_iconst (pc := 45) (k := -1) (v := -1) (by decide +kernel) (by decide) ?_
      refine ex_icmp_eq (pc := 46) (off := 13) (tgt := 59) (by decide +kernel) (by decide) (fun hc => ?_) (fun hc => ?_)
      · replace h := h.1 hc
        refine ex_iinc (pc := 59) (i := 5) (k := 1) (v := l5 + nI 1) (lo2 := [some (.ref 63), some (.int l1), some (.int l2), some (.int l3), some (.int l4), some (.int (l5 + nI 1)), some (.int (mi M 65 (((l1 * (nI 6)) + l5).toNatClampNeg)))]) (by decide +kernel) (by decide) rfl rfl rfl ?_
        refine ex_goto (pc := 62) (off := -59) (tgt := 3) (by decide +kernel) (by decide) ?_
        exact Ex.msk [true, true, true, true, true, true, false] h
      · replace h := h.2 hc
        refine ex_iload (pc := 49) (k := 6) (by decide +kernel) rfl ?_
        refine ex_iload (pc := 51) (k := 4) (by decide +kernel) rfl ?_
        refine ex_icmp_lt (pc := 53) (off := 6) (tgt := 59) (by decide +kernel) (by decide) (fun hc => ?_) (fun hc => ?_)
        · replace h := h.1 hc
          refine ex_iinc (pc := 59) (i := 5) (k := 1) (v := l5 + nI 1) (lo2 := [some (.ref 63), some (.int l1), some (.int l2), some (.int l3), some (.int l4), some (.int (l5 + nI 1)), some (.int (mi M 65 (((l1 * (nI 6)) + l5).toNatClampNeg)))]) (by decide +kernel) (by decide) rfl rfl rfl ?_
          refine ex_goto (pc := 62) (off := -59) (tgt := 3) (by decide +kernel) (by decide) ?_
          exact Ex.msk [true, true, true, true, true, true, false] h
        · replace h := h.2 hc
          refine ex_iload (pc := 56) (k := 5) (by decide +kernel) rfl ?_
          exact ex_ireturn (pc := 58) (by decide +kernel) rfl rfl h
theorem k_Pedlar_salesAt_0 {d bc bs : Nat} {l1 : Int32} {l2 : Int32} {M : Mem} {Φ : Option Value → Mem → Prop} (hF : Fx M) (h : Con d m_Fair_isAt 0 0 [.ref 51, .int l2, .int l1] M (PB fun r1 M1 => Fx M1 ∧ (r1 = false → Φ (some (.int (nI 0))) M1) ∧ (r1 = true → vp_in l2 6 ∧ Φ (some (.int (mi M1 2 l2.toNatClampNeg))) M1))) : Ex (d + 1) m_Pedlar_salesAt bc bs 0 [some (.ref 63), some (.int l1), some (.int l2)] [] M Φ := by
  refine ex_aload_n (pc := 0) (k := 0) (by decide +kernel) rfl ?_
  refine ex_getR (pc := 1) (a := 51) (by decide +kernel) lf_Pedlar_26 (hF.s (j := 63) rfl) (hF.r (j := 63) (k := 1) rfl rfl) ?_
  refine ex_iload_n (pc := 4) (k := 2) (by decide +kernel) rfl ?_
  refine ex_iload_n (pc := 5) (k := 1) (by decide +kernel) rfl ?_
  refine ex_callV (pc := 6) (as := [.int l2, .int l1]) (by decide +kernel) F_Fair_isAt (in_t4 (i := 206) rfl rfl) (hF.s (j := 51) rfl) rfl (by decide) rfl rfl (Nat.le_of_ble_eq_true rfl) (Nat.lt_succ_self _) ⟨Nat.zero_le _, Nat.zero_le _⟩ (KC_B (Con.mono h ?_))
  intro o M1 ⟨r1, e9, hF1, h⟩
  refine ⟨r1, e9, ?_⟩
  refine ey_ifeqB (pc := 9) (off := 15) (tgt := 24) (by decide +kernel) (by decide) (fun hc => ?_) (fun hc => ?_)
  · replace h := h.1 hc
    refine ex_iconst (pc := 24) (k := 0) (v := nI 0) (by decide +kernel) (by decide) ?_
    exact ex_ireturn (pc := 25) (by decide +kernel) rfl rfl h
  · replace h := h.2 hc
    refine ex_aload_n (pc := 12) (k := 0) (by decide +kernel) rfl ?_
    refine ex_getR (pc := 13) (a := 1) (by decide +kernel) lf_Pedlar_22 (hF1.s (j := 63) rfl) (hF1.r (j := 63) (k := 0) rfl rfl) ?_
    refine ex_getR (pc := 16) (a := 2) (by decide +kernel) lf_Pedlar_70 (hF1.s (j := 1) rfl) (hF1.r (j := 1) (k := 0) rfl rfl) ?_
    refine ex_iload_n (pc := 19) (k := 2) (by decide +kernel) rfl ?_
    obtain ⟨g1, h⟩ := h
    refine ey_iald (pc := 20) (v := mi M1 2 l2.toNatClampNeg) (by decide +kernel) (hF1.s (j := 2) rfl) g1 rfl rfl ?_
    refine ex_goto (pc := 21) (off := 4) (tgt := 25) (by decide +kernel) (by decide) ?_
    exact ex_ireturn (pc := 25) (by decide +kernel) rfl rfl h
theorem k_Pedlar_follow_0 {d bc bs : Nat} {l1 : Nat} {l2 : Int32} {l3 : Int32} {M : Mem} {Φ : Option Value → Mem → Prop} (hF : Fx M) (h : Ex (d + 1) m_Pedlar_follow bc bs 9 [some (.ref 63), some (.ref l1), some (.int l2), some (.int l3), some (.int l2), some (.int (nI 0)), some (.int (nI 0)), none] [] M Φ) : Ex (d + 1) m_Pedlar_follow bc bs 0 [some (.ref 63), some (.ref l1), some (.int l2), some (.int l3), none, none, none, none] [] M Φ := by
  refine ex_iload_n (pc := 0) (k := 2) (by decide +kernel) rfl ?_
  refine ex_istore (pc := 1) (k := 4) (lo2 := [some (.ref 63), some (.ref l1), some (.int l2), some (.int l3), some (.int l2), none, none, none]) (by decide +kernel) (by decide) rfl ?_
  refine ex_iconst (pc := 3) (k := 0) (v := nI 0) (by decide +kernel) (by decide) ?_
  refine ex_istore (pc := 4) (k := 5) (lo2 := [some (.ref 63), some (.ref l1), some (.int l2), some (.int l3), some (.int l2), some (.int (nI 0)), none, none]) (by decide +kernel) (by decide) rfl ?_
  refine ex_iconst (pc := 6) (k := 0) (v := nI 0) (by decide +kernel) (by decide) ?_
  refine ex_istore (pc := 7) (k := 6) (lo2 := [some (.ref 63), some (.ref l1), some (.int l2), some (.int l3), some (.int l2), some (.int (nI 0)), some (.int (nI 0)), none]) (by decide +kernel) (by decide) rfl ?_
  exact h
theorem k_Pedlar_follow_9 {d bc bs : Nat} {l1 : Nat} {l2 : Int32} {l3 : Int32} {l4 : Int32} {l5 : Int32} {l6 : Int32} {M : Mem} {Φ : Option Value → Mem → Prop} (hF : Fx M) (h : (sh M)[l1]? = some (8, 3) ∧ ((mi M l1 2) ≤ l6 → (¬ l4 = l2 → Φ (some (.int (-100))) M) ∧ (l4 = l2 → Φ (some (.int l5)) M)) ∧ (¬ (mi M l1 2) ≤ l6 → (sh M)[l1]? = some (8, 3) ∧ ∃ a1 : Nat, mr M l1 0 = some a1 ∧ ∃ N2 : Nat, (sh M)[a1]? = some (100, N2) ∧ vp_in l6 N2 ∧ Con d m_Land_hoursBetween 0 0 [.ref 1, .int l4, .int (mi M a1 l6.toNatClampNeg)] M (PI fun r3 M1 => Fx M1 ∧ (r3 ≤ l3 → Con d m_Pedlar_salesAt 0 0 [.ref 63, .int l6, .int (mi M a1 l6.toNatClampNeg)] M1 (PI fun r4 M2 => Fx M2 ∧ Ex (d + 1) m_Pedlar_follow bc bs 9 [some (.ref 63), some (.ref l1), some (.int l2), some (.int l3), some (.int (mi M a1 l6.toNatClampNeg)), some (.int (if (l5 + r4) < (nI 40) then (l5 + r4) else (nI 40))), some (.int (l6 + nI 1)), none] [] M2 Φ)) ∧ (¬ r3 ≤ l3 → Φ (some (.int ((-20) - l6))) M1)))) : Ex (d + 1) m_Pedlar_follow bc bs 9 [some (.ref 63), some (.ref l1), some (.int l2), some (.int l3), some (.int l4), some (.int l5), some (.int l6), none] [] M Φ := by
  refine ex_iload (pc := 9) (k := 6) (by decide +kernel) rfl ?_
  refine ex_aload_n (pc := 11) (k := 1) (by decide +kernel) rfl ?_
  obtain ⟨g1, h⟩ := h
  refine ey_getI (pc := 12) (v := mi M l1 2) (by decide +kernel) lf_Pedlar_73 g1 rfl ?_
  refine ex_icmp_ge (pc := 15) (off := 61) (tgt := 76) (by decide +kernel) (by decide) (fun hc => ?_) (fun hc => ?_)
  · replace h := h.1 hc
    refine ex_iload (pc := 76) (k := 4) (by decide +kernel) rfl ?_
    refine ex_iload_n (pc := 78) (k := 2) (by decide +kernel) rfl ?_
    refine ex_icmp_ne (pc := 79) (off := 8) (tgt := 87) (by decide +kernel) (by decide) (fun hc => ?_) (fun hc => ?_)
    · replace h := h.1 hc
      refine ex_bipush (pc := 87) (k := -100) (v := -100) (by decide +kernel) (by decide) ?_
      exact ex_ireturn (pc := 89) (by decide +kernel) rfl rfl h
    · replace h := h.2 hc
      refine ex_iload (pc := 82) (k := 5) (by decide +kernel) rfl ?_
      refine ex_goto (pc := 84) (off := 5) (tgt := 89) (by decide +kernel) (by decide) ?_
      exact ex_ireturn (pc := 89) (by decide +kernel) rfl rfl h
  · replace h := h.2 hc
    refine ex_aload_n (pc := 18) (k := 1) (by decide +kernel) rfl ?_
    obtain ⟨g2, h⟩ := h
    obtain ⟨a1, g3, h⟩ := h
    refine ex_getR (pc := 19) (a := a1) (by decide +kernel) lf_Pedlar_78 g2 g3 ?_
    refine ex_iload (pc := 22) (k := 6) (by decide +kernel) rfl ?_
    obtain ⟨N2, g4, h⟩ := h
    obtain ⟨g5, h⟩ := h
    refine ey_iald (pc := 24) (v := mi M a1 l6.toNatClampNeg) (by decide +kernel) g4 g5 rfl rfl ?_
    refine ex_istore (pc := 25) (k := 7) (lo2 := [some (.ref 63), some (.ref l1), some (.int l2), some (.int l3), some (.int l4), some (.int l5), some (.int l6), some (.int (mi M a1 l6.toNatClampNeg))]) (by decide +kernel) (by decide) rfl ?_
    refine ex_aload_n (pc := 27) (k := 0) (by decide +kernel) rfl ?_
    refine ex_getR (pc := 28) (a := 1) (by decide +kernel) lf_Pedlar_22 (hF.s (j := 63) rfl) (hF.r (j := 63) (k := 0) rfl rfl) ?_
    refine ex_iload (pc := 31) (k := 4) (by decide +kernel) rfl ?_
    refine ex_iload (pc := 33) (k := 7) (by decide +kernel) rfl ?_
    refine ex_callV (pc := 35) (as := [.int l4, .int (mi M a1 l6.toNatClampNeg)]) (by decide +kernel) F_Land_hoursBetween (in_t4 (i := 200) rfl rfl) (hF.s (j := 1) rfl) rfl (by decide) rfl rfl (Nat.le_of_ble_eq_true rfl) (Nat.lt_succ_self _) ⟨Nat.zero_le _, Nat.zero_le _⟩ (KC_I (Con.mono h ?_))
    intro o M1 ⟨r3, e9, hF1, h⟩
    refine ⟨r3, e9, ?_⟩
    refine ex_iload_n (pc := 38) (k := 3) (by decide +kernel) rfl ?_
    refine ex_icmp_le (pc := 39) (off := 9) (tgt := 48) (by decide +kernel) (by decide) (fun hc => ?_) (fun hc => ?_)
    · replace h := h.1 hc
      refine ex_bipush (pc := 48) (k := 40) (v := nI 40) (by decide +kernel) (by decide) ?_
      refine ex_iload (pc := 50) (k := 5) (by decide +kernel) rfl ?_
      refine ex_aload_n (pc := 52) (k := 0) (by decide +kernel) rfl ?_
      refine ex_iload (pc := 53) (k := 6) (by decide +kernel) rfl ?_
      refine ex_iload (pc := 55) (k := 7) (by decide +kernel) rfl ?_
      refine ex_callV (pc := 57) (as := [.int l6, .int (mi M a1 l6.toNatClampNeg)]) (by decide +kernel) F_Pedlar_salesAt (in_t4 (i := 202) rfl rfl) (hF1.s (j := 63) rfl) rfl (by decide) rfl rfl (Nat.le_of_ble_eq_true rfl) (Nat.lt_succ_self _) ⟨Nat.zero_le _, Nat.zero_le _⟩ (KC_I (Con.mono h ?_))
      intro o M2 ⟨r4, e9, hF2, h⟩
      refine ⟨r4, e9, ?_⟩
      refine ex_iadd (pc := 60) (by decide +kernel) ?_
      refine ex_min (pc := 61) (by decide +kernel) (in_t4 (i := 207) rfl rfl) (Nat.le_of_ble_eq_true rfl) (Nat.succ_le_succ (Nat.zero_le _)) ?_
      refine ex_istore (pc := 64) (k := 5) (lo2 := [some (.ref 63), some (.ref l1), some (.int l2), some (.int l3), some (.int l4), some (.int (if (l5 + r4) < (nI 40) then (l5 + r4) else (nI 40))), some (.int l6), some (.int (mi M a1 l6.toNatClampNeg))]) (by decide +kernel) (by decide) rfl ?_
      refine ex_iload (pc := 66) (k := 7) (by decide +kernel) rfl ?_
      refine ex_istore (pc := 68) (k := 4) (lo2 := [some (.ref 63), some (.ref l1), some (.int l2), some (.int l3), some (.int (mi M a1 l6.toNatClampNeg)), some (.int (if (l5 + r4) < (nI 40) then (l5 + r4) else (nI 40))), some (.int l6), some (.int (mi M a1 l6.toNatClampNeg))]) (by decide +kernel) (by decide) rfl ?_
      refine ex_iinc (pc := 70) (i := 6) (k := 1) (v := l6 + nI 1) (lo2 := [some (.ref 63), some (.ref l1), some (.int l2), some (.int l3), some (.int (mi M a1 l6.toNatClampNeg)), some (.int (if (l5 + r4) < (nI 40) then (l5 + r4) else (nI 40))), some (.int (l6 + nI 1)), some (.int (mi M a1 l6.toNatClampNeg))]) (by decide +kernel) (by decide) rfl rfl rfl ?_
      refine ex_goto (pc := 73) (off := -64) (tgt := 9) (by decide +kernel) (by decide) ?_
      exact Ex.msk [true, true, true, true, true, true, true, false] h
    · replace h := h.2 hc
      refine ex_bipush (pc := 42) (k := -20) (v := -20) (by decide +kernel) (by decide) ?_
      refine ex_iload (pc := 44) (k := 6) (by decide +kernel) rfl ?_
      refine ex_isub (pc := 46) (by decide +kernel) ?_
      exact ex_ireturn (pc := 47) (by decide +kernel) rfl rfl h
