/-! printed blocks: MarketDaysModel -/
theorem k_MM_others_4 {d bc bs : Nat} {l1 : Int32} {l2 : Int32} {l3 : Int32} {M : Mem} {Φ : Option Value → Mem → Prop} (hF : Fm M) (h : ((mi M 78 0) ≤ l3 → Φ (some (.int l2)) M) ∧ (¬ (mi M 78 0) ≤ l3 → vp_in l1 12 ∧ ((mi M 90 l1.toNatClampNeg) ≤ l3 → Ex (d + 1) m_MM_others bc bs 4 [some (.ref 78), some (.int l1), some (.int (l2 + (nI 1))), some (.int (l3 + nI 1))] [] M Φ) ∧ (¬ (mi M 90 l1.toNatClampNeg) ≤ l3 → vp_in (((nI 6) * l1) + l3) 72 ∧ vp_in l3 6 ∧ Con d m_MM_dayIn 0 0 [.int (mi M 109 l3.toNatClampNeg)] M (PI fun r1 M1 => Fm M1 ∧ (¬ (mi M 91 ((((nI 6) * l1) + l3).toNatClampNeg)) = r1 → Ex (d + 1) m_MM_others bc bs 4 [some (.ref 78), some (.int l1), some (.int (l2 + (nI 1))), some (.int (l3 + nI 1))] [] M1 Φ) ∧ ((mi M 91 ((((nI 6) * l1) + l3).toNatClampNeg)) = r1 → Ex (d + 1) m_MM_others bc bs 4 [some (.ref 78), some (.int l1), some (.int (l2 + (nI 0))), some (.int (l3 + nI 1))] [] M1 Φ))))) : Ex (d + 1) m_MM_others bc bs 4 [some (.ref 78), some (.int l1), some (.int l2), some (.int l3)] [] M Φ := by
  refine ex_iload_n (pc := 4) (k := 3) (by decide +kernel) rfl ?_
  refine ex_aload_n (pc := 5) (k := 0) (by decide +kernel) rfl ?_
  refine ey_getI (pc := 6) (v := mi M 78 0) (by decide +kernel) lf_MM_151 (hF.s (j := 78) rfl) rfl ?_
  refine ex_icmp_ge (pc := 9) (off := 50) (tgt := 59) (by decide +kernel) (by decide) (fun hc => ?_) (fun hc => ?_)
  · replace h := h.1 hc
    refine ex_iload_n (pc := 59) (k := 2) (by decide +kernel) rfl ?_
    exact ex_ireturn (pc := 60) (by decide +kernel) rfl rfl h
  · replace h := h.2 hc
    refine ex_iload_n (pc := 12) (k := 2) (by decide +kernel) rfl ?_
    refine ex_iload_n (pc := 13) (k := 3) (by decide +kernel) rfl ?_
    refine ex_aload_n (pc := 14) (k := 0) (by decide +kernel) rfl ?_
    refine ex_getR (pc := 15) (a := 90) (by decide +kernel) lf_MM_50 (hF.s (j := 78) rfl) (hF.r (j := 78) (k := 18) rfl rfl) ?_
    refine ex_iload_n (pc := 18) (k := 1) (by decide +kernel) rfl ?_
    obtain ⟨g1, h⟩ := h
    refine ey_iald (pc := 19) (v := mi M 90 l1.toNatClampNeg) (by decide +kernel) (hF.s (j := 90) rfl) g1 rfl rfl ?_
    refine ex_icmp_ge (pc := 20) (off := 30) (tgt := 50) (by decide +kernel) (by decide) (fun hc => ?_) (fun hc => ?_)
    · replace h := h.1 hc
      refine ex_iconst (pc := 50) (k := 1) (v := nI 1) (by decide +kernel) (by decide) ?_
      refine ex_iadd (pc := 51) (by decide +kernel) ?_
      refine ex_istore_n (pc := 52) (k := 2) (lo2 := [some (.ref 78), some (.int l1), some (.int (l2 + (nI 1))), some (.int l3)]) (by decide +kernel) (by decide) rfl ?_
      refine ex_iinc (pc := 53) (i := 3) (k := 1) (v := l3 + nI 1) (lo2 := [some (.ref 78), some (.int l1), some (.int (l2 + (nI 1))), some (.int (l3 + nI 1))]) (by decide +kernel) (by decide) rfl rfl rfl ?_
      refine ex_goto (pc := 56) (off := -52) (tgt := 4) (by decide +kernel) (by decide) ?_
      exact h
    · replace h := h.2 hc
      refine ex_aload_n (pc := 23) (k := 0) (by decide +kernel) rfl ?_
      refine ex_getR (pc := 24) (a := 91) (by decide +kernel) lf_MM_53 (hF.s (j := 78) rfl) (hF.r (j := 78) (k := 19) rfl rfl) ?_
      refine ex_bipush (pc := 27) (k := 6) (v := nI 6) (by decide +kernel) (by decide) ?_
      refine ex_iload_n (pc := 29) (k := 1) (by decide +kernel) rfl ?_
      refine ex_imul (pc := 30) (by decide +kernel) ?_
      refine ex_iload_n (pc := 31) (k := 3) (by decide +kernel) rfl ?_
      refine ex_iadd (pc := 32) (by decide +kernel) ?_
      obtain ⟨g2, h⟩ := h
      refine ey_iald (pc := 33) (v := mi M 91 ((((nI 6) * l1) + l3).toNatClampNeg)) (by decide +kernel) (hF.s (j := 91) rfl) g2 rfl rfl ?_
      refine ex_aload_n (pc := 34) (k := 0) (by decide +kernel) rfl ?_
      refine ex_getR (pc := 35) (a := 109) (by decide +kernel) lf_MM_131 (hF.s (j := 78) rfl) (hF.r (j := 78) (k := 52) rfl rfl) ?_
      refine ex_iload_n (pc := 38) (k := 3) (by decide +kernel) rfl ?_
      obtain ⟨g3, h⟩ := h
      refine ey_iald (pc := 39) (v := mi M 109 l3.toNatClampNeg) (by decide +kernel) (hF.s (j := 109) rfl) g3 rfl rfl ?_
      refine ex_callS (pc := 40) (as := [.int (mi M 109 l3.toNatClampNeg)]) (by decide +kernel) F_MM_dayIn (in_t6 (i := 226) rfl rfl) rfl rfl (Nat.le_of_ble_eq_true rfl) (Nat.lt_succ_self _) ⟨Nat.zero_le _, Nat.zero_le _⟩ (KC_I (Con.mono h ?_))
      intro o M1 ⟨r1, e9, hF1, h⟩
      refine ⟨r1, e9, ?_⟩
      refine ex_icmp_ne (pc := 43) (off := 7) (tgt := 50) (by decide +kernel) (by decide) (fun hc => ?_) (fun hc => ?_)
      · replace h := h.1 hc
        refine ex_iconst (pc := 50) (k := 1) (v := nI 1) (by decide +kernel) (by decide) ?_
        refine ex_iadd (pc := 51) (by decide +kernel) ?_
        refine ex_istore_n (pc := 52) (k := 2) (lo2 := [some (.ref 78), some (.int l1), some (.int (l2 + (nI 1))), some (.int l3)]) (by decide +kernel) (by decide) rfl ?_
        refine ex_iinc (pc := 53) (i := 3) (k := 1) (v := l3 + nI 1) (lo2 := [some (.ref 78), some (.int l1), some (.int (l2 + (nI 1))), some (.int (l3 + nI 1))]) (by decide +kernel) (by decide) rfl rfl rfl ?_
        refine ex_goto (pc := 56) (off := -52) (tgt := 4) (by decide +kernel) (by decide) ?_
        exact h
      · replace h := h.2 hc
        refine ex_iconst (pc := 46) (k := 0) (v := nI 0) (by decide +kernel) (by decide) ?_
        refine ex_goto (pc := 47) (off := 4) (tgt := 51) (by decide +kernel) (by decide) ?_
        refine ex_iadd (pc := 51) (by decide +kernel) ?_
        refine ex_istore_n (pc := 52) (k := 2) (lo2 := [some (.ref 78), some (.int l1), some (.int (l2 + (nI 0))), some (.int l3)]) (by decide +kernel) (by decide) rfl ?_
        refine ex_iinc (pc := 53) (i := 3) (k := 1) (v := l3 + nI 1) (lo2 := [some (.ref 78), some (.int l1), some (.int (l2 + (nI 0))), some (.int (l3 + nI 1))]) (by decide +kernel) (by decide) rfl rfl rfl ?_
        refine ex_goto (pc := 56) (off := -52) (tgt := 4) (by decide +kernel) (by decide) ?_
        exact h
theorem k_MM_keptWorth_0 {d bc bs : Nat} {l1 : Int32} {l2 : Int32} {l3 : Int32} {l4 : Int32} {M : Mem} {Φ : Option Value → Mem → Prop} (hF : Fm M) (h : vp_in ((((((l1 * (nI 7)) + l2) * (nI 100)) + l3) * (nI 7)) + l4) 29400 ∧ (¬ (mi M 111 (((((((l1 * (nI 7)) + l2) * (nI 100)) + l3) * (nI 7)) + l4).toNatClampNeg)) = 0 → vp_in ((((((l1 * (nI 7)) + l2) * (nI 100)) + l3) * (nI 7)) + l4) 29400 ∧ Φ (some (.int (mi M 110 (((((((l1 * (nI 7)) + l2) * (nI 100)) + l3) * (nI 7)) + l4).toNatClampNeg)))) M) ∧ ((mi M 111 (((((((l1 * (nI 7)) + l2) * (nI 100)) + l3) * (nI 7)) + l4).toNatClampNeg)) = 0 → Con d m_MM_worthBy 0 0 [.ref 78, .int l1, .int l2, .int l3, .int l4] M (PI fun r1 M1 => Fm M1 ∧ vp_in ((((((l1 * (nI 7)) + l2) * (nI 100)) + l3) * (nI 7)) + l4) 29400 ∧ vp_in ((((((l1 * (nI 7)) + l2) * (nI 100)) + l3) * (nI 7)) + l4) 29400 ∧ vp_in ((((((l1 * (nI 7)) + l2) * (nI 100)) + l3) * (nI 7)) + l4) 29400 ∧ Φ (some (.int (mi (wi M1 110 (((((((l1 * (nI 7)) + l2) * (nI 100)) + l3) * (nI 7)) + l4).toNatClampNeg) r1) 110 (((((((l1 * (nI 7)) + l2) * (nI 100)) + l3) * (nI 7)) + l4).toNatClampNeg)))) (wi (wi M1 110 (((((((l1 * (nI 7)) + l2) * (nI 100)) + l3) * (nI 7)) + l4).toNatClampNeg) r1) 111 (((((((l1 * (nI 7)) + l2) * (nI 100)) + l3) * (nI 7)) + l4).toNatClampNeg) (nI 1))))) : Ex (d + 1) m_MM_keptWorth bc bs 0 [some (.ref 78), some (.int l1), some (.int l2), some (.int l3), some (.int l4), none] [] M Φ := by
  refine ex_iload_n (pc := 0) (k := 1) (by decide +kernel) rfl ?_
  refine ex_bipush (pc := 1) (k := 7) (v := nI 7) (by decide +kernel) (by decide) ?_
  refine ex_imul (pc := 3) (by decide +kernel) ?_
  refine ex_iload_n (pc := 4) (k := 2) (by decide +kernel) rfl ?_
  refine ex_iadd (pc := 5) (by decide +kernel) ?_
  refine ex_bipush (pc := 6) (k := 100) (v := nI 100) (by decide +kernel) (by decide) ?_
  refine ex_imul (pc := 8) (by decide +kernel) ?_
  refine ex_iload_n (pc := 9) (k := 3) (by decide +kernel) rfl ?_
  refine ex_iadd (pc := 10) (by decide +kernel) ?_
  refine ex_bipush (pc := 11) (k := 7) (v := nI 7) (by decide +kernel) (by decide) ?_
  refine ex_imul (pc := 13) (by decide +kernel) ?_
  refine ex_iload (pc := 14) (k := 4) (by decide +kernel) rfl ?_
  refine ex_iadd (pc := 16) (by decide +kernel) ?_
  refine ex_istore (pc := 17) (k := 5) (lo2 := [some (.ref 78), some (.int l1), some (.int l2), some (.int l3), some (.int l4), some (.int ((((((l1 * (nI 7)) + l2) * (nI 100)) + l3) * (nI 7)) + l4))]) (by decide +kernel) (by decide) rfl ?_
  refine ex_aload_n (pc := 19) (k := 0) (by decide +kernel) rfl ?_
  refine ex_getR (pc := 20) (a := 111) (by decide +kernel) lf_MM_137 (hF.s (j := 78) rfl) (hF.r (j := 78) (k := 54) rfl rfl) ?_
  refine ex_iload (pc := 23) (k := 5) (by decide +kernel) rfl ?_
  obtain ⟨g1, h⟩ := h
  refine ey_zald (pc := 25) (v := mi M 111 (((((((l1 * (nI 7)) + l2) * (nI 100)) + l3) * (nI 7)) + l4).toNatClampNeg)) (by decide +kernel) (hF.s (j := 111) rfl) g1 rfl rfl ?_
  refine ex_if_ne (pc := 26) (off := 27) (tgt := 53) (by decide +kernel) (by decide) (fun hc => ?_) (fun hc => ?_)
  · replace h := h.1 hc
    refine ex_aload_n (pc := 53) (k := 0) (by decide +kernel) rfl ?_
    refine ex_getR (pc := 54) (a := 110) (by decide +kernel) lf_MM_134 (hF.s (j := 78) rfl) (hF.r (j := 78) (k := 53) rfl rfl) ?_
    refine ex_iload (pc := 57) (k := 5) (by decide +kernel) rfl ?_
    obtain ⟨g2, h⟩ := h
    refine ey_iald (pc := 59) (v := mi M 110 (((((((l1 * (nI 7)) + l2) * (nI 100)) + l3) * (nI 7)) + l4).toNatClampNeg)) (by decide +kernel) (hF.s (j := 110) rfl) g2 rfl rfl ?_
    exact ex_ireturn (pc := 60) (by decide +kernel) rfl rfl h
  · replace h := h.2 hc
    refine ex_aload_n (pc := 29) (k := 0) (by decide +kernel) rfl ?_
    refine ex_getR (pc := 30) (a := 110) (by decide +kernel) lf_MM_134 (hF.s (j := 78) rfl) (hF.r (j := 78) (k := 53) rfl rfl) ?_
    refine ex_iload (pc := 33) (k := 5) (by decide +kernel) rfl ?_
    refine ex_aload_n (pc := 35) (k := 0) (by decide +kernel) rfl ?_
    refine ex_iload_n (pc := 36) (k := 1) (by decide +kernel) rfl ?_
    refine ex_iload_n (pc := 37) (k := 2) (by decide +kernel) rfl ?_
    refine ex_iload_n (pc := 38) (k := 3) (by decide +kernel) rfl ?_
    refine ex_iload (pc := 39) (k := 4) (by decide +kernel) rfl ?_
    refine ex_callV (pc := 41) (as := [.int l1, .int l2, .int l3, .int l4]) (by decide +kernel) F_MM_worthBy (in_t6 (i := 126) rfl rfl) (hF.s (j := 78) rfl) rfl (by decide) rfl rfl (Nat.le_of_ble_eq_true rfl) (Nat.lt_succ_self _) ⟨Nat.zero_le _, Nat.zero_le _⟩ (KC_I (Con.mono h ?_))
    intro o M1 ⟨r1, e9, hF1, h⟩
    refine ⟨r1, e9, ?_⟩
    obtain ⟨g3, h⟩ := h
    refine ey_iast (pc := 44) (by decide +kernel) (hF1.s (j := 110) rfl) g3 rfl ?_
    refine ex_aload_n (pc := 45) (k := 0) (by decide +kernel) rfl ?_
    refine ex_getR (pc := 46) (a := 111) (by decide +kernel) lf_MM_137 (hF1.s (j := 78) rfl) (hF1.r (j := 78) (k := 54) rfl rfl) ?_
    refine ex_iload (pc := 49) (k := 5) (by decide +kernel) rfl ?_
    refine ex_iconst (pc := 51) (k := 1) (v := nI 1) (by decide +kernel) (by decide) ?_
    obtain ⟨g4, h⟩ := h
    refine ey_zast (pc := 52) (by decide +kernel) (hF1.s (j := 111) rfl) g4 rfl (by decide) ?_
    refine ex_aload_n (pc := 53) (k := 0) (by decide +kernel) rfl ?_
    refine ex_getR (pc := 54) (a := 110) (by decide +kernel) lf_MM_134 (hF1.s (j := 78) rfl) (hF1.r (j := 78) (k := 53) rfl rfl) ?_
    refine ex_iload (pc := 57) (k := 5) (by decide +kernel) rfl ?_
    obtain ⟨g5, h⟩ := h
    refine ey_iald (pc := 59) (v := mi (wi M1 110 (((((((l1 * (nI 7)) + l2) * (nI 100)) + l3) * (nI 7)) + l4).toNatClampNeg) r1) 110 (((((((l1 * (nI 7)) + l2) * (nI 100)) + l3) * (nI 7)) + l4).toNatClampNeg)) (by decide +kernel) (hF1.s (j := 110) rfl) g5 rfl rfl ?_
    exact ex_ireturn (pc := 60) (by decide +kernel) rfl rfl h
theorem k_MM_worthWay_0 {d bc bs : Nat}  {M : Mem} {Φ : Option Value → Mem → Prop} (hF : Fm M) (h : Ex (d + 1) m_MM_worthWay bc bs 4 [some (.ref 78), some (.int (nI 0)), some (.int (nI 0)), none, none, none, none, none] [] M Φ) : Ex (d + 1) m_MM_worthWay bc bs 0 [some (.ref 78), none, none, none, none, none, none, none] [] M Φ := by
  refine ex_iconst (pc := 0) (k := 0) (v := nI 0) (by decide +kernel) (by decide) ?_
  refine ex_istore_n (pc := 1) (k := 1) (lo2 := [some (.ref 78), some (.int (nI 0)), none, none, none, none, none, none]) (by decide +kernel) (by decide) rfl ?_
  refine ex_iconst (pc := 2) (k := 0) (v := nI 0) (by decide +kernel) (by decide) ?_
  refine ex_istore_n (pc := 3) (k := 2) (lo2 := [some (.ref 78), some (.int (nI 0)), some (.int (nI 0)), none, none, none, none, none]) (by decide +kernel) (by decide) rfl ?_
  exact h
theorem k_MM_worthWay_4 {d bc bs : Nat} {l1 : Int32} {l2 : Int32} {M : Mem} {Φ : Option Value → Mem → Prop} (hF : Fm M) (h : ((mi M 78 0) ≤ l2 → Φ (some (.int l1)) M) ∧ (¬ (mi M 78 0) ≤ l2 → vp_in l2 6 ∧ Con d m_MM_dayIn 0 0 [.int (mi M 109 l2.toNatClampNeg)] M (PI fun r1 M1 => Fm M1 ∧ ¬ (mi M1 78 6) = 0 ∧ Ex (d + 1) m_MM_worthWay bc bs 49 [some (.ref 78), some (.int l1), some (.int l2), some (.int r1), some (.int ((nI 1) <<< ((((r1 + (mi M1 78 6)) - (nI 1)) % (mi M1 78 6)) &&& 31))), some (.int (nI 99)), some (.int (nI 0)), some (.int (nI 0))] [] M1 Φ))) : Ex (d + 1) m_MM_worthWay bc bs 4 [some (.ref 78), some (.int l1), some (.int l2), none, none, none, none, none] [] M Φ := by
  refine ex_iload_n (pc := 4) (k := 2) (by decide +kernel) rfl ?_
  refine ex_aload_n (pc := 5) (k := 0) (by decide +kernel) rfl ?_
  refine ey_getI (pc := 6) (v := mi M 78 0) (by decide +kernel) lf_MM_151 (hF.s (j := 78) rfl) rfl ?_
  refine ex_icmp_ge (pc := 9) (off := 160) (tgt := 169) (by decide +kernel) (by decide) (fun hc => ?_) (fun hc => ?_)
  · replace h := h.1 hc
    refine ex_iload_n (pc := 169) (k := 1) (by decide +kernel) rfl ?_
    exact ex_ireturn (pc := 170) (by decide +kernel) rfl rfl h
  · replace h := h.2 hc
    refine ex_aload_n (pc := 12) (k := 0) (by decide +kernel) rfl ?_
    refine ex_getR (pc := 13) (a := 109) (by decide +kernel) lf_MM_131 (hF.s (j := 78) rfl) (hF.r (j := 78) (k := 52) rfl rfl) ?_
    refine ex_iload_n (pc := 16) (k := 2) (by decide +kernel) rfl ?_
    obtain ⟨g1, h⟩ := h
    refine ey_iald (pc := 17) (v := mi M 109 l2.toNatClampNeg) (by decide +kernel) (hF.s (j := 109) rfl) g1 rfl rfl ?_
    refine ex_callS (pc := 18) (as := [.int (mi M 109 l2.toNatClampNeg)]) (by decide +kernel) F_MM_dayIn (in_t6 (i := 226) rfl rfl) rfl rfl (Nat.le_of_ble_eq_true rfl) (Nat.lt_succ_self _) ⟨Nat.zero_le _, Nat.zero_le _⟩ (KC_I (Con.mono h ?_))
    intro o M1 ⟨r1, e9, hF1, h⟩
    refine ⟨r1, e9, ?_⟩
    refine ex_istore_n (pc := 21) (k := 3) (lo2 := [some (.ref 78), some (.int l1), some (.int l2), some (.int r1), none, none, none, none]) (by decide +kernel) (by decide) rfl ?_
    refine ex_iconst (pc := 22) (k := 1) (v := nI 1) (by decide +kernel) (by decide) ?_
    refine ex_iload_n (pc := 23) (k := 3) (by decide +kernel) rfl ?_
    refine ex_aload_n (pc := 24) (k := 0) (by decide +kernel) rfl ?_
    refine ey_getI (pc := 25) (v := mi M1 78 6) (by decide +kernel) lf_MM_25 (hF1.s (j := 78) rfl) rfl ?_
    refine ex_iadd (pc := 28) (by decide +kernel) ?_
    refine ex_iconst (pc := 29) (k := 1) (v := nI 1) (by decide +kernel) (by decide) ?_
    refine ex_isub (pc := 30) (by decide +kernel) ?_
    refine ex_aload_n (pc := 31) (k := 0) (by decide +kernel) rfl ?_
    refine ey_getI (pc := 32) (v := mi M1 78 6) (by decide +kernel) lf_MM_25 (hF1.s (j := 78) rfl) rfl ?_
    obtain ⟨g2, h⟩ := h
    refine ex_irem (pc := 35) (by decide +kernel) g2 ?_
    refine ex_ishl (pc := 36) (by decide +kernel) ?_
    refine ex_istore (pc := 37) (k := 4) (lo2 := [some (.ref 78), some (.int l1), some (.int l2), some (.int r1), some (.int ((nI 1) <<< ((((r1 + (mi M1 78 6)) - (nI 1)) % (mi M1 78 6)) &&& 31))), none, none, none]) (by decide +kernel) (by decide) rfl ?_
    refine ex_bipush (pc := 39) (k := 99) (v := nI 99) (by decide +kernel) (by decide) ?_
    refine ex_istore (pc := 41) (k := 5) (lo2 := [some (.ref 78), some (.int l1), some (.int l2), some (.int r1), some (.int ((nI 1) <<< ((((r1 + (mi M1 78 6)) - (nI 1)) % (mi M1 78 6)) &&& 31))), some (.int (nI 99)), none, none]) (by decide +kernel) (by decide) rfl ?_
    refine ex_iconst (pc := 43) (k := 0) (v := nI 0) (by decide +kernel) (by decide) ?_
    refine ex_istore (pc := 44) (k := 6) (lo2 := [some (.ref 78), some (.int l1), some (.int l2), some (.int r1), some (.int ((nI 1) <<< ((((r1 + (mi M1 78 6)) - (nI 1)) % (mi M1 78 6)) &&& 31))), some (.int (nI 99)), some (.int (nI 0)), none]) (by decide +kernel) (by decide) rfl ?_
    refine ex_iconst (pc := 46) (k := 0) (v := nI 0) (by decide +kernel) (by decide) ?_
    refine ex_istore (pc := 47) (k := 7) (lo2 := [some (.ref 78), some (.int l1), some (.int l2), some (.int r1), some (.int ((nI 1) <<< ((((r1 + (mi M1 78 6)) - (nI 1)) % (mi M1 78 6)) &&& 31))), some (.int (nI 99)), some (.int (nI 0)), some (.int (nI 0))]) (by decide +kernel) (by decide) rfl ?_
    exact h
theorem k_MM_worthWay_49 {d bc bs : Nat} {l1 : Int32} {l2 : Int32} {l3 : Int32} {l4 : Int32} {l5 : Int32} {l6 : Int32} {l7 : Int32} {M : Mem} {Φ : Option Value → Mem → Prop} (hF : Fm M) (h : ((mi M 78 0) ≤ l7 → Con d m_MM_keptWorth 0 0 [.ref 78, .int l2, .int l3, .int l5, .int l6] M (PI fun r1 M1 => Fm M1 ∧ Ex (d + 1) m_MM_worthWay bc bs 4 [some (.ref 78), some (.int (l1 + r1)), some (.int (l2 + nI 1)), none, none, none, none, none] [] M1 Φ)) ∧ (¬ (mi M 78 0) ≤ l7 → (l7 = l2 → Ex (d + 1) m_MM_worthWay bc bs 108 [some (.ref 78), some (.int l1), some (.int l2), some (.int l3), some (.int l4), some (.int l5), some (.int l6), some (.int l7)] [] M Φ) ∧ (¬ l7 = l2 → vp_in l7 6 ∧ (¬ (mi M 109 l7.toNatClampNeg) = l4 → Ex (d + 1) m_MM_worthWay bc bs 108 [some (.ref 78), some (.int l1), some (.int l2), some (.int l3), some (.int l4), some (.int l5), some (.int l6), some (.int l7)] [] M Φ) ∧ ((mi M 109 l7.toNatClampNeg) = l4 → vp_in (((nI 6) * l2) + l7) 36 ∧ (l5 ≤ (mi M 103 ((((nI 6) * l2) + l7).toNatClampNeg)) → Ex (d + 1) m_MM_worthWay bc bs 108 [some (.ref 78), some (.int l1), some (.int l2), some (.int l3), some (.int l4), some (.int l5), some (.int l6), some (.int l7)] [] M Φ) ∧ (¬ l5 ≤ (mi M 103 ((((nI 6) * l2) + l7).toNatClampNeg)) → vp_in (((nI 6) * l2) + l7) 36 ∧ (l7 = l2 → Ex (d + 1) m_MM_worthWay bc bs 49 [some (.ref 78), some (.int l1), some (.int l2), some (.int l3), some (.int l4), some (.int (mi M 103 ((((nI 6) * l2) + l7).toNatClampNeg))), some (.int (l6 + (nI 0))), some (.int (l7 + nI 1))] [] M Φ) ∧ (¬ l7 = l2 → vp_in l7 6 ∧ vp_in l2 6 ∧ (¬ (mi M 109 l7.toNatClampNeg) = (mi M 109 l2.toNatClampNeg) → Ex (d + 1) m_MM_worthWay bc bs 49 [some (.ref 78), some (.int l1), some (.int l2), some (.int l3), some (.int l4), some (.int (mi M 103 ((((nI 6) * l2) + l7).toNatClampNeg))), some (.int (l6 + (nI 0))), some (.int (l7 + nI 1))] [] M Φ) ∧ ((mi M 109 l7.toNatClampNeg) = (mi M 109 l2.toNatClampNeg) → Ex (d + 1) m_MM_worthWay bc bs 49 [some (.ref 78), some (.int l1), some (.int l2), some (.int l3), some (.int l4), some (.int (mi M 103 ((((nI 6) * l2) + l7).toNatClampNeg))), some (.int (l6 + (nI 1))), some (.int (l7 + nI 1))] [] M Φ))))))) : Ex (d + 1) m_MM_worthWay bc bs 49 [some (.ref 78), some (.int l1), some (.int l2), some (.int l3), some (.int l4), some (.int l5), some (.int l6), some (.int l7)] [] M Φ := by
  refine ex_iload (pc := 49) (k := 7) (by decide +kernel) rfl ?_
  refine ex_aload_n (pc := 51) (k := 0) (by decide +kernel) rfl ?_
  refine ey_getI (pc := 52) (v := mi M 78 0) (by decide +kernel) lf_MM_151 (hF.s (j := 78) rfl) rfl ?_
  refine ex_icmp_ge (pc := 55) (off := 95) (tgt := 150) (by decide +kernel) (by decide) (fun hc => ?_) (fun hc => ?_)
  · replace h := h.1 hc
    refine ex_iload_n (pc := 150) (k := 1) (by decide +kernel) rfl ?_
    refine ex_aload_n (pc := 151) (k := 0) (by decide +kernel) rfl ?_
    refine ex_iload_n (pc := 152) (k := 2) (by decide +kernel) rfl ?_
    refine ex_iload_n (pc := 153) (k := 3) (by decide +kernel) rfl ?_
    refine ex_iload (pc := 154) (k := 5) (by decide +kernel) rfl ?_
    refine ex_iload (pc := 156) (k := 6) (by decide +kernel) rfl ?_
    refine ex_callV (pc := 158) (as := [.int l2, .int l3, .int l5, .int l6]) (by decide +kernel) F_MM_keptWorth (in_t6 (i := 229) rfl rfl) (hF.s (j := 78) rfl) rfl (by decide) rfl rfl (Nat.le_of_ble_eq_true rfl) (Nat.lt_succ_self _) ⟨Nat.zero_le _, Nat.zero_le _⟩ (KC_I (Con.mono h ?_))
    intro o M1 ⟨r1, e9, hF1, h⟩
    refine ⟨r1, e9, ?_⟩
    refine ex_iadd (pc := 161) (by decide +kernel) ?_
    refine ex_istore_n (pc := 162) (k := 1) (lo2 := [some (.ref 78), some (.int (l1 + r1)), some (.int l2), some (.int l3), some (.int l4), some (.int l5), some (.int l6), some (.int l7)]) (by decide +kernel) (by decide) rfl ?_
    refine ex_iinc (pc := 163) (i := 2) (k := 1) (v := l2 + nI 1) (lo2 := [some (.ref 78), some (.int (l1 + r1)), some (.int (l2 + nI 1)), some (.int l3), some (.int l4), some (.int l5), some (.int l6), some (.int l7)]) (by decide +kernel) (by decide) rfl rfl rfl ?_
    refine ex_goto (pc := 166) (off := -162) (tgt := 4) (by decide +kernel) (by decide) ?_
    exact Ex.msk [true, true, true, false, false, false, false, false] h
  · replace h := h.2 hc
    refine ex_iload (pc := 58) (k := 7) (by decide +kernel) rfl ?_
    refine ex_iload_n (pc := 60) (k := 2) (by decide +kernel) rfl ?_
    refine ex_icmp_eq (pc := 61) (off := 47) (tgt := 108) (by decide +kernel) (by decide) (fun hc => ?_) (fun hc => ?_)
    · replace h := h.1 hc
      exact h
    · replace h := h.2 hc
      refine ex_aload_n (pc := 64) (k := 0) (by decide +kernel) rfl ?_
      refine ex_getR (pc := 65) (a := 109) (by decide +kernel) lf_MM_131 (hF.s (j := 78) rfl) (hF.r (j := 78) (k := 52) rfl rfl) ?_
      refine ex_iload (pc := 68) (k := 7) (by decide +kernel) rfl ?_
      obtain ⟨g1, h⟩ := h
      refine ey_iald (pc := 70) (v := mi M 109 l7.toNatClampNeg) (by decide +kernel) (hF.s (j := 109) rfl) g1 rfl rfl ?_
      refine ex_iload (pc := 71) (k := 4) (by decide +kernel) rfl ?_
      refine ex_icmp_ne (pc := 73) (off := 35) (tgt := 108) (by decide +kernel) (by decide) (fun hc => ?_) (fun hc => ?_)
      · replace h := h.1 hc
        exact h
      · replace h := h.2 hc
        refine ex_aload_n (pc := 76) (k := 0) (by decide +kernel) rfl ?_
        refine ex_getR (pc := 77) (a := 103) (by decide +kernel) lf_MM_89 (hF.s (j := 78) rfl) (hF.r (j := 78) (k := 39) rfl rfl) ?_
        refine ex_bipush (pc := 80) (k := 6) (v := nI 6) (by decide +kernel) (by decide) ?_
        refine ex_iload_n (pc := 82) (k := 2) (by decide +kernel) rfl ?_
        refine ex_imul (pc := 83) (by decide +kernel) ?_
        refine ex_iload (pc := 84) (k := 7) (by decide +kernel) rfl ?_
        refine ex_iadd (pc := 86) (by decide +kernel) ?_
        obtain ⟨g2, h⟩ := h
        refine ey_iald (pc := 87) (v := mi M 103 ((((nI 6) * l2) + l7).toNatClampNeg)) (by decide +kernel) (hF.s (j := 103) rfl) g2 rfl rfl ?_
        refine ex_iload (pc := 88) (k := 5) (by decide +kernel) rfl ?_
        refine ex_icmp_ge (pc := 90) (off := 18) (tgt := 108) (by decide +kernel) (by decide) (fun hc => ?_) (fun hc => ?_)
        · replace h := h.1 hc
          exact h
        · replace h := h.2 hc
          refine ex_aload_n (pc := 93) (k := 0) (by decide +kernel) rfl ?_
          refine ex_getR (pc := 94) (a := 103) (by decide +kernel) lf_MM_89 (hF.s (j := 78) rfl) (hF.r (j := 78) (k := 39) rfl rfl) ?_
          refine ex_bipush (pc := 97) (k := 6) (v := nI 6) (by decide +kernel) (by decide) ?_
          refine ex_iload_n (pc := 99) (k := 2) (by decide +kernel) rfl ?_
          refine ex_imul (pc := 100) (by decide +kernel) ?_
          refine ex_iload (pc := 101) (k := 7) (by decide +kernel) rfl ?_
          refine ex_iadd (pc := 103) (by decide +kernel) ?_
          obtain ⟨g3, h⟩ := h
          refine ey_iald (pc := 104) (v := mi M 103 ((((nI 6) * l2) + l7).toNatClampNeg)) (by decide +kernel) (hF.s (j := 103) rfl) g3 rfl rfl ?_
          refine ex_goto (pc := 105) (off := 5) (tgt := 110) (by decide +kernel) (by decide) ?_
          refine ex_istore (pc := 110) (k := 5) (lo2 := [some (.ref 78), some (.int l1), some (.int l2), some (.int l3), some (.int l4), some (.int (mi M 103 ((((nI 6) * l2) + l7).toNatClampNeg))), some (.int l6), some (.int l7)]) (by decide +kernel) (by decide) rfl ?_
          refine ex_iload (pc := 112) (k := 6) (by decide +kernel) rfl ?_
          refine ex_iload (pc := 114) (k := 7) (by decide +kernel) rfl ?_
          refine ex_iload_n (pc := 116) (k := 2) (by decide +kernel) rfl ?_
          refine ex_icmp_eq (pc := 117) (off := 23) (tgt := 140) (by decide +kernel) (by decide) (fun hc => ?_) (fun hc => ?_)
          · replace h := h.1 hc
            refine ex_iconst (pc := 140) (k := 0) (v := nI 0) (by decide +kernel) (by decide) ?_
            refine ex_iadd (pc := 141) (by decide +kernel) ?_
            refine ex_istore (pc := 142) (k := 6) (lo2 := [some (.ref 78), some (.int l1), some (.int l2), some (.int l3), some (.int l4), some (.int (mi M 103 ((((nI 6) * l2) + l7).toNatClampNeg))), some (.int (l6 + (nI 0))), some (.int l7)]) (by decide +kernel) (by decide) rfl ?_
            refine ex_iinc (pc := 144) (i := 7) (k := 1) (v := l7 + nI 1) (lo2 := [some (.ref 78), some (.int l1), some (.int l2), some (.int l3), some (.int l4), some (.int (mi M 103 ((((nI 6) * l2) + l7).toNatClampNeg))), some (.int (l6 + (nI 0))), some (.int (l7 + nI 1))]) (by decide +kernel) (by decide) rfl rfl rfl ?_
            refine ex_goto (pc := 147) (off := -98) (tgt := 49) (by decide +kernel) (by decide) ?_
            exact h
          · replace h := h.2 hc
            refine ex_aload_n (pc := 120) (k := 0) (by decide +kernel) rfl ?_
            refine ex_getR (pc := 121) (a := 109) (by decide +kernel) lf_MM_131 (hF.s (j := 78) rfl) (hF.r (j := 78) (k := 52) rfl rfl) ?_
            refine ex_iload (pc := 124) (k := 7) (by decide +kernel) rfl ?_
            obtain ⟨g4, h⟩ := h
            refine ey_iald (pc := 126) (v := mi M 109 l7.toNatClampNeg) (by decide +kernel) (hF.s (j := 109) rfl) g4 rfl rfl ?_
            refine ex_aload_n (pc := 127) (k := 0) (by decide +kernel) rfl ?_
            refine ex_getR (pc := 128) (a := 109) (by decide +kernel) lf_MM_131 (hF.s (j := 78) rfl) (hF.r (j := 78) (k := 52) rfl rfl) ?_
            refine ex_iload_n (pc := 131) (k := 2) (by decide +kernel) rfl ?_
            obtain ⟨g5, h⟩ := h
            refine ey_iald (pc := 132) (v := mi M 109 l2.toNatClampNeg) (by decide +kernel) (hF.s (j := 109) rfl) g5 rfl rfl ?_
            refine ex_icmp_ne (pc := 133) (off := 7) (tgt := 140) (by decide +kernel) (by decide) (fun hc => ?_) (fun hc => ?_)
            · replace h := h.1 hc
              refine ex_iconst (pc := 140) (k := 0) (v := nI 0) (by decide +kernel) (by decide) ?_
              refine ex_iadd (pc := 141) (by decide +kernel) ?_
              refine ex_istore (pc := 142) (k := 6) (lo2 := [some (.ref 78), some (.int l1), some (.int l2), some (.int l3), some (.int l4), some (.int (mi M 103 ((((nI 6) * l2) + l7).toNatClampNeg))), some (.int (l6 + (nI 0))), some (.int l7)]) (by decide +kernel) (by decide) rfl ?_
              refine ex_iinc (pc := 144) (i := 7) (k := 1) (v := l7 + nI 1) (lo2 := [some (.ref 78), some (.int l1), some (.int l2), some (.int l3), some (.int l4), some (.int (mi M 103 ((((nI 6) * l2) + l7).toNatClampNeg))), some (.int (l6 + (nI 0))), some (.int (l7 + nI 1))]) (by decide +kernel) (by decide) rfl rfl rfl ?_
              refine ex_goto (pc := 147) (off := -98) (tgt := 49) (by decide +kernel) (by decide) ?_
              exact h
            · replace h := h.2 hc
              refine ex_iconst (pc := 136) (k := 1) (v := nI 1) (by decide +kernel) (by decide) ?_
              refine ex_goto (pc := 137) (off := 4) (tgt := 141) (by decide +kernel) (by decide) ?_
              refine ex_iadd (pc := 141) (by decide +kernel) ?_
              refine ex_istore (pc := 142) (k := 6) (lo2 := [some (.ref 78), some (.int l1), some (.int l2), some (.int l3), some (.int l4), some (.int (mi M 103 ((((nI 6) * l2) + l7).toNatClampNeg))), some (.int (l6 + (nI 1))), some (.int l7)]) (by decide +kernel) (by decide) rfl ?_
              refine ex_iinc (pc := 144) (i := 7) (k := 1) (v := l7 + nI 1) (lo2 := [some (.ref 78), some (.int l1), some (.int l2), some (.int l3), some (.int l4), some (.int (mi M 103 ((((nI 6) * l2) + l7).toNatClampNeg))), some (.int (l6 + (nI 1))), some (.int (l7 + nI 1))]) (by decide +kernel) (by decide) rfl rfl rfl ?_
              refine ex_goto (pc := 147) (off := -98) (tgt := 49) (by decide +kernel) (by decide) ?_
              exact h
theorem k_MM_worthWay_108 {d bc bs : Nat} {l1 : Int32} {l2 : Int32} {l3 : Int32} {l4 : Int32} {l5 : Int32} {l6 : Int32} {l7 : Int32} {M : Mem} {Φ : Option Value → Mem → Prop} (hF : Fm M) (h : (l7 = l2 → Ex (d + 1) m_MM_worthWay bc bs 49 [some (.ref 78), some (.int l1), some (.int l2), some (.int l3), some (.int l4), some (.int l5), some (.int (l6 + (nI 0))), some (.int (l7 + nI 1))] [] M Φ) ∧ (¬ l7 = l2 → vp_in l7 6 ∧ vp_in l2 6 ∧ (¬ (mi M 109 l7.toNatClampNeg) = (mi M 109 l2.toNatClampNeg) → Ex (d + 1) m_MM_worthWay bc bs 49 [some (.ref 78), some (.int l1), some (.int l2), some (.int l3), some (.int l4), some (.int l5), some (.int (l6 + (nI 0))), some (.int (l7 + nI 1))] [] M Φ) ∧ ((mi M 109 l7.toNatClampNeg) = (mi M 109 l2.toNatClampNeg) → Ex (d + 1) m_MM_worthWay bc bs 49 [some (.ref 78), some (.int l1), some (.int l2), some (.int l3), some (.int l4), some (.int l5), some (.int (l6 + (nI 1))), some (.int (l7 + nI 1))] [] M Φ))) : Ex (d + 1) m_MM_worthWay bc bs 108 [some (.ref 78), some (.int l1), some (.int l2), some (.int l3), some (.int l4), some (.int l5), some (.int l6), some (.int l7)] [] M Φ := by
  refine ex_iload (pc := 108) (k := 5) (by decide +kernel) rfl ?_
  refine ex_istore (pc := 110) (k := 5) (lo2 := [some (.ref 78), some (.int l1), some (.int l2), some (.int l3), some (.int l4), some (.int l5), some (.int l6), some (.int l7)]) (by decide +kernel) (by decide) rfl ?_
  refine ex_iload (pc := 112) (k := 6) (by decide +kernel) rfl ?_
  refine ex_iload (pc := 114) (k := 7) (by decide +kernel) rfl ?_
  refine ex_iload_n (pc := 116) (k := 2) (by decide +kernel) rfl ?_
  refine ex_icmp_eq (pc := 117) (off := 23) (tgt := 140) (by decide +kernel) (by decide) (fun hc => ?_) (fun hc => ?_)
  · replace h := h.1 hc
    refine ex_iconst (pc := 140) (k := 0) (v := nI 0) (by decide +kernel) (by decide) ?_
    refine ex_iadd (pc := 141) (by decide +kernel) ?_
    refine ex_istore (pc := 142) (k := 6) (lo2 := [some (.ref 78), some (.int l1), some (.int l2), some (.int l3), some (.int l4), some (.int l5), some (.int (l6 + (nI 0))), some (.int l7)]) (by decide +kernel) (by decide) rfl ?_
    refine ex_iinc (pc := 144) (i := 7) (k := 1) (v := l7 + nI 1) (lo2 := [some (.ref 78), some (.int l1), some (.int l2), some (.int l3), some (.int l4), some (.int l5), some (.int (l6 + (nI 0))), some (.int (l7 + nI 1))]) (by decide +kernel) (by decide) rfl rfl rfl ?_
    refine ex_goto (pc := 147) (off := -98) (tgt := 49) (by decide +kernel) (by decide) ?_
    exact h
  · replace h := h.2 hc
    refine ex_aload_n (pc := 120) (k := 0) (by decide +kernel) rfl ?_
    refine ex_getR (pc := 121) (a := 109) (by decide +kernel) lf_MM_131 (hF.s (j := 78) rfl) (hF.r (j := 78) (k := 52) rfl rfl) ?_
    refine ex_iload (pc := 124) (k := 7) (by decide +kernel) rfl ?_
    obtain ⟨g1, h⟩ := h
    refine ey_iald (pc := 126) (v := mi M 109 l7.toNatClampNeg) (by decide +kernel) (hF.s (j := 109) rfl) g1 rfl rfl ?_
    refine ex_aload_n (pc := 127) (k := 0) (by decide +kernel) rfl ?_
    refine ex_getR (pc := 128) (a := 109) (by decide +kernel) lf_MM_131 (hF.s (j := 78) rfl) (hF.r (j := 78) (k := 52) rfl rfl) ?_
    refine ex_iload_n (pc := 131) (k := 2) (by decide +kernel) rfl ?_
    obtain ⟨g2, h⟩ := h
    refine ey_iald (pc := 132) (v := mi M 109 l2.toNatClampNeg) (by decide +kernel) (hF.s (j := 109) rfl) g2 rfl rfl ?_
    refine ex_icmp_ne (pc := 133) (off := 7) (tgt := 140) (by decide +kernel) (by decide) (fun hc => ?_) (fun hc => ?_)
    · replace h := h.1 hc
      refine ex_iconst (pc := 140) (k := 0) (v := nI 0) (by decide +kernel) (by decide) ?_
      refine ex_iadd (pc := 141) (by decide +kernel) ?_
      refine ex_istore (pc := 142) (k := 6) (lo2 := [some (.ref 78), some (.int l1), some (.int l2), some (.int l3), some (.int l4), some (.int l5), some (.int (l6 + (nI 0))), some (.int l7)]) (by decide +kernel) (by decide) rfl ?_
      refine ex_iinc (pc := 144) (i := 7) (k := 1) (v := l7 + nI 1) (lo2 := [some (.ref 78), some (.int l1), some (.int l2), some (.int l3), some (.int l4), some (.int l5), some (.int (l6 + (nI 0))), some (.int (l7 + nI 1))]) (by decide +kernel) (by decide) rfl rfl rfl ?_
      refine ex_goto (pc := 147) (off := -98) (tgt := 49) (by decide +kernel) (by decide) ?_
      exact h
    · replace h := h.2 hc
      refine ex_iconst (pc := 136) (k := 1) (v := nI 1) (by decide +kernel) (by decide) ?_
      refine ex_goto (pc := 137) (off := 4) (tgt := 141) (by decide +kernel) (by decide) ?_
      refine ex_iadd (pc := 141) (by decide +kernel) ?_
      refine ex_istore (pc := 142) (k := 6) (lo2 := [some (.ref 78), some (.int l1), some (.int l2), some (.int l3), some (.int l4), some (.int l5), some (.int (l6 + (nI 1))), some (.int l7)]) (by decide +kernel) (by decide) rfl ?_
      refine ex_iinc (pc := 144) (i := 7) (k := 1) (v := l7 + nI 1) (lo2 := [some (.ref 78), some (.int l1), some (.int l2), some (.int l3), some (.int l4), some (.int l5), some (.int (l6 + (nI 1))), some (.int (l7 + nI 1))]) (by decide +kernel) (by decide) rfl rfl rfl ?_
      refine ex_goto (pc := 147) (off := -98) (tgt := 49) (by decide +kernel) (by decide) ?_
      exact h
theorem k_MM_keeps_0 {d bc bs : Nat}  {M : Mem} {Φ : Option Value → Mem → Prop} (hF : Fm M) (h : Ex (d + 1) m_MM_keeps bc bs 15 [some (.ref 78), some (.int (nI 0))] [] (wi (wi M 78 20 (nI 1)) 78 21 (mi M 78 0)) Φ) : Ex (d + 1) m_MM_keeps bc bs 0 [some (.ref 78), none] [] M Φ := by
  refine ex_aload_n (pc := 0) (k := 0) (by decide +kernel) rfl ?_
  refine ex_iconst (pc := 1) (k := 1) (v := nI 1) (by decide +kernel) (by decide) ?_
  refine ex_putI (pc := 2) (index := 313) (ci := 11) (k := 20) (fin := false) (by decide +kernel) ⟨_, _, _, _, cf_MM, by decide, in_t5 (i := 96) rfl rfl, rfl, (fun h => by cases h), by decide, rfl⟩ rfl (fun h => by cases h) (hF.s (j := 78) rfl) ?_
  refine ex_aload_n (pc := 5) (k := 0) (by decide +kernel) rfl ?_
  refine ex_aload_n (pc := 6) (k := 0) (by decide +kernel) rfl ?_
  refine ey_getI (pc := 7) (v := mi M 78 0) (by decide +kernel) lf_MM_151 (hF.s (j := 78) rfl) rfl ?_
  refine ex_putI (pc := 10) (index := 317) (ci := 11) (k := 21) (fin := false) (by decide +kernel) ⟨_, _, _, _, cf_MM, by decide, in_t5 (i := 97) rfl rfl, rfl, (fun h => by cases h), rfl, rfl⟩ rfl (fun h => by cases h) (hF.s (j := 78) rfl) ?_
  refine ex_iconst (pc := 13) (k := 0) (v := nI 0) (by decide +kernel) (by decide) ?_
  refine ex_istore_n (pc := 14) (k := 1) (lo2 := [some (.ref 78), some (.int (nI 0))]) (by decide +kernel) (by decide) rfl ?_
  exact h
theorem k_MM_keeps_15 {d bc bs : Nat} {l1 : Int32} {M : Mem} {Φ : Option Value → Mem → Prop} (hF : Fm M) (h : ((mi M 78 0) ≤ l1 → Φ none M) ∧ (¬ (mi M 78 0) ≤ l1 → vp_in l1 6 ∧ Con d m_MM_dayIn 0 0 [.int (mi M 109 l1.toNatClampNeg)] M (PI fun r1 M1 => Fm M1 ∧ vp_in l1 6 ∧ Ex (d + 1) m_MM_keeps bc bs 15 [some (.ref 78), some (.int (l1 + nI 1))] [] (wi M1 92 l1.toNatClampNeg r1) Φ))) : Ex (d + 1) m_MM_keeps bc bs 15 [some (.ref 78), some (.int l1)] [] M Φ := by
  refine ex_iload_n (pc := 15) (k := 1) (by decide +kernel) rfl ?_
  refine ex_aload_n (pc := 16) (k := 0) (by decide +kernel) rfl ?_
  refine ey_getI (pc := 17) (v := mi M 78 0) (by decide +kernel) lf_MM_151 (hF.s (j := 78) rfl) rfl ?_
  refine ex_icmp_ge (pc := 20) (off := 24) (tgt := 44) (by decide +kernel) (by decide) (fun hc => ?_) (fun hc => ?_)
  · replace h := h.1 hc
    exact ex_return (pc := 44) (by decide +kernel) rfl h
  · replace h := h.2 hc
    refine ex_aload_n (pc := 23) (k := 0) (by decide +kernel) rfl ?_
    refine ex_getR (pc := 24) (a := 92) (by decide +kernel) lf_MM_56 (hF.s (j := 78) rfl) (hF.r (j := 78) (k := 22) rfl rfl) ?_
    refine ex_iload_n (pc := 27) (k := 1) (by decide +kernel) rfl ?_
    refine ex_aload_n (pc := 28) (k := 0) (by decide +kernel) rfl ?_
    refine ex_getR (pc := 29) (a := 109) (by decide +kernel) lf_MM_131 (hF.s (j := 78) rfl) (hF.r (j := 78) (k := 52) rfl rfl) ?_
    refine ex_iload_n (pc := 32) (k := 1) (by decide +kernel) rfl ?_
    obtain ⟨g1, h⟩ := h
    refine ey_iald (pc := 33) (v := mi M 109 l1.toNatClampNeg) (by decide +kernel) (hF.s (j := 109) rfl) g1 rfl rfl ?_
    refine ex_callS (pc := 34) (as := [.int (mi M 109 l1.toNatClampNeg)]) (by decide +kernel) F_MM_dayIn (in_t6 (i := 226) rfl rfl) rfl rfl (Nat.le_of_ble_eq_true rfl) (Nat.lt_succ_self _) ⟨Nat.zero_le _, Nat.zero_le _⟩ (KC_I (Con.mono h ?_))
    intro o M1 ⟨r1, e9, hF1, h⟩
    refine ⟨r1, e9, ?_⟩
    obtain ⟨g2, h⟩ := h
    refine ey_iast (pc := 37) (by decide +kernel) (hF1.s (j := 92) rfl) g2 rfl ?_
    refine ex_iinc (pc := 38) (i := 1) (k := 1) (v := l1 + nI 1) (lo2 := [some (.ref 78), some (.int (l1 + nI 1))]) (by decide +kernel) (by decide) rfl rfl rfl ?_
    refine ex_goto (pc := 41) (off := -26) (tgt := 15) (by decide +kernel) (by decide) ?_
    exact h
theorem k_MM_find_0 {d bc bs : Nat} {l1 : Int32} {l2 : Int32} {M : Mem} {Φ : Option Value → Mem → Prop} (hF : Fm M) (h : Con d m_MM_in 0 0 [.int l1, .int (nI 1), .int (nI 3)] M (PB fun r1 M1 => Fm M1 ∧ (r1 = false → Φ (some (.long (-4611686018427387904))) M1) ∧ (r1 = true → (¬ l1 = (nI 3) → Ex (d + 1) m_MM_find bc bs 26 [some (.ref 78), some (.int l1), some (.int l2), none, none, none] [] M1 Φ) ∧ (l1 = (nI 3) → Con d m_MM_isGiving 0 0 [.ref 78, .int l2] M1 (PB fun r2 M2 => Fm M2 ∧ (r2 = true → Ex (d + 1) m_MM_find bc bs 26 [some (.ref 78), some (.int l1), some (.int l2), none, none, none] [] M2 Φ) ∧ (r2 = false → Φ (some (.long (-4611686018427387904))) M2)))))) : Ex (d + 1) m_MM_find bc bs 0 [some (.ref 78), some (.int l1), some (.int l2), none, none, none] [] M Φ := by
  refine ex_iload_n (pc := 0) (k := 1) (by decide +kernel) rfl ?_
  refine ex_iconst (pc := 1) (k := 1) (v := nI 1) (by decide +kernel) (by decide) ?_
  refine ex_iconst (pc := 2) (k := 3) (v := nI 3) (by decide +kernel) (by decide) ?_
  refine ex_callS (pc := 3) (as := [.int l1, .int (nI 1), .int (nI 3)]) (by decide +kernel) F_MM_in (in_t6 (i := 11) rfl rfl) rfl rfl (Nat.le_of_ble_eq_true rfl) (Nat.lt_succ_self _) ⟨Nat.zero_le _, Nat.zero_le _⟩ (KC_B (Con.mono h ?_))
  intro o M1 ⟨r1, e9, hF1, h⟩
  refine ⟨r1, e9, ?_⟩
  refine ey_ifeqB (pc := 6) (off := 16) (tgt := 22) (by decide +kernel) (by decide) (fun hc => ?_) (fun hc => ?_)
  · replace h := h.1 hc
    refine ex_ldc2 (pc := 22) (v := -4611686018427387904) (by decide +kernel) (in_t6 (i := 106) rfl rfl) ?_
    exact ex_lreturn (pc := 25) (by decide +kernel) rfl h
  · replace h := h.2 hc
    refine ex_iload_n (pc := 9) (k := 1) (by decide +kernel) rfl ?_
    refine ex_iconst (pc := 10) (k := 3) (v := nI 3) (by decide +kernel) (by decide) ?_
    refine ex_icmp_ne (pc := 11) (off := 15) (tgt := 26) (by decide +kernel) (by decide) (fun hc => ?_) (fun hc => ?_)
    · replace h := h.1 hc
      exact h
    · replace h := h.2 hc
      refine ex_aload_n (pc := 14) (k := 0) (by decide +kernel) rfl ?_
      refine ex_iload_n (pc := 15) (k := 2) (by decide +kernel) rfl ?_
      refine ex_callV (pc := 16) (as := [.int l2]) (by decide +kernel) F_MM_isGiving (in_t6 (i := 142) rfl rfl) (hF1.s (j := 78) rfl) rfl (by decide) rfl rfl (Nat.le_of_ble_eq_true rfl) (Nat.lt_succ_self _) ⟨Nat.zero_le _, Nat.zero_le _⟩ (KC_B (Con.mono h ?_))
      intro o M2 ⟨r2, e9, hF2, h⟩
      refine ⟨r2, e9, ?_⟩
      refine ey_ifneB (pc := 19) (off := 7) (tgt := 26) (by decide +kernel) (by decide) (fun hc => ?_) (fun hc => ?_)
      · replace h := h.1 hc
        exact h
      · replace h := h.2 hc
        refine ex_ldc2 (pc := 22) (v := -4611686018427387904) (by decide +kernel) (in_t6 (i := 106) rfl rfl) ?_
        exact ex_lreturn (pc := 25) (by decide +kernel) rfl h
theorem k_MM_find_26 {d bc bs : Nat} {l1 : Int32} {l2 : Int32} {M : Mem} {Φ : Option Value → Mem → Prop} (hF : Fm M) (h : Con d m_MM_looks 0 0 [.ref 78] M (PV fun M1 => Fm M1 ∧ Ex (d + 1) m_MM_find bc bs 37 [some (.ref 78), some (.int l1), some (.int l2), some (.int (nI 0)), none, none] [] (wi M1 78 20 (nI 0)) Φ)) : Ex (d + 1) m_MM_find bc bs 26 [some (.ref 78), some (.int l1), some (.int l2), none, none, none] [] M Φ := by
  refine ex_aload_n (pc := 26) (k := 0) (by decide +kernel) rfl ?_
  refine ex_callV (pc := 27) (as := []) (by decide +kernel) F_MM_looks (in_t6 (i := 158) rfl rfl) (hF.s (j := 78) rfl) rfl (by decide) rfl rfl (Nat.le_of_ble_eq_true rfl) (Nat.lt_succ_self _) ⟨Nat.zero_le _, Nat.zero_le _⟩ (KC_V (Con.mono h ?_))
  intro o M1 ⟨e9, hF1, h⟩
  refine ⟨e9, ?_⟩
  refine ex_aload_n (pc := 30) (k := 0) (by decide +kernel) rfl ?_
  refine ex_iconst (pc := 31) (k := 0) (v := nI 0) (by decide +kernel) (by decide) ?_
  refine ex_putI (pc := 32) (index := 313) (ci := 11) (k := 20) (fin := false) (by decide +kernel) ⟨_, _, _, _, cf_MM, by decide, in_t5 (i := 96) rfl rfl, rfl, (fun h => by cases h), by decide, rfl⟩ rfl (fun h => by cases h) (hF1.s (j := 78) rfl) ?_
  refine ex_iconst (pc := 35) (k := 0) (v := nI 0) (by decide +kernel) (by decide) ?_
  refine ex_istore_n (pc := 36) (k := 3) (lo2 := [some (.ref 78), some (.int l1), some (.int l2), some (.int (nI 0)), none, none]) (by decide +kernel) (by decide) rfl ?_
  exact h
theorem k_MM_find_37 {d bc bs : Nat} {l1 : Int32} {l2 : Int32} {l3 : Int32} {M : Mem} {Φ : Option Value → Mem → Prop} (hF : Fm M) (h : ((nI 29400) ≤ l3 → Ex (d + 1) m_MM_find bc bs 62 [some (.ref 78), some (.int l1), some (.int l2), some (.int l3), none, none] [] M Φ) ∧ (¬ (nI 29400) ≤ l3 → (¬ l1 = (nI 2) → Ex (d + 1) m_MM_find bc bs 62 [some (.ref 78), some (.int l1), some (.int l2), some (.int l3), none, none] [] M Φ) ∧ (l1 = (nI 2) → vp_in l3 29400 ∧ Ex (d + 1) m_MM_find bc bs 37 [some (.ref 78), some (.int l1), some (.int l2), some (.int (l3 + nI 1)), none, none] [] (wi M 111 l3.toNatClampNeg (nI 0)) Φ))) : Ex (d + 1) m_MM_find bc bs 37 [some (.ref 78), some (.int l1), some (.int l2), some (.int l3), none, none] [] M Φ := by
  refine ex_iload_n (pc := 37) (k := 3) (by decide +kernel) rfl ?_
  refine ex_sipush (pc := 38) (k := 29400) (v := nI 29400) (by decide +kernel) (by decide) ?_
  refine ex_icmp_ge (pc := 41) (off := 21) (tgt := 62) (by decide +kernel) (by decide) (fun hc => ?_) (fun hc => ?_)
  · replace h := h.1 hc
    exact h
  · replace h := h.2 hc
    refine ex_iload_n (pc := 44) (k := 1) (by decide +kernel) rfl ?_
    refine ex_iconst (pc := 45) (k := 2) (v := nI 2) (by decide +kernel) (by decide) ?_
    refine ex_icmp_ne (pc := 46) (off := 16) (tgt := 62) (by decide +kernel) (by decide) (fun hc => ?_) (fun hc => ?_)
    · replace h := h.1 hc
      exact h
    · replace h := h.2 hc
      refine ex_aload_n (pc := 49) (k := 0) (by decide +kernel) rfl ?_
      refine ex_getR (pc := 50) (a := 111) (by decide +kernel) lf_MM_137 (hF.s (j := 78) rfl) (hF.r (j := 78) (k := 54) rfl rfl) ?_
      refine ex_iload_n (pc := 53) (k := 3) (by decide +kernel) rfl ?_
      refine ex_iconst (pc := 54) (k := 0) (v := nI 0) (by decide +kernel) (by decide) ?_
      obtain ⟨g1, h⟩ := h
      refine ey_zast (pc := 55) (by decide +kernel) (hF.s (j := 111) rfl) g1 rfl (by decide) ?_
      refine ex_iinc (pc := 56) (i := 3) (k := 1) (v := l3 + nI 1) (lo2 := [some (.ref 78), some (.int l1), some (.int l2), some (.int (l3 + nI 1)), none, none]) (by decide +kernel) (by decide) rfl rfl rfl ?_
      refine ex_goto (pc := 59) (off := -22) (tgt := 37) (by decide +kernel) (by decide) ?_
      exact h
theorem k_MM_find_62 {d bc bs : Nat} {l1 : Int32} {l2 : Int32} {l3 : Int32} {M : Mem} {Φ : Option Value → Mem → Prop} (hF : Fm M) (h : Con d m_MM_all 0 0 [.ref 78] M (PI fun r1 M1 => Fm M1 ∧ Con d m_MM_nextWay 0 0 [.ref 78, .int r1, .int (nI 1)] M1 (PB fun r2 M2 => Fm M2 ∧ Ex (d + 1) m_MM_find bc bs 75 [some (.ref 78), some (.int l1), some (.int l2), some (.int (nI 0)), some (.int (b2i r2)), none] [] M2 Φ))) : Ex (d + 1) m_MM_find bc bs 62 [some (.ref 78), some (.int l1), some (.int l2), some (.int l3), none, none] [] M Φ := by
  refine ex_iconst (pc := 62) (k := 0) (v := nI 0) (by decide +kernel) (by decide) ?_
  refine ex_istore_n (pc := 63) (k := 3) (lo2 := [some (.ref 78), some (.int l1), some (.int l2), some (.int (nI 0)), none, none]) (by decide +kernel) (by decide) rfl ?_
  refine ex_aload_n (pc := 64) (k := 0) (by decide +kernel) rfl ?_
  refine ex_aload_n (pc := 65) (k := 0) (by decide +kernel) rfl ?_
  refine ex_callV (pc := 66) (as := []) (by decide +kernel) F_MM_all (in_t6 (i := 206) rfl rfl) (hF.s (j := 78) rfl) rfl (by decide) rfl rfl (Nat.le_of_ble_eq_true rfl) (Nat.lt_succ_self _) ⟨Nat.zero_le _, Nat.zero_le _⟩ (KC_I (Con.mono h ?_))
  intro o M1 ⟨r1, e9, hF1, h⟩
  refine ⟨r1, e9, ?_⟩
  refine ex_iconst (pc := 69) (k := 1) (v := nI 1) (by decide +kernel) (by decide) ?_
  refine ex_callV (pc := 70) (as := [.int r1, .int (nI 1)]) (by decide +kernel) F_MM_nextWay (in_t6 (i := 210) rfl rfl) (hF1.s (j := 78) rfl) rfl (by decide) rfl rfl (Nat.le_of_ble_eq_true rfl) (Nat.lt_succ_self _) ⟨Nat.zero_le _, Nat.zero_le _⟩ (KC_B (Con.mono h ?_))
  intro o M2 ⟨r2, e9, hF2, h⟩
  refine ⟨r2, e9, ?_⟩
  refine ex_istore (pc := 73) (k := 4) (lo2 := [some (.ref 78), some (.int l1), some (.int l2), some (.int (nI 0)), some (.int (b2i r2)), none]) (by decide +kernel) (by decide) rfl ?_
  exact h
theorem k_MM_find_75 {d bc bs : Nat} {l1 : Int32} {l2 : Int32} {l3 : Int32} {l4 : Int32} {M : Mem} {Φ : Option Value → Mem → Prop} (hF : Fm M) (h : (l4 = 0 → ((mi M 78 20) = 0 → Φ (some (.long (-4611686018427387903))) M) ∧ (¬ (mi M 78 20) = 0 → Φ (some (.long (Int32.toInt64 l3))) M)) ∧ (¬ l4 = 0 → (¬ l1 = (nI 1) → (¬ l1 = (nI 2) → Con d m_MM_others 0 0 [.ref 78, .int l2] M (PI fun r1 M1 => Fm M1 ∧ ((mi M1 78 20) = 0 → Ex (d + 1) m_MM_find bc bs 137 [some (.ref 78), some (.int l1), some (.int l2), some (.int l3), some (.int l4), some (.int r1)] [] M1 Φ) ∧ (¬ (mi M1 78 20) = 0 → (¬ l1 = (nI 2) → Ex (d + 1) m_MM_find bc bs 126 [some (.ref 78), some (.int l1), some (.int l2), some (.int l3), some (.int l4), some (.int r1)] [] M1 Φ) ∧ (l1 = (nI 2) → (l3 < r1 → Ex (d + 1) m_MM_find bc bs 137 [some (.ref 78), some (.int l1), some (.int l2), some (.int l3), some (.int l4), some (.int r1)] [] M1 Φ) ∧ (¬ l3 < r1 → Ex (d + 1) m_MM_find bc bs 126 [some (.ref 78), some (.int l1), some (.int l2), some (.int l3), some (.int l4), some (.int r1)] [] M1 Φ))))) ∧ (l1 = (nI 2) → Con d m_MM_worthWay 0 0 [.ref 78] M (PI fun r2 M2 => Fm M2 ∧ ((mi M2 78 20) = 0 → Ex (d + 1) m_MM_find bc bs 137 [some (.ref 78), some (.int l1), some (.int l2), some (.int l3), some (.int l4), some (.int r2)] [] M2 Φ) ∧ (¬ (mi M2 78 20) = 0 → (¬ l1 = (nI 2) → Ex (d + 1) m_MM_find bc bs 126 [some (.ref 78), some (.int l1), some (.int l2), some (.int l3), some (.int l4), some (.int r2)] [] M2 Φ) ∧ (l1 = (nI 2) → (l3 < r2 → Ex (d + 1) m_MM_find bc bs 137 [some (.ref 78), some (.int l1), some (.int l2), some (.int l3), some (.int l4), some (.int r2)] [] M2 Φ) ∧ (¬ l3 < r2 → Ex (d + 1) m_MM_find bc bs 126 [some (.ref 78), some (.int l1), some (.int l2), some (.int l3), some (.int l4), some (.int r2)] [] M2 Φ)))))) ∧ (l1 = (nI 1) → ((mi M 78 20) = 0 → Ex (d + 1) m_MM_find bc bs 137 [some (.ref 78), some (.int l1), some (.int l2), some (.int l3), some (.int l4), some (.int (nI 1))] [] M Φ) ∧ (¬ (mi M 78 20) = 0 → (¬ l1 = (nI 2) → Ex (d + 1) m_MM_find bc bs 126 [some (.ref 78), some (.int l1), some (.int l2), some (.int l3), some (.int l4), some (.int (nI 1))] [] M Φ) ∧ (l1 = (nI 2) → (l3 < (nI 1) → Ex (d + 1) m_MM_find bc bs 137 [some (.ref 78), some (.int l1), some (.int l2), some (.int l3), some (.int l4), some (.int (nI 1))] [] M Φ) ∧ (¬ l3 < (nI 1) → Ex (d + 1) m_MM_find bc bs 126 [some (.ref 78), some (.int l1), some (.int l2), some (.int l3), some (.int l4), some (.int (nI 1))] [] M Φ)))))) : Ex (d + 1) m_MM_find bc bs 75 [some (.ref 78), some (.int l1), some (.int l2), some (.int l3), some (.int l4), none] [] M Φ := by
  refine ex_iload (pc := 75) (k := 4) (by decide +kernel) rfl ?_
  refine ex_if_eq (pc := 77) (off := 94) (tgt := 171) (by decide +kernel) (by decide) (fun hc => ?_) (fun hc => ?_)
  · replace h := h.1 hc
    refine ex_aload_n (pc := 171) (k := 0) (by decide +kernel) rfl ?_
    refine ey_getI (pc := 172) (v := mi M 78 20) (by decide +kernel) lf_MM_313 (hF.s (j := 78) rfl) rfl ?_
    refine ex_if_eq (pc := 175) (off := 8) (tgt := 183) (by decide +kernel) (by decide) (fun hc => ?_) (fun hc => ?_)
    · replace h := h.1 hc
      refine ex_ldc2 (pc := 183) (v := -4611686018427387903) (by decide +kernel) (in_t7 (i := 1) rfl rfl) ?_
      exact ex_lreturn (pc := 186) (by decide +kernel) rfl h
    · replace h := h.2 hc
      refine ex_iload_n (pc := 178) (k := 3) (by decide +kernel) rfl ?_
      refine ex_i2l (pc := 179) (by decide +kernel) ?_
      refine ex_goto (pc := 180) (off := 6) (tgt := 186) (by decide +kernel) (by decide) ?_
      exact ex_lreturn (pc := 186) (by decide +kernel) rfl h
  · replace h := h.2 hc
    refine ex_iload_n (pc := 80) (k := 1) (by decide +kernel) rfl ?_
    refine ex_iconst (pc := 81) (k := 1) (v := nI 1) (by decide +kernel) (by decide) ?_
    refine ex_icmp_ne (pc := 82) (off := 7) (tgt := 89) (by decide +kernel) (by decide) (fun hc => ?_) (fun hc => ?_)
    · replace h := h.1 hc
      refine ex_iload_n (pc := 89) (k := 1) (by decide +kernel) rfl ?_
      refine ex_iconst (pc := 90) (k := 2) (v := nI 2) (by decide +kernel) (by decide) ?_
      refine ex_icmp_ne (pc := 91) (off := 10) (tgt := 101) (by decide +kernel) (by decide) (fun hc => ?_) (fun hc => ?_)
      · replace h := h.1 hc
        refine ex_aload_n (pc := 101) (k := 0) (by decide +kernel) rfl ?_
        refine ex_iload_n (pc := 102) (k := 2) (by decide +kernel) rfl ?_
        refine ex_callV (pc := 103) (as := [.int l2]) (by decide +kernel) F_MM_others (in_t6 (i := 233) rfl rfl) (hF.s (j := 78) rfl) rfl (by decide) rfl rfl (Nat.le_of_ble_eq_true rfl) (Nat.lt_succ_self _) ⟨Nat.zero_le _, Nat.zero_le _⟩ (KC_I (Con.mono h ?_))
        intro o M1 ⟨r1, e9, hF1, h⟩
        refine ⟨r1, e9, ?_⟩
        refine ex_istore (pc := 106) (k := 5) (lo2 := [some (.ref 78), some (.int l1), some (.int l2), some (.int l3), some (.int l4), some (.int r1)]) (by decide +kernel) (by decide) rfl ?_
        refine ex_aload_n (pc := 108) (k := 0) (by decide +kernel) rfl ?_
        refine ey_getI (pc := 109) (v := mi M1 78 20) (by decide +kernel) lf_MM_313 (hF1.s (j := 78) rfl) rfl ?_
        refine ex_if_eq (pc := 112) (off := 25) (tgt := 137) (by decide +kernel) (by decide) (fun hc => ?_) (fun hc => ?_)
        · replace h := h.1 hc
          exact h
        · replace h := h.2 hc
          refine ex_iload_n (pc := 115) (k := 1) (by decide +kernel) rfl ?_
          refine ex_iconst (pc := 116) (k := 2) (v := nI 2) (by decide +kernel) (by decide) ?_
          refine ex_icmp_ne (pc := 117) (off := 9) (tgt := 126) (by decide +kernel) (by decide) (fun hc => ?_) (fun hc => ?_)
          · replace h := h.1 hc
            exact h
          · replace h := h.2 hc
            refine ex_iload (pc := 120) (k := 5) (by decide +kernel) rfl ?_
            refine ex_iload_n (pc := 122) (k := 3) (by decide +kernel) rfl ?_
            refine ex_icmp_gt (pc := 123) (off := 14) (tgt := 137) (by decide +kernel) (by decide) (fun hc => ?_) (fun hc => ?_)
            · replace h := h.1 hc
              exact h
            · replace h := h.2 hc
              exact h
      · replace h := h.2 hc
        refine ex_aload_n (pc := 94) (k := 0) (by decide +kernel) rfl ?_
        refine ex_callV (pc := 95) (as := []) (by decide +kernel) F_MM_worthWay (in_t6 (i := 222) rfl rfl) (hF.s (j := 78) rfl) rfl (by decide) rfl rfl (Nat.le_of_ble_eq_true rfl) (Nat.lt_succ_self _) ⟨Nat.zero_le _, Nat.zero_le _⟩ (KC_I (Con.mono h ?_))
        intro o M2 ⟨r2, e9, hF2, h⟩
        refine ⟨r2, e9, ?_⟩
        refine ex_goto (pc := 98) (off := 8) (tgt := 106) (by decide +kernel) (by decide) ?_
        refine ex_istore (pc := 106) (k := 5) (lo2 := [some (.ref 78), some (.int l1), some (.int l2), some (.int l3), some (.int l4), some (.int r2)]) (by decide +kernel) (by decide) rfl ?_
        refine ex_aload_n (pc := 108) (k := 0) (by decide +kernel) rfl ?_
        refine ey_getI (pc := 109) (v := mi M2 78 20) (by decide +kernel) lf_MM_313 (hF2.s (j := 78) rfl) rfl ?_
        refine ex_if_eq (pc := 112) (off := 25) (tgt := 137) (by decide +kernel) (by decide) (fun hc => ?_) (fun hc => ?_)
        · replace h := h.1 hc
          exact h
        · replace h := h.2 hc
          refine ex_iload_n (pc := 115) (k := 1) (by decide +kernel) rfl ?_
          refine ex_iconst (pc := 116) (k := 2) (v := nI 2) (by decide +kernel) (by decide) ?_
          refine ex_icmp_ne (pc := 117) (off := 9) (tgt := 126) (by decide +kernel) (by decide) (fun hc => ?_) (fun hc => ?_)
          · replace h := h.1 hc
            exact h
          · replace h := h.2 hc
            refine ex_iload (pc := 120) (k := 5) (by decide +kernel) rfl ?_
            refine ex_iload_n (pc := 122) (k := 3) (by decide +kernel) rfl ?_
            refine ex_icmp_gt (pc := 123) (off := 14) (tgt := 137) (by decide +kernel) (by decide) (fun hc => ?_) (fun hc => ?_)
            · replace h := h.1 hc
              exact h
            · replace h := h.2 hc
              exact h
    · replace h := h.2 hc
      refine ex_iconst (pc := 85) (k := 1) (v := nI 1) (by decide +kernel) (by decide) ?_
      refine ex_goto (pc := 86) (off := 20) (tgt := 106) (by decide +kernel) (by decide) ?_
      refine ex_istore (pc := 106) (k := 5) (lo2 := [some (.ref 78), some (.int l1), some (.int l2), some (.int l3), some (.int l4), some (.int (nI 1))]) (by decide +kernel) (by decide) rfl ?_
      refine ex_aload_n (pc := 108) (k := 0) (by decide +kernel) rfl ?_
      refine ey_getI (pc := 109) (v := mi M 78 20) (by decide +kernel) lf_MM_313 (hF.s (j := 78) rfl) rfl ?_
      refine ex_if_eq (pc := 112) (off := 25) (tgt := 137) (by decide +kernel) (by decide) (fun hc => ?_) (fun hc => ?_)
      · replace h := h.1 hc
        exact h
      · replace h := h.2 hc
        refine ex_iload_n (pc := 115) (k := 1) (by decide +kernel) rfl ?_
        refine ex_iconst (pc := 116) (k := 2) (v := nI 2) (by decide +kernel) (by decide) ?_
        refine ex_icmp_ne (pc := 117) (off := 9) (tgt := 126) (by decide +kernel) (by decide) (fun hc => ?_) (fun hc => ?_)
        · replace h := h.1 hc
          exact h
        · replace h := h.2 hc
          refine ex_iload (pc := 120) (k := 5) (by decide +kernel) rfl ?_
          refine ex_iload_n (pc := 122) (k := 3) (by decide +kernel) rfl ?_
          refine ex_icmp_gt (pc := 123) (off := 14) (tgt := 137) (by decide +kernel) (by decide) (fun hc => ?_) (fun hc => ?_)
          · replace h := h.1 hc
            exact h
          · replace h := h.2 hc
            exact h
theorem k_MM_find_126 {d bc bs : Nat} {l1 : Int32} {l2 : Int32} {l3 : Int32} {l4 : Int32} {l5 : Int32} {M : Mem} {Φ : Option Value → Mem → Prop} (hF : Fm M) (h : (¬ l1 = (nI 3) → Ex (d + 1) m_MM_find bc bs 144 [some (.ref 78), some (.int l1), some (.int l2), some (.int l3), some (.int l4), some (.int l5)] [] M Φ) ∧ (l1 = (nI 3) → (l3 ≤ l5 → Ex (d + 1) m_MM_find bc bs 144 [some (.ref 78), some (.int l1), some (.int l2), some (.int l3), some (.int l4), some (.int l5)] [] M Φ) ∧ (¬ l3 ≤ l5 → Ex (d + 1) m_MM_find bc bs 137 [some (.ref 78), some (.int l1), some (.int l2), some (.int l3), some (.int l4), some (.int l5)] [] M Φ))) : Ex (d + 1) m_MM_find bc bs 126 [some (.ref 78), some (.int l1), some (.int l2), some (.int l3), some (.int l4), some (.int l5)] [] M Φ := by
  refine ex_iload_n (pc := 126) (k := 1) (by decide +kernel) rfl ?_
  refine ex_iconst (pc := 127) (k := 3) (v := nI 3) (by decide +kernel) (by decide) ?_
  refine ex_icmp_ne (pc := 128) (off := 16) (tgt := 144) (by decide +kernel) (by decide) (fun hc => ?_) (fun hc => ?_)
  · replace h := h.1 hc
    exact h
  · replace h := h.2 hc
    refine ex_iload (pc := 131) (k := 5) (by decide +kernel) rfl ?_
    refine ex_iload_n (pc := 133) (k := 3) (by decide +kernel) rfl ?_
    refine ex_icmp_ge (pc := 134) (off := 10) (tgt := 144) (by decide +kernel) (by decide) (fun hc => ?_) (fun hc => ?_)
    · replace h := h.1 hc
      exact h
    · replace h := h.2 hc
      exact h
theorem k_MM_find_137 {d bc bs : Nat} {l1 : Int32} {l2 : Int32} {l3 : Int32} {l4 : Int32} {l5 : Int32} {M : Mem} {Φ : Option Value → Mem → Prop} (hF : Fm M) (h : Con d m_MM_keeps 0 0 [.ref 78] M (PV fun M1 => Fm M1 ∧ Ex (d + 1) m_MM_find bc bs 144 [some (.ref 78), some (.int l1), some (.int l2), some (.int l5), some (.int l4), some (.int l5)] [] M1 Φ)) : Ex (d + 1) m_MM_find bc bs 137 [some (.ref 78), some (.int l1), some (.int l2), some (.int l3), some (.int l4), some (.int l5)] [] M Φ := by
  refine ex_iload (pc := 137) (k := 5) (by decide +kernel) rfl ?_
  refine ex_istore_n (pc := 139) (k := 3) (lo2 := [some (.ref 78), some (.int l1), some (.int l2), some (.int l5), some (.int l4), some (.int l5)]) (by decide +kernel) (by decide) rfl ?_
  refine ex_aload_n (pc := 140) (k := 0) (by decide +kernel) rfl ?_
  refine ex_callV (pc := 141) (as := []) (by decide +kernel) F_MM_keeps (in_t6 (i := 237) rfl rfl) (hF.s (j := 78) rfl) rfl (by decide) rfl rfl (Nat.le_of_ble_eq_true rfl) (Nat.lt_succ_self _) ⟨Nat.zero_le _, Nat.zero_le _⟩ (KC_V (Con.mono h ?_))
  intro o M1 ⟨e9, hF1, h⟩
  refine ⟨e9, ?_⟩
  exact h
theorem k_MM_find_144 {d bc bs : Nat} {l1 : Int32} {l2 : Int32} {l3 : Int32} {l4 : Int32} {l5 : Int32} {M : Mem} {Φ : Option Value → Mem → Prop} (hF : Fm M) (h : (l1 = (nI 1) → Ex (d + 1) m_MM_find bc bs 75 [some (.ref 78), some (.int l1), some (.int l2), some (.int l3), some (.int (nI 0)), none] [] M Φ) ∧ (¬ l1 = (nI 1) → Con d m_MM_all 0 0 [.ref 78] M (PI fun r1 M1 => Fm M1 ∧ Con d m_MM_nextWay 0 0 [.ref 78, .int r1, .int (nI 0)] M1 (PB fun r2 M2 => Fm M2 ∧ (r2 = false → Ex (d + 1) m_MM_find bc bs 75 [some (.ref 78), some (.int l1), some (.int l2), some (.int l3), some (.int (nI 0)), none] [] M2 Φ) ∧ (r2 = true → Ex (d + 1) m_MM_find bc bs 75 [some (.ref 78), some (.int l1), some (.int l2), some (.int l3), some (.int (nI 1)), none] [] M2 Φ))))) : Ex (d + 1) m_MM_find bc bs 144 [some (.ref 78), some (.int l1), some (.int l2), some (.int l3), some (.int l4), some (.int l5)] [] M Φ := by
  refine ex_iload_n (pc := 144) (k := 1) (by decide +kernel) rfl ?_
  refine ex_iconst (pc := 145) (k := 1) (v := nI 1) (by decide +kernel) (by decide) ?_
  refine ex_icmp_eq (pc := 146) (off := 19) (tgt := 165) (by decide +kernel) (by decide) (fun hc => ?_) (fun hc => ?_)
  · replace h := h.1 hc
    refine ex_iconst (pc := 165) (k := 0) (v := nI 0) (by decide +kernel) (by decide) ?_
    refine ex_istore (pc := 166) (k := 4) (lo2 := [some (.ref 78), some (.int l1), some (.int l2), some (.int l3), some (.int (nI 0)), some (.int l5)]) (by decide +kernel) (by decide) rfl ?_
    refine ex_goto (pc := 168) (off := -93) (tgt := 75) (by decide +kernel) (by decide) ?_
    exact Ex.msk [true, true, true, true, true, false] h
  · replace h := h.2 hc
    refine ex_aload_n (pc := 149) (k := 0) (by decide +kernel) rfl ?_
    refine ex_aload_n (pc := 150) (k := 0) (by decide +kernel) rfl ?_
    refine ex_callV (pc := 151) (as := []) (by decide +kernel) F_MM_all (in_t6 (i := 206) rfl rfl) (hF.s (j := 78) rfl) rfl (by decide) rfl rfl (Nat.le_of_ble_eq_true rfl) (Nat.lt_succ_self _) ⟨Nat.zero_le _, Nat.zero_le _⟩ (KC_I (Con.mono h ?_))
    intro o M1 ⟨r1, e9, hF1, h⟩
    refine ⟨r1, e9, ?_⟩
    refine ex_iconst (pc := 154) (k := 0) (v := nI 0) (by decide +kernel) (by decide) ?_
    refine ex_callV (pc := 155) (as := [.int r1, .int (nI 0)]) (by decide +kernel) F_MM_nextWay (in_t6 (i := 210) rfl rfl) (hF1.s (j := 78) rfl) rfl (by decide) rfl rfl (Nat.le_of_ble_eq_true rfl) (Nat.lt_succ_self _) ⟨Nat.zero_le _, Nat.zero_le _⟩ (KC_B (Con.mono h ?_))
    intro o M2 ⟨r2, e9, hF2, h⟩
    refine ⟨r2, e9, ?_⟩
    refine ey_ifeqB (pc := 158) (off := 7) (tgt := 165) (by decide +kernel) (by decide) (fun hc => ?_) (fun hc => ?_)
    · replace h := h.1 hc
      refine ex_iconst (pc := 165) (k := 0) (v := nI 0) (by decide +kernel) (by decide) ?_
      refine ex_istore (pc := 166) (k := 4) (lo2 := [some (.ref 78), some (.int l1), some (.int l2), some (.int l3), some (.int (nI 0)), some (.int l5)]) (by decide +kernel) (by decide) rfl ?_
      refine ex_goto (pc := 168) (off := -93) (tgt := 75) (by decide +kernel) (by decide) ?_
      exact Ex.msk [true, true, true, true, true, false] h
    · replace h := h.2 hc
      refine ex_iconst (pc := 161) (k := 1) (v := nI 1) (by decide +kernel) (by decide) ?_
      refine ex_goto (pc := 162) (off := 4) (tgt := 166) (by decide +kernel) (by decide) ?_
      refine ex_istore (pc := 166) (k := 4) (lo2 := [some (.ref 78), some (.int l1), some (.int l2), some (.int l3), some (.int (nI 1)), some (.int l5)]) (by decide +kernel) (by decide) rfl ?_
      refine ex_goto (pc := 168) (off := -93) (tgt := 75) (by decide +kernel) (by decide) ?_
      exact Ex.msk [true, true, true, true, true, false] h
theorem k_MM_foundDay_0 {d bc bs : Nat} {l1 : Int32} {M : Mem} {Φ : Option Value → Mem → Prop} (hF : Fm M) (h : ((mi M 78 20) = 0 → Φ (some (.int (-1))) M) ∧ (¬ (mi M 78 20) = 0 → Con d m_MM_in 0 0 [.int l1, .int (nI 0), .int ((mi M 78 21) - (nI 1))] M (PB fun r1 M1 => Fm M1 ∧ (r1 = false → Φ (some (.int (-1))) M1) ∧ (r1 = true → vp_in l1 6 ∧ Φ (some (.int (mi M1 92 l1.toNatClampNeg))) M1)))) : Ex (d + 1) m_MM_foundDay bc bs 0 [some (.ref 78), some (.int l1)] [] M Φ := by
  refine ex_aload_n (pc := 0) (k := 0) (by decide +kernel) rfl ?_
  refine ey_getI (pc := 1) (v := mi M 78 20) (by decide +kernel) lf_MM_313 (hF.s (j := 78) rfl) rfl ?_
  refine ex_if_eq (pc := 4) (off := 26) (tgt := 30) (by decide +kernel) (by decide) (fun hc => ?_) (fun hc => ?_)
  · replace h := h.1 hc
    refine ex_iconst (pc := 30) (k := -1) (v := -1) (by decide +kernel) (by decide) ?_
    exact ex_ireturn (pc := 31) (by decide +kernel) rfl rfl h
  · replace h := h.2 hc
    refine ex_iload_n (pc := 7) (k := 1) (by decide +kernel) rfl ?_
    refine ex_iconst (pc := 8) (k := 0) (v := nI 0) (by decide +kernel) (by decide) ?_
    refine ex_aload_n (pc := 9) (k := 0) (by decide +kernel) rfl ?_
    refine ey_getI (pc := 10) (v := mi M 78 21) (by decide +kernel) lf_MM_317 (hF.s (j := 78) rfl) rfl ?_
    refine ex_iconst (pc := 13) (k := 1) (v := nI 1) (by decide +kernel) (by decide) ?_
    refine ex_isub (pc := 14) (by decide +kernel) ?_
    refine ex_callS (pc := 15) (as := [.int l1, .int (nI 0), .int ((mi M 78 21) - (nI 1))]) (by decide +kernel) F_MM_in (in_t6 (i := 11) rfl rfl) rfl rfl (Nat.le_of_ble_eq_true rfl) (Nat.lt_succ_self _) ⟨Nat.zero_le _, Nat.zero_le _⟩ (KC_B (Con.mono h ?_))
    intro o M1 ⟨r1, e9, hF1, h⟩
    refine ⟨r1, e9, ?_⟩
    refine ey_ifeqB (pc := 18) (off := 12) (tgt := 30) (by decide +kernel) (by decide) (fun hc => ?_) (fun hc => ?_)
    · replace h := h.1 hc
      refine ex_iconst (pc := 30) (k := -1) (v := -1) (by decide +kernel) (by decide) ?_
      exact ex_ireturn (pc := 31) (by decide +kernel) rfl rfl h
    · replace h := h.2 hc
      refine ex_aload_n (pc := 21) (k := 0) (by decide +kernel) rfl ?_
      refine ex_getR (pc := 22) (a := 92) (by decide +kernel) lf_MM_56 (hF1.s (j := 78) rfl) (hF1.r (j := 78) (k := 22) rfl rfl) ?_
      refine ex_iload_n (pc := 25) (k := 1) (by decide +kernel) rfl ?_
      obtain ⟨g1, h⟩ := h
      refine ey_iald (pc := 26) (v := mi M1 92 l1.toNatClampNeg) (by decide +kernel) (hF1.s (j := 92) rfl) g1 rfl rfl ?_
      refine ex_goto (pc := 27) (off := 4) (tgt := 31) (by decide +kernel) (by decide) ?_
      exact ex_ireturn (pc := 31) (by decide +kernel) rfl rfl h
theorem k_MM_least_0 {d bc bs : Nat}  {M : Mem} {Φ : Option Value → Mem → Prop} (hF : Fm M) (h : Ex (d + 1) m_MM_least bc bs 9 [some (.ref 78), some (.int (mi M 78 6)), some (.int (-1)), some (.int (nI 2))] [] M Φ) : Ex (d + 1) m_MM_least bc bs 0 [some (.ref 78), none, none, none] [] M Φ := by
  refine ex_aload_n (pc := 0) (k := 0) (by decide +kernel) rfl ?_
  refine ey_getI (pc := 1) (v := mi M 78 6) (by decide +kernel) lf_MM_25 (hF.s (j := 78) rfl) rfl ?_
  refine ex_istore_n (pc := 4) (k := 1) (lo2 := [some (.ref 78), some (.int (mi M 78 6)), none, none]) (by decide +kernel) (by decide) rfl ?_
  refine ex_iconst (pc := 5) (k := -1) (v := -1) (by decide +kernel) (by decide) ?_
  refine ex_istore_n (pc := 6) (k := 2) (lo2 := [some (.ref 78), some (.int (mi M 78 6)), some (.int (-1)), none]) (by decide +kernel) (by decide) rfl ?_
  refine ex_iconst (pc := 7) (k := 2) (v := nI 2) (by decide +kernel) (by decide) ?_
  refine ex_istore_n (pc := 8) (k := 3) (lo2 := [some (.ref 78), some (.int (mi M 78 6)), some (.int (-1)), some (.int (nI 2))]) (by decide +kernel) (by decide) rfl ?_
  exact h
theorem k_MM_least_9 {d bc bs : Nat} {l1 : Int32} {l2 : Int32} {l3 : Int32} {M : Mem} {Φ : Option Value → Mem → Prop} (hF : Fm M) (h : ((nI 7) < l3 → Φ (some (.int l2)) (wi M 78 6 l1)) ∧ (¬ (nI 7) < l3 → (¬ l2 = (-1) → Φ (some (.int l2)) (wi M 78 6 l1)) ∧ (l2 = (-1) → Con d m_MM_looks 0 0 [.ref 78] (wi M 78 6 l3) (PV fun M1 => Fm M1 ∧ Con d m_MM_all 0 0 [.ref 78] M1 (PI fun r1 M2 => Fm M2 ∧ Con d m_MM_nextWay 0 0 [.ref 78, .int r1, .int (nI 1)] M2 (PB fun r2 M3 => Fm M3 ∧ (r2 = false → Ex (d + 1) m_MM_least bc bs 9 [some (.ref 78), some (.int l1), some (.int (-1)), some (.int (l3 + nI 1))] [] M3 Φ) ∧ (r2 = true → Ex (d + 1) m_MM_least bc bs 9 [some (.ref 78), some (.int l1), some (.int l3), some (.int (l3 + nI 1))] [] M3 Φ))))))) : Ex (d + 1) m_MM_least bc bs 9 [some (.ref 78), some (.int l1), some (.int l2), some (.int l3)] [] M Φ := by
  refine ex_iload_n (pc := 9) (k := 3) (by decide +kernel) rfl ?_
  refine ex_bipush (pc := 10) (k := 7) (v := nI 7) (by decide +kernel) (by decide) ?_
  refine ex_icmp_gt (pc := 12) (off := 41) (tgt := 53) (by decide +kernel) (by decide) (fun hc => ?_) (fun hc => ?_)
  · replace h := h.1 hc
    refine ex_aload_n (pc := 53) (k := 0) (by decide +kernel) rfl ?_
    refine ex_iload_n (pc := 54) (k := 1) (by decide +kernel) rfl ?_
    refine ex_putI (pc := 55) (index := 25) (ci := 11) (k := 6) (fin := false) (by decide +kernel) ⟨_, _, _, _, cf_MM, by decide, in_t5 (i := 82) rfl rfl, rfl, (fun h => by cases h), rfl, rfl⟩ rfl (fun h => by cases h) (hF.s (j := 78) rfl) ?_
    refine ex_iload_n (pc := 58) (k := 2) (by decide +kernel) rfl ?_
    exact ex_ireturn (pc := 59) (by decide +kernel) rfl rfl h
  · replace h := h.2 hc
    refine ex_iload_n (pc := 15) (k := 2) (by decide +kernel) rfl ?_
    refine ex_iconst (pc := 16) (k := -1) (v := -1) (by decide +kernel) (by decide) ?_
    refine ex_icmp_ne (pc := 17) (off := 36) (tgt := 53) (by decide +kernel) (by decide) (fun hc => ?_) (fun hc => ?_)
    · replace h := h.1 hc
      refine ex_aload_n (pc := 53) (k := 0) (by decide +kernel) rfl ?_
      refine ex_iload_n (pc := 54) (k := 1) (by decide +kernel) rfl ?_
      refine ex_putI (pc := 55) (index := 25) (ci := 11) (k := 6) (fin := false) (by decide +kernel) ⟨_, _, _, _, cf_MM, by decide, in_t5 (i := 82) rfl rfl, rfl, (fun h => by cases h), rfl, rfl⟩ rfl (fun h => by cases h) (hF.s (j := 78) rfl) ?_
      refine ex_iload_n (pc := 58) (k := 2) (by decide +kernel) rfl ?_
      exact ex_ireturn (pc := 59) (by decide +kernel) rfl rfl h
    · replace h := h.2 hc
      refine ex_aload_n (pc := 20) (k := 0) (by decide +kernel) rfl ?_
      refine ex_iload_n (pc := 21) (k := 3) (by decide +kernel) rfl ?_
      refine ex_putI (pc := 22) (index := 25) (ci := 11) (k := 6) (fin := false) (by decide +kernel) ⟨_, _, _, _, cf_MM, by decide, in_t5 (i := 82) rfl rfl, rfl, (fun h => by cases h), rfl, rfl⟩ rfl (fun h => by cases h) (hF.s (j := 78) rfl) ?_
      refine ex_aload_n (pc := 25) (k := 0) (by decide +kernel) rfl ?_
      refine ex_callV (pc := 26) (as := []) (by decide +kernel) F_MM_looks (in_t6 (i := 158) rfl rfl) (hF.s (j := 78) rfl) rfl (by decide) rfl rfl (Nat.le_of_ble_eq_true rfl) (Nat.lt_succ_self _) ⟨Nat.zero_le _, Nat.zero_le _⟩ (KC_V (Con.mono h ?_))
      intro o M1 ⟨e9, hF1, h⟩
      refine ⟨e9, ?_⟩
      refine ex_aload_n (pc := 29) (k := 0) (by decide +kernel) rfl ?_
      refine ex_aload_n (pc := 30) (k := 0) (by decide +kernel) rfl ?_
      refine ex_callV (pc := 31) (as := []) (by decide +kernel) F_MM_all (in_t6 (i := 206) rfl rfl) (hF1.s (j := 78) rfl) rfl (by decide) rfl rfl (Nat.le_of_ble_eq_true rfl) (Nat.lt_succ_self _) ⟨Nat.zero_le _, Nat.zero_le _⟩ (KC_I (Con.mono h ?_))
      intro o M2 ⟨r1, e9, hF2, h⟩
      refine ⟨r1, e9, ?_⟩
      refine ex_iconst (pc := 34) (k := 1) (v := nI 1) (by decide +kernel) (by decide) ?_
      refine ex_callV (pc := 35) (as := [.int r1, .int (nI 1)]) (by decide +kernel) F_MM_nextWay (in_t6 (i := 210) rfl rfl) (hF2.s (j := 78) rfl) rfl (by decide) rfl rfl (Nat.le_of_ble_eq_true rfl) (Nat.lt_succ_self _) ⟨Nat.zero_le _, Nat.zero_le _⟩ (KC_B (Con.mono h ?_))
      intro o M3 ⟨r2, e9, hF3, h⟩
      refine ⟨r2, e9, ?_⟩
      refine ey_ifeqB (pc := 38) (off := 7) (tgt := 45) (by decide +kernel) (by decide) (fun hc => ?_) (fun hc => ?_)
      · replace h := h.1 hc
        refine ex_iconst (pc := 45) (k := -1) (v := -1) (by decide +kernel) (by decide) ?_
        refine ex_istore_n (pc := 46) (k := 2) (lo2 := [some (.ref 78), some (.int l1), some (.int (-1)), some (.int l3)]) (by decide +kernel) (by decide) rfl ?_
        refine ex_iinc (pc := 47) (i := 3) (k := 1) (v := l3 + nI 1) (lo2 := [some (.ref 78), some (.int l1), some (.int (-1)), some (.int (l3 + nI 1))]) (by decide +kernel) (by decide) rfl rfl rfl ?_
        refine ex_goto (pc := 50) (off := -41) (tgt := 9) (by decide +kernel) (by decide) ?_
        exact h
      · replace h := h.2 hc
        refine ex_iload_n (pc := 41) (k := 3) (by decide +kernel) rfl ?_
        refine ex_goto (pc := 42) (off := 4) (tgt := 46) (by decide +kernel) (by decide) ?_
        refine ex_istore_n (pc := 46) (k := 2) (lo2 := [some (.ref 78), some (.int l1), some (.int l3), some (.int l3)]) (by decide +kernel) (by decide) rfl ?_
        refine ex_iinc (pc := 47) (i := 3) (k := 1) (v := l3 + nI 1) (lo2 := [some (.ref 78), some (.int l1), some (.int l3), some (.int (l3 + nI 1))]) (by decide +kernel) (by decide) rfl rfl rfl ?_
        refine ex_goto (pc := 50) (off := -41) (tgt := 9) (by decide +kernel) (by decide) ?_
        exact h
theorem k_MM_ones_0 {d bc bs : Nat} {l0 : Int32} {M : Mem} {Φ : Option Value → Mem → Prop} (hF : Fm M) (h : Ex (d + 1) m_MM_ones bc bs 4 [some (.int l0), some (.int (nI 0)), some (.int (nI 0))] [] M Φ) : Ex (d + 1) m_MM_ones bc bs 0 [some (.int l0), none, none] [] M Φ := by
  refine ex_iconst (pc := 0) (k := 0) (v := nI 0) (by decide +kernel) (by decide) ?_
  refine ex_istore_n (pc := 1) (k := 1) (lo2 := [some (.int l0), some (.int (nI 0)), none]) (by decide +kernel) (by decide) rfl ?_
  refine ex_iconst (pc := 2) (k := 0) (v := nI 0) (by decide +kernel) (by decide) ?_
  refine ex_istore_n (pc := 3) (k := 2) (lo2 := [some (.int l0), some (.int (nI 0)), some (.int (nI 0))]) (by decide +kernel) (by decide) rfl ?_
  exact h
theorem k_MM_ones_4 {d bc bs : Nat} {l0 : Int32} {l1 : Int32} {l2 : Int32} {M : Mem} {Φ : Option Value → Mem → Prop} (hF : Fm M) (h : ((nI 6) ≤ l2 → Φ (some (.int l1)) M) ∧ (¬ (nI 6) ≤ l2 → Ex (d + 1) m_MM_ones bc bs 4 [some (.int l0), some (.int (l1 + ((l0 >>> (l2 &&& 31)) &&& (nI 1)))), some (.int (l2 + nI 1))] [] M Φ)) : Ex (d + 1) m_MM_ones bc bs 4 [some (.int l0), some (.int l1), some (.int l2)] [] M Φ := by
  refine ex_iload_n (pc := 4) (k := 2) (by decide +kernel) rfl ?_
  refine ex_bipush (pc := 5) (k := 6) (v := nI 6) (by decide +kernel) (by decide) ?_
  refine ex_icmp_ge (pc := 7) (off := 17) (tgt := 24) (by decide +kernel) (by decide) (fun hc => ?_) (fun hc => ?_)
  · replace h := h.1 hc
    refine ex_iload_n (pc := 24) (k := 1) (by decide +kernel) rfl ?_
    exact ex_ireturn (pc := 25) (by decide +kernel) rfl rfl h
  · replace h := h.2 hc
    refine ex_iload_n (pc := 10) (k := 1) (by decide +kernel) rfl ?_
    refine ex_iload_n (pc := 11) (k := 0) (by decide +kernel) rfl ?_
    refine ex_iload_n (pc := 12) (k := 2) (by decide +kernel) rfl ?_
    refine ex_ishr (pc := 13) (by decide +kernel) ?_
    refine ex_iconst (pc := 14) (k := 1) (v := nI 1) (by decide +kernel) (by decide) ?_
    refine ex_iand (pc := 15) (by decide +kernel) ?_
    refine ex_iadd (pc := 16) (by decide +kernel) ?_
    refine ex_istore_n (pc := 17) (k := 1) (lo2 := [some (.int l0), some (.int (l1 + ((l0 >>> (l2 &&& 31)) &&& (nI 1)))), some (.int l2)]) (by decide +kernel) (by decide) rfl ?_
    refine ex_iinc (pc := 18) (i := 2) (k := 1) (v := l2 + nI 1) (lo2 := [some (.int l0), some (.int (l1 + ((l0 >>> (l2 &&& 31)) &&& (nI 1)))), some (.int (l2 + nI 1))]) (by decide +kernel) (by decide) rfl rfl rfl ?_
    refine ex_goto (pc := 21) (off := -17) (tgt := 4) (by decide +kernel) (by decide) ?_
    exact h
theorem k_MM_knot_0 {d bc bs : Nat}  {M : Mem} {Φ : Option Value → Mem → Prop} (hF : Fm M) (h : Con d m_MM_looks 0 0 [.ref 78] M (PV fun M1 => Fm M1 ∧ Ex (d + 1) m_MM_knot bc bs 8 [some (.ref 78), some (.int (nI 0)), some (.int (nI 1))] [] M1 Φ)) : Ex (d + 1) m_MM_knot bc bs 0 [some (.ref 78), none, none] [] M Φ := by
  refine ex_aload_n (pc := 0) (k := 0) (by decide +kernel) rfl ?_
  refine ex_callV (pc := 1) (as := []) (by decide +kernel) F_MM_looks (in_t6 (i := 158) rfl rfl) (hF.s (j := 78) rfl) rfl (by decide) rfl rfl (Nat.le_of_ble_eq_true rfl) (Nat.lt_succ_self _) ⟨Nat.zero_le _, Nat.zero_le _⟩ (KC_V (Con.mono h ?_))
  intro o M1 ⟨e9, hF1, h⟩
  refine ⟨e9, ?_⟩
  refine ex_iconst (pc := 4) (k := 0) (v := nI 0) (by decide +kernel) (by decide) ?_
  refine ex_istore_n (pc := 5) (k := 1) (lo2 := [some (.ref 78), some (.int (nI 0)), none]) (by decide +kernel) (by decide) rfl ?_
  refine ex_iconst (pc := 6) (k := 1) (v := nI 1) (by decide +kernel) (by decide) ?_
  refine ex_istore_n (pc := 7) (k := 2) (lo2 := [some (.ref 78), some (.int (nI 0)), some (.int (nI 1))]) (by decide +kernel) (by decide) rfl ?_
  exact h
theorem k_MM_knot_8 {d bc bs : Nat} {l1 : Int32} {l2 : Int32} {M : Mem} {Φ : Option Value → Mem → Prop} (hF : Fm M) (h : Con d m_MM_all 0 0 [.ref 78] M (PI fun r1 M1 => Fm M1 ∧ (r1 < l2 → Φ (some (.int l1)) M1) ∧ (¬ r1 < l2 → (l1 = 0 → Ex (d + 1) m_MM_knot bc bs 31 [some (.ref 78), some (.int l1), some (.int l2)] [] M1 Φ) ∧ (¬ l1 = 0 → Con d m_MM_ones 0 0 [.int l2] M1 (PI fun r2 M2 => Fm M2 ∧ Con d m_MM_ones 0 0 [.int l1] M2 (PI fun r3 M3 => Fm M3 ∧ (r3 ≤ r2 → Ex (d + 1) m_MM_knot bc bs 8 [some (.ref 78), some (.int l1), some (.int (l2 + nI 1))] [] M3 Φ) ∧ (¬ r3 ≤ r2 → Ex (d + 1) m_MM_knot bc bs 31 [some (.ref 78), some (.int l1), some (.int l2)] [] M3 Φ))))))) : Ex (d + 1) m_MM_knot bc bs 8 [some (.ref 78), some (.int l1), some (.int l2)] [] M Φ := by
  refine ex_iload_n (pc := 8) (k := 2) (by decide +kernel) rfl ?_
  refine ex_aload_n (pc := 9) (k := 0) (by decide +kernel) rfl ?_
  refine ex_callV (pc := 10) (as := []) (by decide +kernel) F_MM_all (in_t6 (i := 206) rfl rfl) (hF.s (j := 78) rfl) rfl (by decide) rfl rfl (Nat.le_of_ble_eq_true rfl) (Nat.lt_succ_self _) ⟨Nat.zero_le _, Nat.zero_le _⟩ (KC_I (Con.mono h ?_))
  intro o M1 ⟨r1, e9, hF1, h⟩
  refine ⟨r1, e9, ?_⟩
  refine ex_icmp_gt (pc := 13) (off := 35) (tgt := 48) (by decide +kernel) (by decide) (fun hc => ?_) (fun hc => ?_)
  · replace h := h.1 hc
    refine ex_iload_n (pc := 48) (k := 1) (by decide +kernel) rfl ?_
    exact ex_ireturn (pc := 49) (by decide +kernel) rfl rfl h
  · replace h := h.2 hc
    refine ex_iload_n (pc := 16) (k := 1) (by decide +kernel) rfl ?_
    refine ex_if_eq (pc := 17) (off := 14) (tgt := 31) (by decide +kernel) (by decide) (fun hc => ?_) (fun hc => ?_)
    · replace h := h.1 hc
      exact h
    · replace h := h.2 hc
      refine ex_iload_n (pc := 20) (k := 2) (by decide +kernel) rfl ?_
      refine ex_callS (pc := 21) (as := [.int l2]) (by decide +kernel) F_MM_ones (in_t7 (i := 14) rfl rfl) rfl rfl (Nat.le_of_ble_eq_true rfl) (Nat.lt_succ_self _) ⟨Nat.zero_le _, Nat.zero_le _⟩ (KC_I (Con.mono h ?_))
      intro o M2 ⟨r2, e9, hF2, h⟩
      refine ⟨r2, e9, ?_⟩
      refine ex_iload_n (pc := 24) (k := 1) (by decide +kernel) rfl ?_
      refine ex_callS (pc := 25) (as := [.int l1]) (by decide +kernel) F_MM_ones (in_t7 (i := 14) rfl rfl) rfl rfl (Nat.le_of_ble_eq_true rfl) (Nat.lt_succ_self _) ⟨Nat.zero_le _, Nat.zero_le _⟩ (KC_I (Con.mono h ?_))
      intro o M3 ⟨r3, e9, hF3, h⟩
      refine ⟨r3, e9, ?_⟩
      refine ex_icmp_ge (pc := 28) (off := 14) (tgt := 42) (by decide +kernel) (by decide) (fun hc => ?_) (fun hc => ?_)
      · replace h := h.1 hc
        refine ex_iinc (pc := 42) (i := 2) (k := 1) (v := l2 + nI 1) (lo2 := [some (.ref 78), some (.int l1), some (.int (l2 + nI 1))]) (by decide +kernel) (by decide) rfl rfl rfl ?_
        refine ex_goto (pc := 45) (off := -37) (tgt := 8) (by decide +kernel) (by decide) ?_
        exact h
      · replace h := h.2 hc
        exact h
theorem k_MM_knot_31 {d bc bs : Nat} {l1 : Int32} {l2 : Int32} {M : Mem} {Φ : Option Value → Mem → Prop} (hF : Fm M) (h : Con d m_MM_nextWay 0 0 [.ref 78, .int l2, .int (nI 1)] M (PB fun r1 M1 => Fm M1 ∧ (r1 = true → Ex (d + 1) m_MM_knot bc bs 8 [some (.ref 78), some (.int l1), some (.int (l2 + nI 1))] [] M1 Φ) ∧ (r1 = false → Ex (d + 1) m_MM_knot bc bs 8 [some (.ref 78), some (.int l2), some (.int (l2 + nI 1))] [] M1 Φ))) : Ex (d + 1) m_MM_knot bc bs 31 [some (.ref 78), some (.int l1), some (.int l2)] [] M Φ := by
  refine ex_aload_n (pc := 31) (k := 0) (by decide +kernel) rfl ?_
  refine ex_iload_n (pc := 32) (k := 2) (by decide +kernel) rfl ?_
  refine ex_iconst (pc := 33) (k := 1) (v := nI 1) (by decide +kernel) (by decide) ?_
  refine ex_callV (pc := 34) (as := [.int l2, .int (nI 1)]) (by decide +kernel) F_MM_nextWay (in_t6 (i := 210) rfl rfl) (hF.s (j := 78) rfl) rfl (by decide) rfl rfl (Nat.le_of_ble_eq_true rfl) (Nat.lt_succ_self _) ⟨Nat.zero_le _, Nat.zero_le _⟩ (KC_B (Con.mono h ?_))
  intro o M1 ⟨r1, e9, hF1, h⟩
  refine ⟨r1, e9, ?_⟩
  refine ey_ifneB (pc := 37) (off := 5) (tgt := 42) (by decide +kernel) (by decide) (fun hc => ?_) (fun hc => ?_)
  · replace h := h.1 hc
    refine ex_iinc (pc := 42) (i := 2) (k := 1) (v := l2 + nI 1) (lo2 := [some (.ref 78), some (.int l1), some (.int (l2 + nI 1))]) (by decide +kernel) (by decide) rfl rfl rfl ?_
    refine ex_goto (pc := 45) (off := -37) (tgt := 8) (by decide +kernel) (by decide) ?_
    exact h
  · replace h := h.2 hc
    refine ex_iload_n (pc := 40) (k := 2) (by decide +kernel) rfl ?_
    refine ex_istore_n (pc := 41) (k := 1) (lo2 := [some (.ref 78), some (.int l2), some (.int l2)]) (by decide +kernel) (by decide) rfl ?_
    refine ex_iinc (pc := 42) (i := 2) (k := 1) (v := l2 + nI 1) (lo2 := [some (.ref 78), some (.int l2), some (.int (l2 + nI 1))]) (by decide +kernel) (by decide) rfl rfl rfl ?_
    refine ex_goto (pc := 45) (off := -37) (tgt := 8) (by decide +kernel) (by decide) ?_
    exact h
theorem k_MM_room_0 {d bc bs : Nat} {l1 : Int32} {l2 : Int32} {l3 : Int32} {M : Mem} {Φ : Option Value → Mem → Prop} (hF : Fm M) (h : Con d m_MM_isGiving 0 0 [.ref 78, .int l1] M (PB fun r1 M1 => Fm M1 ∧ (r1 = false → Φ (some (.int (-5))) M1) ∧ (r1 = true → Con d m_MM_isTown 0 0 [.ref 78, .int l2] M1 (PB fun r2 M2 => Fm M2 ∧ (r2 = false → Φ (some (.int (-5))) M2) ∧ (r2 = true → Con d m_MM_isWeek 0 0 [.int l3] M2 (PB fun r3 M3 => Fm M3 ∧ (r3 = true → Con d m_MM_looks 0 0 [.ref 78] M3 (PV fun M4 => Fm M4 ∧ Con d m_MM_laysNow 0 0 [.ref 78, .int l1, .int l3] M4 (PV fun M5 => Fm M5 ∧ Ex (d + 1) m_MM_room bc bs 42 [some (.ref 78), some (.int l1), some (.int l2), some (.int l3), some (.int (nI 0)), some (.int (nI 0)), none, none] [] M5 Φ))) ∧ (r3 = false → Φ (some (.int (-5))) M3))))))) : Ex (d + 1) m_MM_room bc bs 0 [some (.ref 78), some (.int l1), some (.int l2), some (.int l3), none, none, none, none] [] M Φ := by
  refine ex_aload_n (pc := 0) (k := 0) (by decide +kernel) rfl ?_
  refine ex_iload_n (pc := 1) (k := 1) (by decide +kernel) rfl ?_
  refine ex_callV (pc := 2) (as := [.int l1]) (by decide +kernel) F_MM_isGiving (in_t6 (i := 142) rfl rfl) (hF.s (j := 78) rfl) rfl (by decide) rfl rfl (Nat.le_of_ble_eq_true rfl) (Nat.lt_succ_self _) ⟨Nat.zero_le _, Nat.zero_le _⟩ (KC_B (Con.mono h ?_))
  intro o M1 ⟨r1, e9, hF1, h⟩
  refine ⟨r1, e9, ?_⟩
  refine ey_ifeqB (pc := 5) (off := 18) (tgt := 23) (by decide +kernel) (by decide) (fun hc => ?_) (fun hc => ?_)
  · replace h := h.1 hc
    refine ex_bipush (pc := 23) (k := -5) (v := -5) (by decide +kernel) (by decide) ?_
    exact ex_ireturn (pc := 25) (by decide +kernel) rfl rfl h
  · replace h := h.2 hc
    refine ex_aload_n (pc := 8) (k := 0) (by decide +kernel) rfl ?_
    refine ex_iload_n (pc := 9) (k := 2) (by decide +kernel) rfl ?_
    refine ex_callV (pc := 10) (as := [.int l2]) (by decide +kernel) F_MM_isTown (in_t6 (i := 18) rfl rfl) (hF1.s (j := 78) rfl) rfl (by decide) rfl rfl (Nat.le_of_ble_eq_true rfl) (Nat.lt_succ_self _) ⟨Nat.zero_le _, Nat.zero_le _⟩ (KC_B (Con.mono h ?_))
    intro o M2 ⟨r2, e9, hF2, h⟩
    refine ⟨r2, e9, ?_⟩
    refine ey_ifeqB (pc := 13) (off := 10) (tgt := 23) (by decide +kernel) (by decide) (fun hc => ?_) (fun hc => ?_)
    · replace h := h.1 hc
      refine ex_bipush (pc := 23) (k := -5) (v := -5) (by decide +kernel) (by decide) ?_
      exact ex_ireturn (pc := 25) (by decide +kernel) rfl rfl h
    · replace h := h.2 hc
      refine ex_iload_n (pc := 16) (k := 3) (by decide +kernel) rfl ?_
      refine ex_callS (pc := 17) (as := [.int l3]) (by decide +kernel) F_MM_isWeek (in_t6 (i := 46) rfl rfl) rfl rfl (Nat.le_of_ble_eq_true rfl) (Nat.lt_succ_self _) ⟨Nat.zero_le _, Nat.zero_le _⟩ (KC_B (Con.mono h ?_))
      intro o M3 ⟨r3, e9, hF3, h⟩
      refine ⟨r3, e9, ?_⟩
      refine ey_ifneB (pc := 20) (off := 6) (tgt := 26) (by decide +kernel) (by decide) (fun hc => ?_) (fun hc => ?_)
      · replace h := h.1 hc
        refine ex_aload_n (pc := 26) (k := 0) (by decide +kernel) rfl ?_
        refine ex_callV (pc := 27) (as := []) (by decide +kernel) F_MM_looks (in_t6 (i := 158) rfl rfl) (hF3.s (j := 78) rfl) rfl (by decide) rfl rfl (Nat.le_of_ble_eq_true rfl) (Nat.lt_succ_self _) ⟨Nat.zero_le _, Nat.zero_le _⟩ (KC_V (Con.mono h ?_))
        intro o M4 ⟨e9, hF4, h⟩
        refine ⟨e9, ?_⟩
        refine ex_aload_n (pc := 30) (k := 0) (by decide +kernel) rfl ?_
        refine ex_iload_n (pc := 31) (k := 1) (by decide +kernel) rfl ?_
        refine ex_iload_n (pc := 32) (k := 3) (by decide +kernel) rfl ?_
        refine ex_callV (pc := 33) (as := [.int l1, .int l3]) (by decide +kernel) F_MM_laysNow (in_t6 (i := 162) rfl rfl) (hF4.s (j := 78) rfl) rfl (by decide) rfl rfl (Nat.le_of_ble_eq_true rfl) (Nat.lt_succ_self _) ⟨Nat.zero_le _, Nat.zero_le _⟩ (KC_V (Con.mono h ?_))
        intro o M5 ⟨e9, hF5, h⟩
        refine ⟨e9, ?_⟩
        refine ex_iconst (pc := 36) (k := 0) (v := nI 0) (by decide +kernel) (by decide) ?_
        refine ex_istore (pc := 37) (k := 4) (lo2 := [some (.ref 78), some (.int l1), some (.int l2), some (.int l3), some (.int (nI 0)), none, none, none]) (by decide +kernel) (by decide) rfl ?_
        refine ex_iconst (pc := 39) (k := 0) (v := nI 0) (by decide +kernel) (by decide) ?_
        refine ex_istore (pc := 40) (k := 5) (lo2 := [some (.ref 78), some (.int l1), some (.int l2), some (.int l3), some (.int (nI 0)), some (.int (nI 0)), none, none]) (by decide +kernel) (by decide) rfl ?_
        exact h
      · replace h := h.2 hc
        refine ex_bipush (pc := 23) (k := -5) (v := -5) (by decide +kernel) (by decide) ?_
        exact ex_ireturn (pc := 25) (by decide +kernel) rfl rfl h
theorem k_MM_room_42 {d bc bs : Nat} {l1 : Int32} {l2 : Int32} {l3 : Int32} {l4 : Int32} {l5 : Int32} {M : Mem} {Φ : Option Value → Mem → Prop} (hF : Fm M) (h : ((mi M 78 6) ≤ l5 → Φ (some (.int l4)) M) ∧ (¬ (mi M 78 6) ≤ l5 → vp_in l2 6 ∧ Ex (d + 1) m_MM_room bc bs 67 [some (.ref 78), some (.int l1), some (.int l2), some (.int l3), some (.int l4), some (.int l5), some (.int (nI 1)), some (.int (nI 0))] [] (wi M 109 l2.toNatClampNeg ((nI 1) <<< (l5 &&& 31))) Φ)) : Ex (d + 1) m_MM_room bc bs 42 [some (.ref 78), some (.int l1), some (.int l2), some (.int l3), some (.int l4), some (.int l5), none, none] [] M Φ := by
  refine ex_iload (pc := 42) (k := 5) (by decide +kernel) rfl ?_
  refine ex_aload_n (pc := 44) (k := 0) (by decide +kernel) rfl ?_
  refine ey_getI (pc := 45) (v := mi M 78 6) (by decide +kernel) lf_MM_25 (hF.s (j := 78) rfl) rfl ?_
  refine ex_icmp_ge (pc := 48) (off := 80) (tgt := 128) (by decide +kernel) (by decide) (fun hc => ?_) (fun hc => ?_)
  · replace h := h.1 hc
    refine ex_iload (pc := 128) (k := 4) (by decide +kernel) rfl ?_
    exact ex_ireturn (pc := 130) (by decide +kernel) rfl rfl h
  · replace h := h.2 hc
    refine ex_aload_n (pc := 51) (k := 0) (by decide +kernel) rfl ?_
    refine ex_getR (pc := 52) (a := 109) (by decide +kernel) lf_MM_131 (hF.s (j := 78) rfl) (hF.r (j := 78) (k := 52) rfl rfl) ?_
    refine ex_iload_n (pc := 55) (k := 2) (by decide +kernel) rfl ?_
    refine ex_iconst (pc := 56) (k := 1) (v := nI 1) (by decide +kernel) (by decide) ?_
    refine ex_iload (pc := 57) (k := 5) (by decide +kernel) rfl ?_
    refine ex_ishl (pc := 59) (by decide +kernel) ?_
    obtain ⟨g1, h⟩ := h
    refine ey_iast (pc := 60) (by decide +kernel) (hF.s (j := 109) rfl) g1 rfl ?_
    refine ex_iconst (pc := 61) (k := 1) (v := nI 1) (by decide +kernel) (by decide) ?_
    refine ex_istore (pc := 62) (k := 6) (lo2 := [some (.ref 78), some (.int l1), some (.int l2), some (.int l3), some (.int l4), some (.int l5), some (.int (nI 1)), none]) (by decide +kernel) (by decide) rfl ?_
    refine ex_iconst (pc := 64) (k := 0) (v := nI 0) (by decide +kernel) (by decide) ?_
    refine ex_istore (pc := 65) (k := 7) (lo2 := [some (.ref 78), some (.int l1), some (.int l2), some (.int l3), some (.int l4), some (.int l5), some (.int (nI 1)), some (.int (nI 0))]) (by decide +kernel) (by decide) rfl ?_
    exact h
theorem k_MM_room_67 {d bc bs : Nat} {l1 : Int32} {l2 : Int32} {l3 : Int32} {l4 : Int32} {l5 : Int32} {l6 : Int32} {l7 : Int32} {M : Mem} {Φ : Option Value → Mem → Prop} (hF : Fm M) (h : ((mi M 78 0) ≤ l7 → (l6 = 0 → Ex (d + 1) m_MM_room bc bs 42 [some (.ref 78), some (.int l1), some (.int l2), some (.int l3), some (.int (l4 ||| (nI 0))), some (.int (l5 + nI 1)), none, none] [] M Φ) ∧ (¬ l6 = 0 → Ex (d + 1) m_MM_room bc bs 42 [some (.ref 78), some (.int l1), some (.int l2), some (.int l3), some (.int (l4 ||| ((nI 1) <<< (l5 &&& 31)))), some (.int (l5 + nI 1)), none, none] [] M Φ)) ∧ (¬ (mi M 78 0) ≤ l7 → (l6 = 0 → Ex (d + 1) m_MM_room bc bs 67 [some (.ref 78), some (.int l1), some (.int l2), some (.int l3), some (.int l4), some (.int l5), some (.int (nI 0)), some (.int (l7 + nI 1))] [] M Φ) ∧ (¬ l6 = 0 → Con d m_MM_doBar 0 0 [.ref 78, .int l7, .int l2] M (PB fun r1 M1 => Fm M1 ∧ (r1 = true → Ex (d + 1) m_MM_room bc bs 67 [some (.ref 78), some (.int l1), some (.int l2), some (.int l3), some (.int l4), some (.int l5), some (.int (nI 0)), some (.int (l7 + nI 1))] [] M1 Φ) ∧ (r1 = false → Ex (d + 1) m_MM_room bc bs 67 [some (.ref 78), some (.int l1), some (.int l2), some (.int l3), some (.int l4), some (.int l5), some (.int (nI 1)), some (.int (l7 + nI 1))] [] M1 Φ))))) : Ex (d + 1) m_MM_room bc bs 67 [some (.ref 78), some (.int l1), some (.int l2), some (.int l3), some (.int l4), some (.int l5), some (.int l6), some (.int l7)] [] M Φ := by
  refine ex_iload (pc := 67) (k := 7) (by decide +kernel) rfl ?_
  refine ex_aload_n (pc := 69) (k := 0) (by decide +kernel) rfl ?_
  refine ey_getI (pc := 70) (v := mi M 78 0) (by decide +kernel) lf_MM_151 (hF.s (j := 78) rfl) rfl ?_
  refine ex_icmp_ge (pc := 73) (off := 31) (tgt := 104) (by decide +kernel) (by decide) (fun hc => ?_) (fun hc => ?_)
  · replace h := h.1 hc
    refine ex_iload (pc := 104) (k := 4) (by decide +kernel) rfl ?_
    refine ex_iload (pc := 106) (k := 6) (by decide +kernel) rfl ?_
    refine ex_if_eq (pc := 108) (off := 10) (tgt := 118) (by decide +kernel) (by decide) (fun hc => ?_) (fun hc => ?_)
    · replace h := h.1 hc
      refine ex_iconst (pc := 118) (k := 0) (v := nI 0) (by decide +kernel) (by decide) ?_
      refine ex_ior (pc := 119) (by decide +kernel) ?_
      refine ex_istore (pc := 120) (k := 4) (lo2 := [some (.ref 78), some (.int l1), some (.int l2), some (.int l3), some (.int (l4 ||| (nI 0))), some (.int l5), some (.int l6), some (.int l7)]) (by decide +kernel) (by decide) rfl ?_
      refine ex_iinc (pc := 122) (i := 5) (k := 1) (v := l5 + nI 1) (lo2 := [some (.ref 78), some (.int l1), some (.int l2), some (.int l3), some (.int (l4 ||| (nI 0))), some (.int (l5 + nI 1)), some (.int l6), some (.int l7)]) (by decide +kernel) (by decide) rfl rfl rfl ?_
      refine ex_goto (pc := 125) (off := -83) (tgt := 42) (by decide +kernel) (by decide) ?_
      exact Ex.msk [true, true, true, true, true, true, false, false] h
    · replace h := h.2 hc
      refine ex_iconst (pc := 111) (k := 1) (v := nI 1) (by decide +kernel) (by decide) ?_
      refine ex_iload (pc := 112) (k := 5) (by decide +kernel) rfl ?_
      refine ex_ishl (pc := 114) (by decide +kernel) ?_
      refine ex_goto (pc := 115) (off := 4) (tgt := 119) (by decide +kernel) (by decide) ?_
      refine ex_ior (pc := 119) (by decide +kernel) ?_
      refine ex_istore (pc := 120) (k := 4) (lo2 := [some (.ref 78), some (.int l1), some (.int l2), some (.int l3), some (.int (l4 ||| ((nI 1) <<< (l5 &&& 31)))), some (.int l5), some (.int l6), some (.int l7)]) (by decide +kernel) (by decide) rfl ?_
      refine ex_iinc (pc := 122) (i := 5) (k := 1) (v := l5 + nI 1) (lo2 := [some (.ref 78), some (.int l1), some (.int l2), some (.int l3), some (.int (l4 ||| ((nI 1) <<< (l5 &&& 31)))), some (.int (l5 + nI 1)), some (.int l6), some (.int l7)]) (by decide +kernel) (by decide) rfl rfl rfl ?_
      refine ex_goto (pc := 125) (off := -83) (tgt := 42) (by decide +kernel) (by decide) ?_
      exact Ex.msk [true, true, true, true, true, true, false, false] h
  · replace h := h.2 hc
    refine ex_iload (pc := 76) (k := 6) (by decide +kernel) rfl ?_
    refine ex_if_eq (pc := 78) (off := 17) (tgt := 95) (by decide +kernel) (by decide) (fun hc => ?_) (fun hc => ?_)
    · replace h := h.1 hc
      refine ex_iconst (pc := 95) (k := 0) (v := nI 0) (by decide +kernel) (by decide) ?_
      refine ex_istore (pc := 96) (k := 6) (lo2 := [some (.ref 78), some (.int l1), some (.int l2), some (.int l3), some (.int l4), some (.int l5), some (.int (nI 0)), some (.int l7)]) (by decide +kernel) (by decide) rfl ?_
      refine ex_iinc (pc := 98) (i := 7) (k := 1) (v := l7 + nI 1) (lo2 := [some (.ref 78), some (.int l1), some (.int l2), some (.int l3), some (.int l4), some (.int l5), some (.int (nI 0)), some (.int (l7 + nI 1))]) (by decide +kernel) (by decide) rfl rfl rfl ?_
      refine ex_goto (pc := 101) (off := -34) (tgt := 67) (by decide +kernel) (by decide) ?_
      exact h
    · replace h := h.2 hc
      refine ex_aload_n (pc := 81) (k := 0) (by decide +kernel) rfl ?_
      refine ex_iload (pc := 82) (k := 7) (by decide +kernel) rfl ?_
      refine ex_iload_n (pc := 84) (k := 2) (by decide +kernel) rfl ?_
      refine ex_callV (pc := 85) (as := [.int l7, .int l2]) (by decide +kernel) F_MM_doBar (in_t6 (i := 170) rfl rfl) (hF.s (j := 78) rfl) rfl (by decide) rfl rfl (Nat.le_of_ble_eq_true rfl) (Nat.lt_succ_self _) ⟨Nat.zero_le _, Nat.zero_le _⟩ (KC_B (Con.mono h ?_))
      intro o M1 ⟨r1, e9, hF1, h⟩
      refine ⟨r1, e9, ?_⟩
      refine ey_ifneB (pc := 88) (off := 7) (tgt := 95) (by decide +kernel) (by decide) (fun hc => ?_) (fun hc => ?_)
      · replace h := h.1 hc
        refine ex_iconst (pc := 95) (k := 0) (v := nI 0) (by decide +kernel) (by decide) ?_
        refine ex_istore (pc := 96) (k := 6) (lo2 := [some (.ref 78), some (.int l1), some (.int l2), some (.int l3), some (.int l4), some (.int l5), some (.int (nI 0)), some (.int l7)]) (by decide +kernel) (by decide) rfl ?_
        refine ex_iinc (pc := 98) (i := 7) (k := 1) (v := l7 + nI 1) (lo2 := [some (.ref 78), some (.int l1), some (.int l2), some (.int l3), some (.int l4), some (.int l5), some (.int (nI 0)), some (.int (l7 + nI 1))]) (by decide +kernel) (by decide) rfl rfl rfl ?_
        refine ex_goto (pc := 101) (off := -34) (tgt := 67) (by decide +kernel) (by decide) ?_
        exact h
      · replace h := h.2 hc
        refine ex_iconst (pc := 91) (k := 1) (v := nI 1) (by decide +kernel) (by decide) ?_
        refine ex_goto (pc := 92) (off := 4) (tgt := 96) (by decide +kernel) (by decide) ?_
        refine ex_istore (pc := 96) (k := 6) (lo2 := [some (.ref 78), some (.int l1), some (.int l2), some (.int l3), some (.int l4), some (.int l5), some (.int (nI 1)), some (.int l7)]) (by decide +kernel) (by decide) rfl ?_
        refine ex_iinc (pc := 98) (i := 7) (k := 1) (v := l7 + nI 1) (lo2 := [some (.ref 78), some (.int l1), some (.int l2), some (.int l3), some (.int l4), some (.int l5), some (.int (nI 1)), some (.int (l7 + nI 1))]) (by decide +kernel) (by decide) rfl rfl rfl ?_
        refine ex_goto (pc := 101) (off := -34) (tgt := 67) (by decide +kernel) (by decide) ?_
        exact h
theorem k_MM_hurt_0 {d bc bs : Nat} {l1 : Int32} {l2 : Int32} {l3 : Int32} {M : Mem} {Φ : Option Value → Mem → Prop} (hF : Fm M) (h : Con d m_MM_isGiving 0 0 [.ref 78, .int l1] M (PB fun r1 M1 => Fm M1 ∧ (r1 = false → Φ (some (.long (-4611686018427387904))) M1) ∧ (r1 = true → Con d m_MM_isTown 0 0 [.ref 78, .int l2] M1 (PB fun r2 M2 => Fm M2 ∧ (r2 = false → Φ (some (.long (-4611686018427387904))) M2) ∧ (r2 = true → Con d m_MM_isWeek 0 0 [.int l3] M2 (PB fun r3 M3 => Fm M3 ∧ (r3 = true → Con d m_MM_spreads 0 0 [.ref 78] M3 (PV fun M4 => Fm M4 ∧ Con d m_MM_laysNow 0 0 [.ref 78, .int l1, .int l3] M4 (PV fun M5 => Fm M5 ∧ vp_in l1 12 ∧ Con d m_MM_worthAll 0 0 [.ref 78, .int (mi M5 89 l1.toNatClampNeg), .int l2] M5 (PI fun r4 M6 => Fm M6 ∧ vp_in l2 6 ∧ vp_in l1 12 ∧ Con d m_MM_worthAll 0 0 [.ref 78, .int (mi M6 89 l1.toNatClampNeg), .int l2] (wi M6 109 l2.toNatClampNeg (nI 0)) (PI fun r5 M7 => Fm M7 ∧ Φ (some (.long (Int32.toInt64 (r5 - r4)))) M7))))) ∧ (r3 = false → Φ (some (.long (-4611686018427387904))) M3))))))) : Ex (d + 1) m_MM_hurt bc bs 0 [some (.ref 78), some (.int l1), some (.int l2), some (.int l3), none] [] M Φ := by
  refine ex_aload_n (pc := 0) (k := 0) (by decide +kernel) rfl ?_
  refine ex_iload_n (pc := 1) (k := 1) (by decide +kernel) rfl ?_
  refine ex_callV (pc := 2) (as := [.int l1]) (by decide +kernel) F_MM_isGiving (in_t6 (i := 142) rfl rfl) (hF.s (j := 78) rfl) rfl (by decide) rfl rfl (Nat.le_of_ble_eq_true rfl) (Nat.lt_succ_self _) ⟨Nat.zero_le _, Nat.zero_le _⟩ (KC_B (Con.mono h ?_))
  intro o M1 ⟨r1, e9, hF1, h⟩
  refine ⟨r1, e9, ?_⟩
  refine ey_ifeqB (pc := 5) (off := 18) (tgt := 23) (by decide +kernel) (by decide) (fun hc => ?_) (fun hc => ?_)
  · replace h := h.1 hc
    refine ex_ldc2 (pc := 23) (v := -4611686018427387904) (by decide +kernel) (in_t6 (i := 106) rfl rfl) ?_
    exact ex_lreturn (pc := 26) (by decide +kernel) rfl h
  · replace h := h.2 hc
    refine ex_aload_n (pc := 8) (k := 0) (by decide +kernel) rfl ?_
    refine ex_iload_n (pc := 9) (k := 2) (by decide +kernel) rfl ?_
    refine ex_callV (pc := 10) (as := [.int l2]) (by decide +kernel) F_MM_isTown (in_t6 (i := 18) rfl rfl) (hF1.s (j := 78) rfl) rfl (by decide) rfl rfl (Nat.le_of_ble_eq_true rfl) (Nat.lt_succ_self _) ⟨Nat.zero_le _, Nat.zero_le _⟩ (KC_B (Con.mono h ?_))
    intro o M2 ⟨r2, e9, hF2, h⟩
    refine ⟨r2, e9, ?_⟩
    refine ey_ifeqB (pc := 13) (off := 10) (tgt := 23) (by decide +kernel) (by decide) (fun hc => ?_) (fun hc => ?_)
    · replace h := h.1 hc
      refine ex_ldc2 (pc := 23) (v := -4611686018427387904) (by decide +kernel) (in_t6 (i := 106) rfl rfl) ?_
      exact ex_lreturn (pc := 26) (by decide +kernel) rfl h
    · replace h := h.2 hc
      refine ex_iload_n (pc := 16) (k := 3) (by decide +kernel) rfl ?_
      refine ex_callS (pc := 17) (as := [.int l3]) (by decide +kernel) F_MM_isWeek (in_t6 (i := 46) rfl rfl) rfl rfl (Nat.le_of_ble_eq_true rfl) (Nat.lt_succ_self _) ⟨Nat.zero_le _, Nat.zero_le _⟩ (KC_B (Con.mono h ?_))
      intro o M3 ⟨r3, e9, hF3, h⟩
      refine ⟨r3, e9, ?_⟩
      refine ey_ifneB (pc := 20) (off := 7) (tgt := 27) (by decide +kernel) (by decide) (fun hc => ?_) (fun hc => ?_)
      · replace h := h.1 hc
        refine ex_aload_n (pc := 27) (k := 0) (by decide +kernel) rfl ?_
        refine ex_callV (pc := 28) (as := []) (by decide +kernel) F_MM_spreads (in_t6 (i := 26) rfl rfl) (hF3.s (j := 78) rfl) rfl (by decide) rfl rfl (Nat.le_of_ble_eq_true rfl) (Nat.lt_succ_self _) ⟨Nat.zero_le _, Nat.zero_le _⟩ (KC_V (Con.mono h ?_))
        intro o M4 ⟨e9, hF4, h⟩
        refine ⟨e9, ?_⟩
        refine ex_aload_n (pc := 31) (k := 0) (by decide +kernel) rfl ?_
        refine ex_iload_n (pc := 32) (k := 1) (by decide +kernel) rfl ?_
        refine ex_iload_n (pc := 33) (k := 3) (by decide +kernel) rfl ?_
        refine ex_callV (pc := 34) (as := [.int l1, .int l3]) (by decide +kernel) F_MM_laysNow (in_t6 (i := 162) rfl rfl) (hF4.s (j := 78) rfl) rfl (by decide) rfl rfl (Nat.le_of_ble_eq_true rfl) (Nat.lt_succ_self _) ⟨Nat.zero_le _, Nat.zero_le _⟩ (KC_V (Con.mono h ?_))
        intro o M5 ⟨e9, hF5, h⟩
        refine ⟨e9, ?_⟩
        refine ex_aload_n (pc := 37) (k := 0) (by decide +kernel) rfl ?_
        refine ex_aload_n (pc := 38) (k := 0) (by decide +kernel) rfl ?_
        refine ex_getR (pc := 39) (a := 89) (by decide +kernel) lf_MM_47 (hF5.s (j := 78) rfl) (hF5.r (j := 78) (k := 17) rfl rfl) ?_
        refine ex_iload_n (pc := 42) (k := 1) (by decide +kernel) rfl ?_
        obtain ⟨g1, h⟩ := h
        refine ey_iald (pc := 43) (v := mi M5 89 l1.toNatClampNeg) (by decide +kernel) (hF5.s (j := 89) rfl) g1 rfl rfl ?_
        refine ex_iload_n (pc := 44) (k := 2) (by decide +kernel) rfl ?_
        refine ex_callV (pc := 45) (as := [.int (mi M5 89 l1.toNatClampNeg), .int l2]) (by decide +kernel) F_MM_worthAll (in_t6 (i := 186) rfl rfl) (hF5.s (j := 78) rfl) rfl (by decide) rfl rfl (Nat.le_of_ble_eq_true rfl) (Nat.lt_succ_self _) ⟨Nat.zero_le _, Nat.zero_le _⟩ (KC_I (Con.mono h ?_))
        intro o M6 ⟨r4, e9, hF6, h⟩
        refine ⟨r4, e9, ?_⟩
        refine ex_istore (pc := 48) (k := 4) (lo2 := [some (.ref 78), some (.int l1), some (.int l2), some (.int l3), some (.int r4)]) (by decide +kernel) (by decide) rfl ?_
        refine ex_aload_n (pc := 50) (k := 0) (by decide +kernel) rfl ?_
        refine ex_getR (pc := 51) (a := 109) (by decide +kernel) lf_MM_131 (hF6.s (j := 78) rfl) (hF6.r (j := 78) (k := 52) rfl rfl) ?_
        refine ex_iload_n (pc := 54) (k := 2) (by decide +kernel) rfl ?_
        refine ex_iconst (pc := 55) (k := 0) (v := nI 0) (by decide +kernel) (by decide) ?_
        obtain ⟨g2, h⟩ := h
        refine ey_iast (pc := 56) (by decide +kernel) (hF6.s (j := 109) rfl) g2 rfl ?_
        refine ex_aload_n (pc := 57) (k := 0) (by decide +kernel) rfl ?_
        refine ex_aload_n (pc := 58) (k := 0) (by decide +kernel) rfl ?_
        refine ex_getR (pc := 59) (a := 89) (by decide +kernel) lf_MM_47 (hF6.s (j := 78) rfl) (hF6.r (j := 78) (k := 17) rfl rfl) ?_
        refine ex_iload_n (pc := 62) (k := 1) (by decide +kernel) rfl ?_
        obtain ⟨g3, h⟩ := h
        refine ey_iald (pc := 63) (v := mi M6 89 l1.toNatClampNeg) (by decide +kernel) (hF6.s (j := 89) rfl) g3 rfl rfl ?_
        refine ex_iload_n (pc := 64) (k := 2) (by decide +kernel) rfl ?_
        refine ex_callV (pc := 65) (as := [.int (mi M6 89 l1.toNatClampNeg), .int l2]) (by decide +kernel) F_MM_worthAll (in_t6 (i := 186) rfl rfl) (hF6.s (j := 78) rfl) rfl (by decide) rfl rfl (Nat.le_of_ble_eq_true rfl) (Nat.lt_succ_self _) ⟨Nat.zero_le _, Nat.zero_le _⟩ (KC_I (Con.mono h ?_))
        intro o M7 ⟨r5, e9, hF7, h⟩
        refine ⟨r5, e9, ?_⟩
        refine ex_iload (pc := 68) (k := 4) (by decide +kernel) rfl ?_
        refine ex_isub (pc := 70) (by decide +kernel) ?_
        refine ex_i2l (pc := 71) (by decide +kernel) ?_
        exact ex_lreturn (pc := 72) (by decide +kernel) rfl h
      · replace h := h.2 hc
        refine ex_ldc2 (pc := 23) (v := -4611686018427387904) (by decide +kernel) (in_t6 (i := 106) rfl rfl) ?_
        exact ex_lreturn (pc := 26) (by decide +kernel) rfl h
theorem k_MM_sold_0 {d bc bs : Nat} {l1 : Int32} {l2 : Int32} {l3 : Int32} {M : Mem} {Φ : Option Value → Mem → Prop} (hF : Fm M) (h : vp_in l1 6 ∧ (¬ (((mi M 109 l1.toNatClampNeg) >>> (l2 &&& 31)) &&& (nI 1)) = 0 → vp_in l1 6 ∧ (l3 ≤ (mi M 79 l1.toNatClampNeg) → Φ (some (.int l3)) M) ∧ (¬ l3 ≤ (mi M 79 l1.toNatClampNeg) → vp_in l1 6 ∧ Φ (some (.int (mi M 79 l1.toNatClampNeg))) M)) ∧ ((((mi M 109 l1.toNatClampNeg) >>> (l2 &&& 31)) &&& (nI 1)) = 0 → Φ (some (.int (nI 0))) M)) : Ex (d + 1) m_MM_sold bc bs 0 [some (.ref 78), some (.int l1), some (.int l2), some (.int l3)] [] M Φ := by
  refine ex_aload_n (pc := 0) (k := 0) (by decide +kernel) rfl ?_
  refine ex_getR (pc := 1) (a := 109) (by decide +kernel) lf_MM_131 (hF.s (j := 78) rfl) (hF.r (j := 78) (k := 52) rfl rfl) ?_
  refine ex_iload_n (pc := 4) (k := 1) (by decide +kernel) rfl ?_
  obtain ⟨g1, h⟩ := h
  refine ey_iald (pc := 5) (v := mi M 109 l1.toNatClampNeg) (by decide +kernel) (hF.s (j := 109) rfl) g1 rfl rfl ?_
  refine ex_iload_n (pc := 6) (k := 2) (by decide +kernel) rfl ?_
  refine ex_ishr (pc := 7) (by decide +kernel) ?_
  refine ex_iconst (pc := 8) (k := 1) (v := nI 1) (by decide +kernel) (by decide) ?_
  refine ex_iand (pc := 9) (by decide +kernel) ?_
  refine ex_if_ne (pc := 10) (off := 7) (tgt := 17) (by decide +kernel) (by decide) (fun hc => ?_) (fun hc => ?_)
  · replace h := h.1 hc
    refine ex_aload_n (pc := 17) (k := 0) (by decide +kernel) rfl ?_
    refine ex_getR (pc := 18) (a := 79) (by decide +kernel) lf_MM_7 (hF.s (j := 78) rfl) (hF.r (j := 78) (k := 1) rfl rfl) ?_
    refine ex_iload_n (pc := 21) (k := 1) (by decide +kernel) rfl ?_
    obtain ⟨g2, h⟩ := h
    refine ey_iald (pc := 22) (v := mi M 79 l1.toNatClampNeg) (by decide +kernel) (hF.s (j := 79) rfl) g2 rfl rfl ?_
    refine ex_iload_n (pc := 23) (k := 3) (by decide +kernel) rfl ?_
    refine ex_icmp_ge (pc := 24) (off := 12) (tgt := 36) (by decide +kernel) (by decide) (fun hc => ?_) (fun hc => ?_)
    · replace h := h.1 hc
      refine ex_iload_n (pc := 36) (k := 3) (by decide +kernel) rfl ?_
      exact ex_ireturn (pc := 37) (by decide +kernel) rfl rfl h
    · replace h := h.2 hc
      refine ex_aload_n (pc := 27) (k := 0) (by decide +kernel) rfl ?_
      refine ex_getR (pc := 28) (a := 79) (by decide +kernel) lf_MM_7 (hF.s (j := 78) rfl) (hF.r (j := 78) (k := 1) rfl rfl) ?_
      refine ex_iload_n (pc := 31) (k := 1) (by decide +kernel) rfl ?_
      obtain ⟨g3, h⟩ := h
      refine ey_iald (pc := 32) (v := mi M 79 l1.toNatClampNeg) (by decide +kernel) (hF.s (j := 79) rfl) g3 rfl rfl ?_
      refine ex_goto (pc := 33) (off := 4) (tgt := 37) (by decide +kernel) (by decide) ?_
      exact ex_ireturn (pc := 37) (by decide +kernel) rfl rfl h
  · replace h := h.2 hc
    refine ex_iconst (pc := 13) (k := 0) (v := nI 0) (by decide +kernel) (by decide) ?_
    refine ex_goto (pc := 14) (off := 23) (tgt := 37) (by decide +kernel) (by decide) ?_
    exact ex_ireturn (pc := 37) (by decide +kernel) rfl rfl h
theorem k_MM_soldBy_0 {d bc bs : Nat} {l1 : Int32} {l2 : Int32} {l3 : Int32} {l4 : Int32} {l5 : Int32} {l6 : Int32} {M : Mem} {Φ : Option Value → Mem → Prop} (hF : Fm M) (h : vp_in (((nI 6) * l1) + l2) 36 ∧ (l5 < (mi M 103 ((((nI 6) * l1) + l2).toNatClampNeg)) → Φ (some (.int (-1))) M) ∧ (¬ l5 < (mi M 103 ((((nI 6) * l1) + l2).toNatClampNeg)) → (¬ l3 = ((mi M 78 6) - (nI 1)) → Ex (d + 1) m_MM_soldBy bc bs 34 [some (.ref 78), some (.int l1), some (.int l2), some (.int l3), some (.int l4), some (.int l5), some (.int l6), none, none] [] M Φ) ∧ (l3 = ((mi M 78 6) - (nI 1)) → (l2 = l6 → Ex (d + 1) m_MM_soldBy bc bs 34 [some (.ref 78), some (.int l1), some (.int l2), some (.int l3), some (.int l4), some (.int l5), some (.int l6), none, none] [] M Φ) ∧ (¬ l2 = l6 → Φ (some (.int (-1))) M)))) : Ex (d + 1) m_MM_soldBy bc bs 0 [some (.ref 78), some (.int l1), some (.int l2), some (.int l3), some (.int l4), some (.int l5), some (.int l6), none, none] [] M Φ := by
  refine ex_aload_n (pc := 0) (k := 0) (by decide +kernel) rfl ?_
  refine ex_getR (pc := 1) (a := 103) (by decide +kernel) lf_MM_89 (hF.s (j := 78) rfl) (hF.r (j := 78) (k := 39) rfl rfl) ?_
  refine ex_bipush (pc := 4) (k := 6) (v := nI 6) (by decide +kernel) (by decide) ?_
  refine ex_iload_n (pc := 6) (k := 1) (by decide +kernel) rfl ?_
  refine ex_imul (pc := 7) (by decide +kernel) ?_
  refine ex_iload_n (pc := 8) (k := 2) (by decide +kernel) rfl ?_
  refine ex_iadd (pc := 9) (by decide +kernel) ?_
  obtain ⟨g1, h⟩ := h
  refine ey_iald (pc := 10) (v := mi M 103 ((((nI 6) * l1) + l2).toNatClampNeg)) (by decide +kernel) (hF.s (j := 103) rfl) g1 rfl rfl ?_
  refine ex_iload (pc := 11) (k := 5) (by decide +kernel) rfl ?_
  refine ex_icmp_gt (pc := 13) (off := 19) (tgt := 32) (by decide +kernel) (by decide) (fun hc => ?_) (fun hc => ?_)
  · replace h := h.1 hc
    refine ex_iconst (pc := 32) (k := -1) (v := -1) (by decide +kernel) (by decide) ?_
    exact ex_ireturn (pc := 33) (by decide +kernel) rfl rfl h
  · replace h := h.2 hc
    refine ex_iload_n (pc := 16) (k := 3) (by decide +kernel) rfl ?_
    refine ex_aload_n (pc := 17) (k := 0) (by decide +kernel) rfl ?_
    refine ey_getI (pc := 18) (v := mi M 78 6) (by decide +kernel) lf_MM_25 (hF.s (j := 78) rfl) rfl ?_
    refine ex_iconst (pc := 21) (k := 1) (v := nI 1) (by decide +kernel) (by decide) ?_
    refine ex_isub (pc := 22) (by decide +kernel) ?_
    refine ex_icmp_ne (pc := 23) (off := 11) (tgt := 34) (by decide +kernel) (by decide) (fun hc => ?_) (fun hc => ?_)
    · replace h := h.1 hc
      exact h
    · replace h := h.2 hc
      refine ex_iload_n (pc := 26) (k := 2) (by decide +kernel) rfl ?_
      refine ex_iload (pc := 27) (k := 6) (by decide +kernel) rfl ?_
      refine ex_icmp_eq (pc := 29) (off := 5) (tgt := 34) (by decide +kernel) (by decide) (fun hc => ?_) (fun hc => ?_)
      · replace h := h.1 hc
        exact h
      · replace h := h.2 hc
        refine ex_iconst (pc := 32) (k := -1) (v := -1) (by decide +kernel) (by decide) ?_
        exact ex_ireturn (pc := 33) (by decide +kernel) rfl rfl h
theorem k_MM_soldBy_34 {d bc bs : Nat} {l1 : Int32} {l2 : Int32} {l3 : Int32} {l4 : Int32} {l5 : Int32} {l6 : Int32} {M : Mem} {Φ : Option Value → Mem → Prop} (hF : Fm M) (h : Con d m_MM_sold 0 0 [.ref 78, .int l2, .int l3, .int l4] M (PI fun r1 M1 => Fm M1 ∧ (¬ l3 = ((mi M1 78 6) - (nI 1)) → vp_in (((((nI 246) * (l3 + (nI 1))) + ((nI 41) * l2)) + l4) - r1) 1968 ∧ (¬ (mi M1 112 ((((((nI 246) * (l3 + (nI 1))) + ((nI 41) * l2)) + l4) - r1).toNatClampNeg)) = (-1) → Φ (some (.int (r1 + (mi M1 112 ((((((nI 246) * (l3 + (nI 1))) + ((nI 41) * l2)) + l4) - r1).toNatClampNeg))))) M1) ∧ ((mi M1 112 ((((((nI 246) * (l3 + (nI 1))) + ((nI 41) * l2)) + l4) - r1).toNatClampNeg)) = (-1) → Φ (some (.int (-1))) M1)) ∧ (l3 = ((mi M1 78 6) - (nI 1)) → (¬ (nI 0) = (-1) → Φ (some (.int (r1 + (nI 0)))) M1) ∧ ((nI 0) = (-1) → Φ (some (.int (-1))) M1)))) : Ex (d + 1) m_MM_soldBy bc bs 34 [some (.ref 78), some (.int l1), some (.int l2), some (.int l3), some (.int l4), some (.int l5), some (.int l6), none, none] [] M Φ := by
  refine ex_aload_n (pc := 34) (k := 0) (by decide +kernel) rfl ?_
  refine ex_iload_n (pc := 35) (k := 2) (by decide +kernel) rfl ?_
  refine ex_iload_n (pc := 36) (k := 3) (by decide +kernel) rfl ?_
  refine ex_iload (pc := 37) (k := 4) (by decide +kernel) rfl ?_
  refine ex_callV (pc := 39) (as := [.int l2, .int l3, .int l4]) (by decide +kernel) F_MM_sold (in_t7 (i := 33) rfl rfl) (hF.s (j := 78) rfl) rfl (by decide) rfl rfl (Nat.le_of_ble_eq_true rfl) (Nat.lt_succ_self _) ⟨Nat.zero_le _, Nat.zero_le _⟩ (KC_I (Con.mono h ?_))
  intro o M1 ⟨r1, e9, hF1, h⟩
  refine ⟨r1, e9, ?_⟩
  refine ex_istore (pc := 42) (k := 7) (lo2 := [some (.ref 78), some (.int l1), some (.int l2), some (.int l3), some (.int l4), some (.int l5), some (.int l6), some (.int r1), none]) (by decide +kernel) (by decide) rfl ?_
  refine ex_iload_n (pc := 44) (k := 3) (by decide +kernel) rfl ?_
  refine ex_aload_n (pc := 45) (k := 0) (by decide +kernel) rfl ?_
  refine ey_getI (pc := 46) (v := mi M1 78 6) (by decide +kernel) lf_MM_25 (hF1.s (j := 78) rfl) rfl ?_
  refine ex_iconst (pc := 49) (k := 1) (v := nI 1) (by decide +kernel) (by decide) ?_
  refine ex_isub (pc := 50) (by decide +kernel) ?_
  refine ex_icmp_ne (pc := 51) (off := 7) (tgt := 58) (by decide +kernel) (by decide) (fun hc => ?_) (fun hc => ?_)
  · replace h := h.1 hc
    refine ex_aload_n (pc := 58) (k := 0) (by decide +kernel) rfl ?_
    refine ex_getR (pc := 59) (a := 112) (by decide +kernel) lf_MM_140 (hF1.s (j := 78) rfl) (hF1.r (j := 78) (k := 55) rfl rfl) ?_
    refine ex_sipush (pc := 62) (k := 246) (v := nI 246) (by decide +kernel) (by decide) ?_
    refine ex_iload_n (pc := 65) (k := 3) (by decide +kernel) rfl ?_
    refine ex_iconst (pc := 66) (k := 1) (v := nI 1) (by decide +kernel) (by decide) ?_
    refine ex_iadd (pc := 67) (by decide +kernel) ?_
    refine ex_imul (pc := 68) (by decide +kernel) ?_
    refine ex_bipush (pc := 69) (k := 41) (v := nI 41) (by decide +kernel) (by decide) ?_
    refine ex_iload_n (pc := 71) (k := 2) (by decide +kernel) rfl ?_
    refine ex_imul (pc := 72) (by decide +kernel) ?_
    refine ex_iadd (pc := 73) (by decide +kernel) ?_
    refine ex_iload (pc := 74) (k := 4) (by decide +kernel) rfl ?_
    refine ex_iadd (pc := 76) (by decide +kernel) ?_
    refine ex_iload (pc := 77) (k := 7) (by decide +kernel) rfl ?_
    refine ex_isub (pc := 79) (by decide +kernel) ?_
    obtain ⟨g1, h⟩ := h
    refine ey_iald (pc := 80) (v := mi M1 112 ((((((nI 246) * (l3 + (nI 1))) + ((nI 41) * l2)) + l4) - r1).toNatClampNeg)) (by decide +kernel) (hF1.s (j := 112) rfl) g1 rfl rfl ?_
    refine ex_istore (pc := 81) (k := 8) (lo2 := [some (.ref 78), some (.int l1), some (.int l2), some (.int l3), some (.int l4), some (.int l5), some (.int l6), some (.int r1), some (.int (mi M1 112 ((((((nI 246) * (l3 + (nI 1))) + ((nI 41) * l2)) + l4) - r1).toNatClampNeg)))]) (by decide +kernel) (by decide) rfl ?_
    refine ex_iload (pc := 83) (k := 8) (by decide +kernel) rfl ?_
    refine ex_iconst (pc := 85) (k := -1) (v := -1) (by decide +kernel) (by decide) ?_
    refine ex_icmp_ne (pc := 86) (off := 7) (tgt := 93) (by decide +kernel) (by decide) (fun hc => ?_) (fun hc => ?_)
    · replace h := h.1 hc
      refine ex_iload (pc := 93) (k := 7) (by decide +kernel) rfl ?_
      refine ex_iload (pc := 95) (k := 8) (by decide +kernel) rfl ?_
      refine ex_iadd (pc := 97) (by decide +kernel) ?_
      exact ex_ireturn (pc := 98) (by decide +kernel) rfl rfl h
    · replace h := h.2 hc
      refine ex_iconst (pc := 89) (k := -1) (v := -1) (by decide +kernel) (by decide) ?_
      refine ex_goto (pc := 90) (off := 8) (tgt := 98) (by decide +kernel) (by decide) ?_
      exact ex_ireturn (pc := 98) (by decide +kernel) rfl rfl h
  · replace h := h.2 hc
    refine ex_iconst (pc := 54) (k := 0) (v := nI 0) (by decide +kernel) (by decide) ?_
    refine ex_goto (pc := 55) (off := 26) (tgt := 81) (by decide +kernel) (by decide) ?_
    refine ex_istore (pc := 81) (k := 8) (lo2 := [some (.ref 78), some (.int l1), some (.int l2), some (.int l3), some (.int l4), some (.int l5), some (.int l6), some (.int r1), some (.int (nI 0))]) (by decide +kernel) (by decide) rfl ?_
    refine ex_iload (pc := 83) (k := 8) (by decide +kernel) rfl ?_
    refine ex_iconst (pc := 85) (k := -1) (v := -1) (by decide +kernel) (by decide) ?_
    refine ex_icmp_ne (pc := 86) (off := 7) (tgt := 93) (by decide +kernel) (by decide) (fun hc => ?_) (fun hc => ?_)
    · replace h := h.1 hc
      refine ex_iload (pc := 93) (k := 7) (by decide +kernel) rfl ?_
      refine ex_iload (pc := 95) (k := 8) (by decide +kernel) rfl ?_
      refine ex_iadd (pc := 97) (by decide +kernel) ?_
      exact ex_ireturn (pc := 98) (by decide +kernel) rfl rfl h
    · replace h := h.2 hc
      refine ex_iconst (pc := 89) (k := -1) (v := -1) (by decide +kernel) (by decide) ?_
      refine ex_goto (pc := 90) (off := 8) (tgt := 98) (by decide +kernel) (by decide) ?_
      exact ex_ireturn (pc := 98) (by decide +kernel) rfl rfl h
theorem k_MM_round_0 {d bc bs : Nat} {l1 : Int32} {l2 : Int32} {l3 : Int32} {l4 : Int32} {l5 : Int32} {M : Mem} {Φ : Option Value → Mem → Prop} (hF : Fm M) (h : Con d m_MM_isGiving 0 0 [.ref 78, .int l1] M (PB fun r1 M1 => Fm M1 ∧ (r1 = false → Φ (some (.int (-2))) M1) ∧ (r1 = true → Con d m_MM_isWeek 0 0 [.int l2] M1 (PB fun r2 M2 => Fm M2 ∧ (r2 = false → Φ (some (.int (-2))) M2) ∧ (r2 = true → Con d m_MM_isTown 0 0 [.ref 78, .int l3] M2 (PB fun r3 M3 => Fm M3 ∧ (r3 = false → Φ (some (.int (-2))) M3) ∧ (r3 = true → Con d m_MM_in 0 0 [.int l4, .int (nI 0), .int (nI 50)] M3 (PB fun r4 M4 => Fm M4 ∧ (r4 = false → Φ (some (.int (-2))) M4) ∧ (r4 = true → Con d m_MM_in 0 0 [.int l5, .int (nI 0), .int (nI 40)] M4 (PB fun r5 M5 => Fm M5 ∧ (r5 = true → Con d m_MM_spreads 0 0 [.ref 78] M5 (PV fun M6 => Fm M6 ∧ Con d m_MM_laysNow 0 0 [.ref 78, .int l1, .int l2] M6 (PV fun M7 => Fm M7 ∧ Ex (d + 1) m_MM_round bc bs 66 [some (.ref 78), some (.int l1), some (.int l2), some (.int l3), some (.int l4), some (.int l5), some (.int ((mi M7 78 6) - (nI 1))), none, none, none, none, none] [] M7 Φ))) ∧ (r5 = false → Φ (some (.int (-2))) M5))))))))))) : Ex (d + 1) m_MM_round bc bs 0 [some (.ref 78), some (.int l1), some (.int l2), some (.int l3), some (.int l4), some (.int l5), none, none, none, none, none, none] [] M Φ := by
  refine ex_aload_n (pc := 0) (k := 0) (by decide +kernel) rfl ?_
  refine ex_iload_n (pc := 1) (k := 1) (by decide +kernel) rfl ?_
  refine ex_callV (pc := 2) (as := [.int l1]) (by decide +kernel) F_MM_isGiving (in_t6 (i := 142) rfl rfl) (hF.s (j := 78) rfl) rfl (by decide) rfl rfl (Nat.le_of_ble_eq_true rfl) (Nat.lt_succ_self _) ⟨Nat.zero_le _, Nat.zero_le _⟩ (KC_B (Con.mono h ?_))
  intro o M1 ⟨r1, e9, hF1, h⟩
  refine ⟨r1, e9, ?_⟩
  refine ey_ifeqB (pc := 5) (off := 40) (tgt := 45) (by decide +kernel) (by decide) (fun hc => ?_) (fun hc => ?_)
  · replace h := h.1 hc
    refine ex_bipush (pc := 45) (k := -2) (v := -2) (by decide +kernel) (by decide) ?_
    exact ex_ireturn (pc := 47) (by decide +kernel) rfl rfl h
  · replace h := h.2 hc
    refine ex_iload_n (pc := 8) (k := 2) (by decide +kernel) rfl ?_
    refine ex_callS (pc := 9) (as := [.int l2]) (by decide +kernel) F_MM_isWeek (in_t6 (i := 46) rfl rfl) rfl rfl (Nat.le_of_ble_eq_true rfl) (Nat.lt_succ_self _) ⟨Nat.zero_le _, Nat.zero_le _⟩ (KC_B (Con.mono h ?_))
    intro o M2 ⟨r2, e9, hF2, h⟩
    refine ⟨r2, e9, ?_⟩
    refine ey_ifeqB (pc := 12) (off := 33) (tgt := 45) (by decide +kernel) (by decide) (fun hc => ?_) (fun hc => ?_)
    · replace h := h.1 hc
      refine ex_bipush (pc := 45) (k := -2) (v := -2) (by decide +kernel) (by decide) ?_
      exact ex_ireturn (pc := 47) (by decide +kernel) rfl rfl h
    · replace h := h.2 hc
      refine ex_aload_n (pc := 15) (k := 0) (by decide +kernel) rfl ?_
      refine ex_iload_n (pc := 16) (k := 3) (by decide +kernel) rfl ?_
      refine ex_callV (pc := 17) (as := [.int l3]) (by decide +kernel) F_MM_isTown (in_t6 (i := 18) rfl rfl) (hF2.s (j := 78) rfl) rfl (by decide) rfl rfl (Nat.le_of_ble_eq_true rfl) (Nat.lt_succ_self _) ⟨Nat.zero_le _, Nat.zero_le _⟩ (KC_B (Con.mono h ?_))
      intro o M3 ⟨r3, e9, hF3, h⟩
      refine ⟨r3, e9, ?_⟩
      refine ey_ifeqB (pc := 20) (off := 25) (tgt := 45) (by decide +kernel) (by decide) (fun hc => ?_) (fun hc => ?_)
      · replace h := h.1 hc
        refine ex_bipush (pc := 45) (k := -2) (v := -2) (by decide +kernel) (by decide) ?_
        exact ex_ireturn (pc := 47) (by decide +kernel) rfl rfl h
      · replace h := h.2 hc
        refine ex_iload (pc := 23) (k := 4) (by decide +kernel) rfl ?_
        refine ex_iconst (pc := 25) (k := 0) (v := nI 0) (by decide +kernel) (by decide) ?_
        refine ex_bipush (pc := 26) (k := 50) (v := nI 50) (by decide +kernel) (by decide) ?_
        refine ex_callS (pc := 28) (as := [.int l4, .int (nI 0), .int (nI 50)]) (by decide +kernel) F_MM_in (in_t6 (i := 11) rfl rfl) rfl rfl (Nat.le_of_ble_eq_true rfl) (Nat.lt_succ_self _) ⟨Nat.zero_le _, Nat.zero_le _⟩ (KC_B (Con.mono h ?_))
        intro o M4 ⟨r4, e9, hF4, h⟩
        refine ⟨r4, e9, ?_⟩
        refine ey_ifeqB (pc := 31) (off := 14) (tgt := 45) (by decide +kernel) (by decide) (fun hc => ?_) (fun hc => ?_)
        · replace h := h.1 hc
          refine ex_bipush (pc := 45) (k := -2) (v := -2) (by decide +kernel) (by decide) ?_
          exact ex_ireturn (pc := 47) (by decide +kernel) rfl rfl h
        · replace h := h.2 hc
          refine ex_iload (pc := 34) (k := 5) (by decide +kernel) rfl ?_
          refine ex_iconst (pc := 36) (k := 0) (v := nI 0) (by decide +kernel) (by decide) ?_
          refine ex_bipush (pc := 37) (k := 40) (v := nI 40) (by decide +kernel) (by decide) ?_
          refine ex_callS (pc := 39) (as := [.int l5, .int (nI 0), .int (nI 40)]) (by decide +kernel) F_MM_in (in_t6 (i := 11) rfl rfl) rfl rfl (Nat.le_of_ble_eq_true rfl) (Nat.lt_succ_self _) ⟨Nat.zero_le _, Nat.zero_le _⟩ (KC_B (Con.mono h ?_))
          intro o M5 ⟨r5, e9, hF5, h⟩
          refine ⟨r5, e9, ?_⟩
          refine ey_ifneB (pc := 42) (off := 6) (tgt := 48) (by decide +kernel) (by decide) (fun hc => ?_) (fun hc => ?_)
          · replace h := h.1 hc
            refine ex_aload_n (pc := 48) (k := 0) (by decide +kernel) rfl ?_
            refine ex_callV (pc := 49) (as := []) (by decide +kernel) F_MM_spreads (in_t6 (i := 26) rfl rfl) (hF5.s (j := 78) rfl) rfl (by decide) rfl rfl (Nat.le_of_ble_eq_true rfl) (Nat.lt_succ_self _) ⟨Nat.zero_le _, Nat.zero_le _⟩ (KC_V (Con.mono h ?_))
            intro o M6 ⟨e9, hF6, h⟩
            refine ⟨e9, ?_⟩
            refine ex_aload_n (pc := 52) (k := 0) (by decide +kernel) rfl ?_
            refine ex_iload_n (pc := 53) (k := 1) (by decide +kernel) rfl ?_
            refine ex_iload_n (pc := 54) (k := 2) (by decide +kernel) rfl ?_
            refine ex_callV (pc := 55) (as := [.int l1, .int l2]) (by decide +kernel) F_MM_laysNow (in_t6 (i := 162) rfl rfl) (hF6.s (j := 78) rfl) rfl (by decide) rfl rfl (Nat.le_of_ble_eq_true rfl) (Nat.lt_succ_self _) ⟨Nat.zero_le _, Nat.zero_le _⟩ (KC_V (Con.mono h ?_))
            intro o M7 ⟨e9, hF7, h⟩
            refine ⟨e9, ?_⟩
            refine ex_aload_n (pc := 58) (k := 0) (by decide +kernel) rfl ?_
            refine ey_getI (pc := 59) (v := mi M7 78 6) (by decide +kernel) lf_MM_25 (hF7.s (j := 78) rfl) rfl ?_
            refine ex_iconst (pc := 62) (k := 1) (v := nI 1) (by decide +kernel) (by decide) ?_
            refine ex_isub (pc := 63) (by decide +kernel) ?_
            refine ex_istore (pc := 64) (k := 6) (lo2 := [some (.ref 78), some (.int l1), some (.int l2), some (.int l3), some (.int l4), some (.int l5), some (.int ((mi M7 78 6) - (nI 1))), none, none, none, none, none]) (by decide +kernel) (by decide) rfl ?_
            exact h
          · replace h := h.2 hc
            refine ex_bipush (pc := 45) (k := -2) (v := -2) (by decide +kernel) (by decide) ?_
            exact ex_ireturn (pc := 47) (by decide +kernel) rfl rfl h
theorem k_MM_round_66 {d bc bs : Nat} {l1 : Int32} {l2 : Int32} {l3 : Int32} {l4 : Int32} {l5 : Int32} {l6 : Int32} {M : Mem} {Φ : Option Value → Mem → Prop} (hF : Fm M) (h : (l6 < 0 → Ex (d + 1) m_MM_round bc bs 205 [some (.ref 78), some (.int l1), some (.int l2), some (.int l3), some (.int l4), some (.int l5), some (.int l3), some (.int l5), some (.int (nI 0)), none, none, none] [] (wi M 78 23 (mi M 78 6)) Φ) ∧ (¬ l6 < 0 → Ex (d + 1) m_MM_round bc bs 74 [some (.ref 78), some (.int l1), some (.int l2), some (.int l3), some (.int l4), some (.int l5), some (.int l6), some (.int (nI 0)), none, none, none, none] [] M Φ)) : Ex (d + 1) m_MM_round bc bs 66 [some (.ref 78), some (.int l1), some (.int l2), some (.int l3), some (.int l4), some (.int l5), some (.int l6), none, none, none, none, none] [] M Φ := by
  refine ex_iload (pc := 66) (k := 6) (by decide +kernel) rfl ?_
  refine ex_if_lt (pc := 68) (off := 119) (tgt := 187) (by decide +kernel) (by decide) (fun hc => ?_) (fun hc => ?_)
  · replace h := h.1 hc
    refine ex_aload_n (pc := 187) (k := 0) (by decide +kernel) rfl ?_
    refine ex_aload_n (pc := 188) (k := 0) (by decide +kernel) rfl ?_
    refine ey_getI (pc := 189) (v := mi M 78 6) (by decide +kernel) lf_MM_25 (hF.s (j := 78) rfl) rfl ?_
    refine ex_putI (pc := 192) (index := 341) (ci := 11) (k := 23) (fin := false) (by decide +kernel) ⟨_, _, _, _, cf_MM, by decide, in_t5 (i := 99) rfl rfl, rfl, (fun h => by cases h), rfl, rfl⟩ rfl (fun h => by cases h) (hF.s (j := 78) rfl) ?_
    refine ex_iload_n (pc := 195) (k := 3) (by decide +kernel) rfl ?_
    refine ex_istore (pc := 196) (k := 6) (lo2 := [some (.ref 78), some (.int l1), some (.int l2), some (.int l3), some (.int l4), some (.int l5), some (.int l3), none, none, none, none, none]) (by decide +kernel) (by decide) rfl ?_
    refine ex_iload (pc := 198) (k := 5) (by decide +kernel) rfl ?_
    refine ex_istore (pc := 200) (k := 7) (lo2 := [some (.ref 78), some (.int l1), some (.int l2), some (.int l3), some (.int l4), some (.int l5), some (.int l3), some (.int l5), none, none, none, none]) (by decide +kernel) (by decide) rfl ?_
    refine ex_iconst (pc := 202) (k := 0) (v := nI 0) (by decide +kernel) (by decide) ?_
    refine ex_istore (pc := 203) (k := 8) (lo2 := [some (.ref 78), some (.int l1), some (.int l2), some (.int l3), some (.int l4), some (.int l5), some (.int l3), some (.int l5), some (.int (nI 0)), none, none, none]) (by decide +kernel) (by decide) rfl ?_
    exact h
  · replace h := h.2 hc
    refine ex_iconst (pc := 71) (k := 0) (v := nI 0) (by decide +kernel) (by decide) ?_
    refine ex_istore (pc := 72) (k := 7) (lo2 := [some (.ref 78), some (.int l1), some (.int l2), some (.int l3), some (.int l4), some (.int l5), some (.int l6), some (.int (nI 0)), none, none, none, none]) (by decide +kernel) (by decide) rfl ?_
    exact h
theorem k_MM_round_74 {d bc bs : Nat} {l1 : Int32} {l2 : Int32} {l3 : Int32} {l4 : Int32} {l5 : Int32} {l6 : Int32} {l7 : Int32} {M : Mem} {Φ : Option Value → Mem → Prop} (hF : Fm M) (h : ((mi M 78 0) ≤ l7 → Ex (d + 1) m_MM_round bc bs 66 [some (.ref 78), some (.int l1), some (.int l2), some (.int l3), some (.int l4), some (.int l5), some (.int (l6 + (-1))), none, none, none, none, none] [] M Φ) ∧ (¬ (mi M 78 0) ≤ l7 → Ex (d + 1) m_MM_round bc bs 86 [some (.ref 78), some (.int l1), some (.int l2), some (.int l3), some (.int l4), some (.int l5), some (.int l6), some (.int l7), some (.int (nI 0)), none, none, none] [] M Φ)) : Ex (d + 1) m_MM_round bc bs 74 [some (.ref 78), some (.int l1), some (.int l2), some (.int l3), some (.int l4), some (.int l5), some (.int l6), some (.int l7), none, none, none, none] [] M Φ := by
  refine ex_iload (pc := 74) (k := 7) (by decide +kernel) rfl ?_
  refine ex_aload_n (pc := 76) (k := 0) (by decide +kernel) rfl ?_
  refine ey_getI (pc := 77) (v := mi M 78 0) (by decide +kernel) lf_MM_151 (hF.s (j := 78) rfl) rfl ?_
  refine ex_icmp_ge (pc := 80) (off := 101) (tgt := 181) (by decide +kernel) (by decide) (fun hc => ?_) (fun hc => ?_)
  · replace h := h.1 hc
    refine ex_iinc (pc := 181) (i := 6) (k := -1) (v := l6 + (-1)) (lo2 := [some (.ref 78), some (.int l1), some (.int l2), some (.int l3), some (.int l4), some (.int l5), some (.int (l6 + (-1))), some (.int l7), none, none, none, none]) (by decide +kernel) (by decide) rfl rfl rfl ?_
    refine ex_goto (pc := 184) (off := -118) (tgt := 66) (by decide +kernel) (by decide) ?_
    exact Ex.msk [true, true, true, true, true, true, true, false, true, true, true, true] h
  · replace h := h.2 hc
    refine ex_iconst (pc := 83) (k := 0) (v := nI 0) (by decide +kernel) (by decide) ?_
    refine ex_istore (pc := 84) (k := 8) (lo2 := [some (.ref 78), some (.int l1), some (.int l2), some (.int l3), some (.int l4), some (.int l5), some (.int l6), some (.int l7), some (.int (nI 0)), none, none, none]) (by decide +kernel) (by decide) rfl ?_
    exact h
theorem k_MM_round_86 {d bc bs : Nat} {l1 : Int32} {l2 : Int32} {l3 : Int32} {l4 : Int32} {l5 : Int32} {l6 : Int32} {l7 : Int32} {l8 : Int32} {M : Mem} {Φ : Option Value → Mem → Prop} (hF : Fm M) (h : (l5 < l8 → Ex (d + 1) m_MM_round bc bs 74 [some (.ref 78), some (.int l1), some (.int l2), some (.int l3), some (.int l4), some (.int l5), some (.int l6), some (.int (l7 + nI 1)), none, none, none, none] [] M Φ) ∧ (¬ l5 < l8 → Ex (d + 1) m_MM_round bc bs 99 [some (.ref 78), some (.int l1), some (.int l2), some (.int l3), some (.int l4), some (.int l5), some (.int l6), some (.int l7), some (.int l8), some (.int (-1)), some (.int (nI 0)), none] [] M Φ)) : Ex (d + 1) m_MM_round bc bs 86 [some (.ref 78), some (.int l1), some (.int l2), some (.int l3), some (.int l4), some (.int l5), some (.int l6), some (.int l7), some (.int l8), none, none, none] [] M Φ := by
  refine ex_iload (pc := 86) (k := 8) (by decide +kernel) rfl ?_
  refine ex_iload (pc := 88) (k := 5) (by decide +kernel) rfl ?_
  refine ex_icmp_gt (pc := 90) (off := 85) (tgt := 175) (by decide +kernel) (by decide) (fun hc => ?_) (fun hc => ?_)
  · replace h := h.1 hc
    refine ex_iinc (pc := 175) (i := 7) (k := 1) (v := l7 + nI 1) (lo2 := [some (.ref 78), some (.int l1), some (.int l2), some (.int l3), some (.int l4), some (.int l5), some (.int l6), some (.int (l7 + nI 1)), some (.int l8), none, none, none]) (by decide +kernel) (by decide) rfl rfl rfl ?_
    refine ex_goto (pc := 178) (off := -104) (tgt := 74) (by decide +kernel) (by decide) ?_
    exact Ex.msk [true, true, true, true, true, true, true, true, false, true, true, true] h
  · replace h := h.2 hc
    refine ex_iconst (pc := 93) (k := -1) (v := -1) (by decide +kernel) (by decide) ?_
    refine ex_istore (pc := 94) (k := 9) (lo2 := [some (.ref 78), some (.int l1), some (.int l2), some (.int l3), some (.int l4), some (.int l5), some (.int l6), some (.int l7), some (.int l8), some (.int (-1)), none, none]) (by decide +kernel) (by decide) rfl ?_
    refine ex_iconst (pc := 96) (k := 0) (v := nI 0) (by decide +kernel) (by decide) ?_
    refine ex_istore (pc := 97) (k := 10) (lo2 := [some (.ref 78), some (.int l1), some (.int l2), some (.int l3), some (.int l4), some (.int l5), some (.int l6), some (.int l7), some (.int l8), some (.int (-1)), some (.int (nI 0)), none]) (by decide +kernel) (by decide) rfl ?_
    exact h
theorem k_MM_round_99 {d bc bs : Nat} {l1 : Int32} {l2 : Int32} {l3 : Int32} {l4 : Int32} {l5 : Int32} {l6 : Int32} {l7 : Int32} {l8 : Int32} {l9 : Int32} {l10 : Int32} {M : Mem} {Φ : Option Value → Mem → Prop} (hF : Fm M) (h : ((mi M 78 0) ≤ l10 → vp_in ((((nI 246) * l6) + ((nI 41) * l7)) + l8) 1968 ∧ Ex (d + 1) m_MM_round bc bs 86 [some (.ref 78), some (.int l1), some (.int l2), some (.int l3), some (.int l4), some (.int l5), some (.int l6), some (.int l7), some (.int (l8 + nI 1)), none, none, none] [] (wi M 112 (((((nI 246) * l6) + ((nI 41) * l7)) + l8).toNatClampNeg) l9) Φ) ∧ (¬ (mi M 78 0) ≤ l10 → Con d m_MM_soldBy 0 0 [.ref 78, .int l7, .int l10, .int l6, .int l8, .int l4, .int l3] M (PI fun r1 M1 => Fm M1 ∧ (r1 ≤ l9 → Ex (d + 1) m_MM_round bc bs 99 [some (.ref 78), some (.int l1), some (.int l2), some (.int l3), some (.int l4), some (.int l5), some (.int l6), some (.int l7), some (.int l8), some (.int l9), some (.int (l10 + nI 1)), none] [] M1 Φ) ∧ (¬ r1 ≤ l9 → Ex (d + 1) m_MM_round bc bs 99 [some (.ref 78), some (.int l1), some (.int l2), some (.int l3), some (.int l4), some (.int l5), some (.int l6), some (.int l7), some (.int l8), some (.int r1), some (.int (l10 + nI 1)), none] [] M1 Φ)))) : Ex (d + 1) m_MM_round bc bs 99 [some (.ref 78), some (.int l1), some (.int l2), some (.int l3), some (.int l4), some (.int l5), some (.int l6), some (.int l7), some (.int l8), some (.int l9), some (.int l10), none] [] M Φ := by
  refine ex_iload (pc := 99) (k := 10) (by decide +kernel) rfl ?_
  refine ex_aload_n (pc := 101) (k := 0) (by decide +kernel) rfl ?_
  refine ey_getI (pc := 102) (v := mi M 78 0) (by decide +kernel) lf_MM_151 (hF.s (j := 78) rfl) rfl ?_
  refine ex_icmp_ge (pc := 105) (off := 42) (tgt := 147) (by decide +kernel) (by decide) (fun hc => ?_) (fun hc => ?_)
  · replace h := h.1 hc
    refine ex_aload_n (pc := 147) (k := 0) (by decide +kernel) rfl ?_
    refine ex_getR (pc := 148) (a := 112) (by decide +kernel) lf_MM_140 (hF.s (j := 78) rfl) (hF.r (j := 78) (k := 55) rfl rfl) ?_
    refine ex_sipush (pc := 151) (k := 246) (v := nI 246) (by decide +kernel) (by decide) ?_
    refine ex_iload (pc := 154) (k := 6) (by decide +kernel) rfl ?_
    refine ex_imul (pc := 156) (by decide +kernel) ?_
    refine ex_bipush (pc := 157) (k := 41) (v := nI 41) (by decide +kernel) (by decide) ?_
    refine ex_iload (pc := 159) (k := 7) (by decide +kernel) rfl ?_
    refine ex_imul (pc := 161) (by decide +kernel) ?_
    refine ex_iadd (pc := 162) (by decide +kernel) ?_
    refine ex_iload (pc := 163) (k := 8) (by decide +kernel) rfl ?_
    refine ex_iadd (pc := 165) (by decide +kernel) ?_
    refine ex_iload (pc := 166) (k := 9) (by decide +kernel) rfl ?_
    obtain ⟨g1, h⟩ := h
    refine ey_iast (pc := 168) (by decide +kernel) (hF.s (j := 112) rfl) g1 rfl ?_
    refine ex_iinc (pc := 169) (i := 8) (k := 1) (v := l8 + nI 1) (lo2 := [some (.ref 78), some (.int l1), some (.int l2), some (.int l3), some (.int l4), some (.int l5), some (.int l6), some (.int l7), some (.int (l8 + nI 1)), some (.int l9), some (.int l10), none]) (by decide +kernel) (by decide) rfl rfl rfl ?_
    refine ex_goto (pc := 172) (off := -86) (tgt := 86) (by decide +kernel) (by decide) ?_
    exact Ex.msk [true, true, true, true, true, true, true, true, true, false, false, true] h
  · replace h := h.2 hc
    refine ex_aload_n (pc := 108) (k := 0) (by decide +kernel) rfl ?_
    refine ex_iload (pc := 109) (k := 7) (by decide +kernel) rfl ?_
    refine ex_iload (pc := 111) (k := 10) (by decide +kernel) rfl ?_
    refine ex_iload (pc := 113) (k := 6) (by decide +kernel) rfl ?_
    refine ex_iload (pc := 115) (k := 8) (by decide +kernel) rfl ?_
    refine ex_iload (pc := 117) (k := 4) (by decide +kernel) rfl ?_
    refine ex_iload_n (pc := 119) (k := 3) (by decide +kernel) rfl ?_
    refine ex_callV (pc := 120) (as := [.int l7, .int l10, .int l6, .int l8, .int l4, .int l3]) (by decide +kernel) F_MM_soldBy (in_t7 (i := 29) rfl rfl) (hF.s (j := 78) rfl) rfl (by decide) rfl rfl (Nat.le_of_ble_eq_true rfl) (Nat.lt_succ_self _) ⟨Nat.zero_le _, Nat.zero_le _⟩ (KC_I (Con.mono h ?_))
    intro o M1 ⟨r1, e9, hF1, h⟩
    refine ⟨r1, e9, ?_⟩
    refine ex_istore (pc := 123) (k := 11) (lo2 := [some (.ref 78), some (.int l1), some (.int l2), some (.int l3), some (.int l4), some (.int l5), some (.int l6), some (.int l7), some (.int l8), some (.int l9), some (.int l10), some (.int r1)]) (by decide +kernel) (by decide) rfl ?_
    refine ex_iload (pc := 125) (k := 11) (by decide +kernel) rfl ?_
    refine ex_iload (pc := 127) (k := 9) (by decide +kernel) rfl ?_
    refine ex_icmp_le (pc := 129) (off := 8) (tgt := 137) (by decide +kernel) (by decide) (fun hc => ?_) (fun hc => ?_)
    · replace h := h.1 hc
      refine ex_iload (pc := 137) (k := 9) (by decide +kernel) rfl ?_
      refine ex_istore (pc := 139) (k := 9) (lo2 := [some (.ref 78), some (.int l1), some (.int l2), some (.int l3), some (.int l4), some (.int l5), some (.int l6), some (.int l7), some (.int l8), some (.int l9), some (.int l10), some (.int r1)]) (by decide +kernel) (by decide) rfl ?_
      refine ex_iinc (pc := 141) (i := 10) (k := 1) (v := l10 + nI 1) (lo2 := [some (.ref 78), some (.int l1), some (.int l2), some (.int l3), some (.int l4), some (.int l5), some (.int l6), some (.int l7), some (.int l8), some (.int l9), some (.int (l10 + nI 1)), some (.int r1)]) (by decide +kernel) (by decide) rfl rfl rfl ?_
      refine ex_goto (pc := 144) (off := -45) (tgt := 99) (by decide +kernel) (by decide) ?_
      exact Ex.msk [true, true, true, true, true, true, true, true, true, true, true, false] h
    · replace h := h.2 hc
      refine ex_iload (pc := 132) (k := 11) (by decide +kernel) rfl ?_
      refine ex_goto (pc := 134) (off := 5) (tgt := 139) (by decide +kernel) (by decide) ?_
      refine ex_istore (pc := 139) (k := 9) (lo2 := [some (.ref 78), some (.int l1), some (.int l2), some (.int l3), some (.int l4), some (.int l5), some (.int l6), some (.int l7), some (.int l8), some (.int r1), some (.int l10), some (.int r1)]) (by decide +kernel) (by decide) rfl ?_
      refine ex_iinc (pc := 141) (i := 10) (k := 1) (v := l10 + nI 1) (lo2 := [some (.ref 78), some (.int l1), some (.int l2), some (.int l3), some (.int l4), some (.int l5), some (.int l6), some (.int l7), some (.int l8), some (.int r1), some (.int (l10 + nI 1)), some (.int r1)]) (by decide +kernel) (by decide) rfl rfl rfl ?_
      refine ex_goto (pc := 144) (off := -45) (tgt := 99) (by decide +kernel) (by decide) ?_
      exact Ex.msk [true, true, true, true, true, true, true, true, true, true, true, false] h
theorem k_MM_round_205 {d bc bs : Nat} {l1 : Int32} {l2 : Int32} {l3 : Int32} {l4 : Int32} {l5 : Int32} {l6 : Int32} {l7 : Int32} {l8 : Int32} {M : Mem} {Φ : Option Value → Mem → Prop} (hF : Fm M) (h : ((mi M 78 6) ≤ l8 → vp_in (((nI 41) * l3) + l5) 1968 ∧ Φ (some (.int (mi M 112 ((((nI 41) * l3) + l5).toNatClampNeg)))) M) ∧ (¬ (mi M 78 6) ≤ l8 → Ex (d + 1) m_MM_round bc bs 217 [some (.ref 78), some (.int l1), some (.int l2), some (.int l3), some (.int l4), some (.int l5), some (.int l6), some (.int l7), some (.int l8), some (.int (nI 0)), none, none] [] M Φ)) : Ex (d + 1) m_MM_round bc bs 205 [some (.ref 78), some (.int l1), some (.int l2), some (.int l3), some (.int l4), some (.int l5), some (.int l6), some (.int l7), some (.int l8), none, none, none] [] M Φ := by
  refine ex_iload (pc := 205) (k := 8) (by decide +kernel) rfl ?_
  refine ex_aload_n (pc := 207) (k := 0) (by decide +kernel) rfl ?_
  refine ey_getI (pc := 208) (v := mi M 78 6) (by decide +kernel) lf_MM_25 (hF.s (j := 78) rfl) rfl ?_
  refine ex_icmp_ge (pc := 211) (off := 84) (tgt := 295) (by decide +kernel) (by decide) (fun hc => ?_) (fun hc => ?_)
  · replace h := h.1 hc
    refine ex_aload_n (pc := 295) (k := 0) (by decide +kernel) rfl ?_
    refine ex_getR (pc := 296) (a := 112) (by decide +kernel) lf_MM_140 (hF.s (j := 78) rfl) (hF.r (j := 78) (k := 55) rfl rfl) ?_
    refine ex_bipush (pc := 299) (k := 41) (v := nI 41) (by decide +kernel) (by decide) ?_
    refine ex_iload_n (pc := 301) (k := 3) (by decide +kernel) rfl ?_
    refine ex_imul (pc := 302) (by decide +kernel) ?_
    refine ex_iload (pc := 303) (k := 5) (by decide +kernel) rfl ?_
    refine ex_iadd (pc := 305) (by decide +kernel) ?_
    obtain ⟨g1, h⟩ := h
    refine ey_iald (pc := 306) (v := mi M 112 ((((nI 41) * l3) + l5).toNatClampNeg)) (by decide +kernel) (hF.s (j := 112) rfl) g1 rfl rfl ?_
    exact ex_ireturn (pc := 307) (by decide +kernel) rfl rfl h
  · replace h := h.2 hc
    refine ex_iconst (pc := 214) (k := 0) (v := nI 0) (by decide +kernel) (by decide) ?_
    refine ex_istore (pc := 215) (k := 9) (lo2 := [some (.ref 78), some (.int l1), some (.int l2), some (.int l3), some (.int l4), some (.int l5), some (.int l6), some (.int l7), some (.int l8), some (.int (nI 0)), none, none]) (by decide +kernel) (by decide) rfl ?_
    exact h
theorem k_MM_round_217 {d bc bs : Nat} {l1 : Int32} {l2 : Int32} {l3 : Int32} {l4 : Int32} {l5 : Int32} {l6 : Int32} {l7 : Int32} {l8 : Int32} {l9 : Int32} {M : Mem} {Φ : Option Value → Mem → Prop} (hF : Fm M) (h : Con d m_MM_soldBy 0 0 [.ref 78, .int l6, .int l9, .int l8, .int l7, .int l4, .int l3] M (PI fun r1 M1 => Fm M1 ∧ vp_in ((((nI 246) * l8) + ((nI 41) * l6)) + l7) 1968 ∧ (r1 = (mi M1 112 (((((nI 246) * l8) + ((nI 41) * l6)) + l7).toNatClampNeg)) → Con d m_MM_sold 0 0 [.ref 78, .int l9, .int l8, .int l7] M1 (PI fun r2 M2 => Fm M2 ∧ vp_in l8 7 ∧ Ex (d + 1) m_MM_round bc bs 205 [some (.ref 78), some (.int l1), some (.int l2), some (.int l3), some (.int l4), some (.int l5), some (.int l9), some (.int (l7 - r2)), some (.int (l8 + nI 1)), none, none, none] [] (wi M2 93 l8.toNatClampNeg l9) Φ)) ∧ (¬ r1 = (mi M1 112 (((((nI 246) * l8) + ((nI 41) * l6)) + l7).toNatClampNeg)) → Ex (d + 1) m_MM_round bc bs 217 [some (.ref 78), some (.int l1), some (.int l2), some (.int l3), some (.int l4), some (.int l5), some (.int l6), some (.int l7), some (.int l8), some (.int (l9 + nI 1)), none, none] [] M1 Φ))) : Ex (d + 1) m_MM_round bc bs 217 [some (.ref 78), some (.int l1), some (.int l2), some (.int l3), some (.int l4), some (.int l5), some (.int l6), some (.int l7), some (.int l8), some (.int l9), none, none] [] M Φ := by
  refine ex_aload_n (pc := 217) (k := 0) (by decide +kernel) rfl ?_
  refine ex_iload (pc := 218) (k := 6) (by decide +kernel) rfl ?_
  refine ex_iload (pc := 220) (k := 9) (by decide +kernel) rfl ?_
  refine ex_iload (pc := 222) (k := 8) (by decide +kernel) rfl ?_
  refine ex_iload (pc := 224) (k := 7) (by decide +kernel) rfl ?_
  refine ex_iload (pc := 226) (k := 4) (by decide +kernel) rfl ?_
  refine ex_iload_n (pc := 228) (k := 3) (by decide +kernel) rfl ?_
  refine ex_callV (pc := 229) (as := [.int l6, .int l9, .int l8, .int l7, .int l4, .int l3]) (by decide +kernel) F_MM_soldBy (in_t7 (i := 29) rfl rfl) (hF.s (j := 78) rfl) rfl (by decide) rfl rfl (Nat.le_of_ble_eq_true rfl) (Nat.lt_succ_self _) ⟨Nat.zero_le _, Nat.zero_le _⟩ (KC_I (Con.mono h ?_))
  intro o M1 ⟨r1, e9, hF1, h⟩
  refine ⟨r1, e9, ?_⟩
  refine ex_aload_n (pc := 232) (k := 0) (by decide +kernel) rfl ?_
  refine ex_getR (pc := 233) (a := 112) (by decide +kernel) lf_MM_140 (hF1.s (j := 78) rfl) (hF1.r (j := 78) (k := 55) rfl rfl) ?_
  refine ex_sipush (pc := 236) (k := 246) (v := nI 246) (by decide +kernel) (by decide) ?_
  refine ex_iload (pc := 239) (k := 8) (by decide +kernel) rfl ?_
  refine ex_imul (pc := 241) (by decide +kernel) ?_
  refine ex_bipush (pc := 242) (k := 41) (v := nI 41) (by decide +kernel) (by decide) ?_
  refine ex_iload (pc := 244) (k := 6) (by decide +kernel) rfl ?_
  refine ex_imul (pc := 246) (by decide +kernel) ?_
  refine ex_iadd (pc := 247) (by decide +kernel) ?_
  refine ex_iload (pc := 248) (k := 7) (by decide +kernel) rfl ?_
  refine ex_iadd (pc := 250) (by decide +kernel) ?_
  obtain ⟨g1, h⟩ := h
  refine ey_iald (pc := 251) (v := mi M1 112 (((((nI 246) * l8) + ((nI 41) * l6)) + l7).toNatClampNeg)) (by decide +kernel) (hF1.s (j := 112) rfl) g1 rfl rfl ?_
  refine ex_icmp_eq (pc := 252) (off := 9) (tgt := 261) (by decide +kernel) (by decide) (fun hc => ?_) (fun hc => ?_)
  · replace h := h.1 hc
    refine ex_iload (pc := 261) (k := 7) (by decide +kernel) rfl ?_
    refine ex_aload_n (pc := 263) (k := 0) (by decide +kernel) rfl ?_
    refine ex_iload (pc := 264) (k := 9) (by decide +kernel) rfl ?_
    refine ex_iload (pc := 266) (k := 8) (by decide +kernel) rfl ?_
    refine ex_iload (pc := 268) (k := 7) (by decide +kernel) rfl ?_
    refine ex_callV (pc := 270) (as := [.int l9, .int l8, .int l7]) (by decide +kernel) F_MM_sold (in_t7 (i := 33) rfl rfl) (hF1.s (j := 78) rfl) rfl (by decide) rfl rfl (Nat.le_of_ble_eq_true rfl) (Nat.lt_succ_self _) ⟨Nat.zero_le _, Nat.zero_le _⟩ (KC_I (Con.mono h ?_))
    intro o M2 ⟨r2, e9, hF2, h⟩
    refine ⟨r2, e9, ?_⟩
    refine ex_isub (pc := 273) (by decide +kernel) ?_
    refine ex_istore (pc := 274) (k := 7) (lo2 := [some (.ref 78), some (.int l1), some (.int l2), some (.int l3), some (.int l4), some (.int l5), some (.int l6), some (.int (l7 - r2)), some (.int l8), some (.int l9), none, none]) (by decide +kernel) (by decide) rfl ?_
    refine ex_iload (pc := 276) (k := 9) (by decide +kernel) rfl ?_
    refine ex_istore (pc := 278) (k := 6) (lo2 := [some (.ref 78), some (.int l1), some (.int l2), some (.int l3), some (.int l4), some (.int l5), some (.int l9), some (.int (l7 - r2)), some (.int l8), some (.int l9), none, none]) (by decide +kernel) (by decide) rfl ?_
    refine ex_aload_n (pc := 280) (k := 0) (by decide +kernel) rfl ?_
    refine ex_getR (pc := 281) (a := 93) (by decide +kernel) lf_MM_59 (hF2.s (j := 78) rfl) (hF2.r (j := 78) (k := 24) rfl rfl) ?_
    refine ex_iload (pc := 284) (k := 8) (by decide +kernel) rfl ?_
    refine ex_iload (pc := 286) (k := 9) (by decide +kernel) rfl ?_
    obtain ⟨g2, h⟩ := h
    refine ey_iast (pc := 288) (by decide +kernel) (hF2.s (j := 93) rfl) g2 rfl ?_
    refine ex_iinc (pc := 289) (i := 8) (k := 1) (v := l8 + nI 1) (lo2 := [some (.ref 78), some (.int l1), some (.int l2), some (.int l3), some (.int l4), some (.int l5), some (.int l9), some (.int (l7 - r2)), some (.int (l8 + nI 1)), some (.int l9), none, none]) (by decide +kernel) (by decide) rfl rfl rfl ?_
    refine ex_goto (pc := 292) (off := -87) (tgt := 205) (by decide +kernel) (by decide) ?_
    exact Ex.msk [true, true, true, true, true, true, true, true, true, false, true, true] h
  · replace h := h.2 hc
    refine ex_iinc (pc := 255) (i := 9) (k := 1) (v := l9 + nI 1) (lo2 := [some (.ref 78), some (.int l1), some (.int l2), some (.int l3), some (.int l4), some (.int l5), some (.int l6), some (.int l7), some (.int l8), some (.int (l9 + nI 1)), none, none]) (by decide +kernel) (by decide) rfl rfl rfl ?_
    refine ex_goto (pc := 258) (off := -41) (tgt := 217) (by decide +kernel) (by decide) ?_
    exact h
theorem k_MM_roundTold_0 {d bc bs : Nat} {l1 : Int32} {M : Mem} {Φ : Option Value → Mem → Prop} (hF : Fm M) (h : Con d m_MM_in 0 0 [.int l1, .int (nI 0), .int ((mi M 78 23) - (nI 1))] M (PB fun r1 M1 => Fm M1 ∧ (r1 = false → Φ (some (.int (-1))) M1) ∧ (r1 = true → vp_in l1 7 ∧ Φ (some (.int (mi M1 93 l1.toNatClampNeg))) M1))) : Ex (d + 1) m_MM_roundTold bc bs 0 [some (.ref 78), some (.int l1)] [] M Φ := by
  refine ex_iload_n (pc := 0) (k := 1) (by decide +kernel) rfl ?_
  refine ex_iconst (pc := 1) (k := 0) (v := nI 0) (by decide +kernel) (by decide) ?_
  refine ex_aload_n (pc := 2) (k := 0) (by decide +kernel) rfl ?_
  refine ey_getI (pc := 3) (v := mi M 78 23) (by decide +kernel) lf_MM_341 (hF.s (j := 78) rfl) rfl ?_
  refine ex_iconst (pc := 6) (k := 1) (v := nI 1) (by decide +kernel) (by decide) ?_
  refine ex_isub (pc := 7) (by decide +kernel) ?_
  refine ex_callS (pc := 8) (as := [.int l1, .int (nI 0), .int ((mi M 78 23) - (nI 1))]) (by decide +kernel) F_MM_in (in_t6 (i := 11) rfl rfl) rfl rfl (Nat.le_of_ble_eq_true rfl) (Nat.lt_succ_self _) ⟨Nat.zero_le _, Nat.zero_le _⟩ (KC_B (Con.mono h ?_))
  intro o M1 ⟨r1, e9, hF1, h⟩
  refine ⟨r1, e9, ?_⟩
  refine ey_ifeqB (pc := 11) (off := 12) (tgt := 23) (by decide +kernel) (by decide) (fun hc => ?_) (fun hc => ?_)
  · replace h := h.1 hc
    refine ex_iconst (pc := 23) (k := -1) (v := -1) (by decide +kernel) (by decide) ?_
    exact ex_ireturn (pc := 24) (by decide +kernel) rfl rfl h
  · replace h := h.2 hc
    refine ex_aload_n (pc := 14) (k := 0) (by decide +kernel) rfl ?_
    refine ex_getR (pc := 15) (a := 93) (by decide +kernel) lf_MM_59 (hF1.s (j := 78) rfl) (hF1.r (j := 78) (k := 24) rfl rfl) ?_
    refine ex_iload_n (pc := 18) (k := 1) (by decide +kernel) rfl ?_
    obtain ⟨g1, h⟩ := h
    refine ey_iald (pc := 19) (v := mi M1 93 l1.toNatClampNeg) (by decide +kernel) (hF1.s (j := 93) rfl) g1 rfl rfl ?_
    refine ex_goto (pc := 20) (off := 4) (tgt := 24) (by decide +kernel) (by decide) ?_
    exact ex_ireturn (pc := 24) (by decide +kernel) rfl rfl h
theorem k_MM_walk_0 {d bc bs : Nat} {l1 : Int32} {l2 : Int32} {l3 : Int32} {l4 : Int32} {l5 : Int32} {M : Mem} {Φ : Option Value → Mem → Prop} (hF : Fm M) (h : Con d m_MM_isGiving 0 0 [.ref 78, .int l1] M (PB fun r1 M1 => Fm M1 ∧ (r1 = false → Φ (some (.int (-2))) M1) ∧ (r1 = true → Con d m_MM_isWeek 0 0 [.int l2] M1 (PB fun r2 M2 => Fm M2 ∧ (r2 = false → Φ (some (.int (-2))) M2) ∧ (r2 = true → Con d m_MM_isTown 0 0 [.ref 78, .int l3] M2 (PB fun r3 M3 => Fm M3 ∧ (r3 = false → Φ (some (.int (-2))) M3) ∧ (r3 = true → Con d m_MM_in 0 0 [.int l4, .int (nI 0), .int (nI 50)] M3 (PB fun r4 M4 => Fm M4 ∧ (r4 = false → Φ (some (.int (-2))) M4) ∧ (r4 = true → Con d m_MM_in 0 0 [.int l5, .int (nI 0), .int (nI 3)] M4 (PB fun r5 M5 => Fm M5 ∧ (r5 = true → vp_in l5 4 ∧ (¬ (mi M5 100 l5.toNatClampNeg) = (-1) → vp_in l5 4 ∧ (¬ (mi M5 101 l5.toNatClampNeg) = (mi M5 78 6) → Ex (d + 1) m_MM_walk bc bs 85 [some (.ref 78), some (.int l1), some (.int l2), some (.int l3), some (.int l4), some (.int l5), some (.int (nI 0)), some (.int (nI 0)), none, none, none] [] M5 Φ) ∧ ((mi M5 101 l5.toNatClampNeg) = (mi M5 78 6) → Ex (d + 1) m_MM_walk bc bs 85 [some (.ref 78), some (.int l1), some (.int l2), some (.int l3), some (.int l4), some (.int l5), some (.int (nI 1)), some (.int (nI 0)), none, none, none] [] M5 Φ)) ∧ ((mi M5 100 l5.toNatClampNeg) = (-1) → Φ (some (.int (-11))) M5)) ∧ (r5 = false → Φ (some (.int (-2))) M5))))))))))) : Ex (d + 1) m_MM_walk bc bs 0 [some (.ref 78), some (.int l1), some (.int l2), some (.int l3), some (.int l4), some (.int l5), none, none, none, none, none] [] M Φ := by
  refine ex_aload_n (pc := 0) (k := 0) (by decide +kernel) rfl ?_
  refine ex_iload_n (pc := 1) (k := 1) (by decide +kernel) rfl ?_
  refine ex_callV (pc := 2) (as := [.int l1]) (by decide +kernel) F_MM_isGiving (in_t6 (i := 142) rfl rfl) (hF.s (j := 78) rfl) rfl (by decide) rfl rfl (Nat.le_of_ble_eq_true rfl) (Nat.lt_succ_self _) ⟨Nat.zero_le _, Nat.zero_le _⟩ (KC_B (Con.mono h ?_))
  intro o M1 ⟨r1, e9, hF1, h⟩
  refine ⟨r1, e9, ?_⟩
  refine ey_ifeqB (pc := 5) (off := 39) (tgt := 44) (by decide +kernel) (by decide) (fun hc => ?_) (fun hc => ?_)
  · replace h := h.1 hc
    refine ex_bipush (pc := 44) (k := -2) (v := -2) (by decide +kernel) (by decide) ?_
    exact ex_ireturn (pc := 46) (by decide +kernel) rfl rfl h
  · replace h := h.2 hc
    refine ex_iload_n (pc := 8) (k := 2) (by decide +kernel) rfl ?_
    refine ex_callS (pc := 9) (as := [.int l2]) (by decide +kernel) F_MM_isWeek (in_t6 (i := 46) rfl rfl) rfl rfl (Nat.le_of_ble_eq_true rfl) (Nat.lt_succ_self _) ⟨Nat.zero_le _, Nat.zero_le _⟩ (KC_B (Con.mono h ?_))
    intro o M2 ⟨r2, e9, hF2, h⟩
    refine ⟨r2, e9, ?_⟩
    refine ey_ifeqB (pc := 12) (off := 32) (tgt := 44) (by decide +kernel) (by decide) (fun hc => ?_) (fun hc => ?_)
    · replace h := h.1 hc
      refine ex_bipush (pc := 44) (k := -2) (v := -2) (by decide +kernel) (by decide) ?_
      exact ex_ireturn (pc := 46) (by decide +kernel) rfl rfl h
    · replace h := h.2 hc
      refine ex_aload_n (pc := 15) (k := 0) (by decide +kernel) rfl ?_
      refine ex_iload_n (pc := 16) (k := 3) (by decide +kernel) rfl ?_
      refine ex_callV (pc := 17) (as := [.int l3]) (by decide +kernel) F_MM_isTown (in_t6 (i := 18) rfl rfl) (hF2.s (j := 78) rfl) rfl (by decide) rfl rfl (Nat.le_of_ble_eq_true rfl) (Nat.lt_succ_self _) ⟨Nat.zero_le _, Nat.zero_le _⟩ (KC_B (Con.mono h ?_))
      intro o M3 ⟨r3, e9, hF3, h⟩
      refine ⟨r3, e9, ?_⟩
      refine ey_ifeqB (pc := 20) (off := 24) (tgt := 44) (by decide +kernel) (by decide) (fun hc => ?_) (fun hc => ?_)
      · replace h := h.1 hc
        refine ex_bipush (pc := 44) (k := -2) (v := -2) (by decide +kernel) (by decide) ?_
        exact ex_ireturn (pc := 46) (by decide +kernel) rfl rfl h
      · replace h := h.2 hc
        refine ex_iload (pc := 23) (k := 4) (by decide +kernel) rfl ?_
        refine ex_iconst (pc := 25) (k := 0) (v := nI 0) (by decide +kernel) (by decide) ?_
        refine ex_bipush (pc := 26) (k := 50) (v := nI 50) (by decide +kernel) (by decide) ?_
        refine ex_callS (pc := 28) (as := [.int l4, .int (nI 0), .int (nI 50)]) (by decide +kernel) F_MM_in (in_t6 (i := 11) rfl rfl) rfl rfl (Nat.le_of_ble_eq_true rfl) (Nat.lt_succ_self _) ⟨Nat.zero_le _, Nat.zero_le _⟩ (KC_B (Con.mono h ?_))
        intro o M4 ⟨r4, e9, hF4, h⟩
        refine ⟨r4, e9, ?_⟩
        refine ey_ifeqB (pc := 31) (off := 13) (tgt := 44) (by decide +kernel) (by decide) (fun hc => ?_) (fun hc => ?_)
        · replace h := h.1 hc
          refine ex_bipush (pc := 44) (k := -2) (v := -2) (by decide +kernel) (by decide) ?_
          exact ex_ireturn (pc := 46) (by decide +kernel) rfl rfl h
        · replace h := h.2 hc
          refine ex_iload (pc := 34) (k := 5) (by decide +kernel) rfl ?_
          refine ex_iconst (pc := 36) (k := 0) (v := nI 0) (by decide +kernel) (by decide) ?_
          refine ex_iconst (pc := 37) (k := 3) (v := nI 3) (by decide +kernel) (by decide) ?_
          refine ex_callS (pc := 38) (as := [.int l5, .int (nI 0), .int (nI 3)]) (by decide +kernel) F_MM_in (in_t6 (i := 11) rfl rfl) rfl rfl (Nat.le_of_ble_eq_true rfl) (Nat.lt_succ_self _) ⟨Nat.zero_le _, Nat.zero_le _⟩ (KC_B (Con.mono h ?_))
          intro o M5 ⟨r5, e9, hF5, h⟩
          refine ⟨r5, e9, ?_⟩
          refine ey_ifneB (pc := 41) (off := 6) (tgt := 47) (by decide +kernel) (by decide) (fun hc => ?_) (fun hc => ?_)
          · replace h := h.1 hc
            refine ex_aload_n (pc := 47) (k := 0) (by decide +kernel) rfl ?_
            refine ex_getR (pc := 48) (a := 100) (by decide +kernel) lf_MM_80 (hF5.s (j := 78) rfl) (hF5.r (j := 78) (k := 36) rfl rfl) ?_
            refine ex_iload (pc := 51) (k := 5) (by decide +kernel) rfl ?_
            obtain ⟨g1, h⟩ := h
            refine ey_iald (pc := 53) (v := mi M5 100 l5.toNatClampNeg) (by decide +kernel) (hF5.s (j := 100) rfl) g1 rfl rfl ?_
            refine ex_iconst (pc := 54) (k := -1) (v := -1) (by decide +kernel) (by decide) ?_
            refine ex_icmp_ne (pc := 55) (off := 6) (tgt := 61) (by decide +kernel) (by decide) (fun hc => ?_) (fun hc => ?_)
            · replace h := h.1 hc
              refine ex_aload_n (pc := 61) (k := 0) (by decide +kernel) rfl ?_
              refine ex_getR (pc := 62) (a := 101) (by decide +kernel) lf_MM_83 (hF5.s (j := 78) rfl) (hF5.r (j := 78) (k := 37) rfl rfl) ?_
              refine ex_iload (pc := 65) (k := 5) (by decide +kernel) rfl ?_
              obtain ⟨g2, h⟩ := h
              refine ey_iald (pc := 67) (v := mi M5 101 l5.toNatClampNeg) (by decide +kernel) (hF5.s (j := 101) rfl) g2 rfl rfl ?_
              refine ex_aload_n (pc := 68) (k := 0) (by decide +kernel) rfl ?_
              refine ey_getI (pc := 69) (v := mi M5 78 6) (by decide +kernel) lf_MM_25 (hF5.s (j := 78) rfl) rfl ?_
              refine ex_icmp_ne (pc := 72) (off := 7) (tgt := 79) (by decide +kernel) (by decide) (fun hc => ?_) (fun hc => ?_)
              · replace h := h.1 hc
                refine ex_iconst (pc := 79) (k := 0) (v := nI 0) (by decide +kernel) (by decide) ?_
                refine ex_istore (pc := 80) (k := 6) (lo2 := [some (.ref 78), some (.int l1), some (.int l2), some (.int l3), some (.int l4), some (.int l5), some (.int (nI 0)), none, none, none, none]) (by decide +kernel) (by decide) rfl ?_
                refine ex_iconst (pc := 82) (k := 0) (v := nI 0) (by decide +kernel) (by decide) ?_
                refine ex_istore (pc := 83) (k := 7) (lo2 := [some (.ref 78), some (.int l1), some (.int l2), some (.int l3), some (.int l4), some (.int l5), some (.int (nI 0)), some (.int (nI 0)), none, none, none]) (by decide +kernel) (by decide) rfl ?_
                exact h
              · replace h := h.2 hc
                refine ex_iconst (pc := 75) (k := 1) (v := nI 1) (by decide +kernel) (by decide) ?_
                refine ex_goto (pc := 76) (off := 4) (tgt := 80) (by decide +kernel) (by decide) ?_
                refine ex_istore (pc := 80) (k := 6) (lo2 := [some (.ref 78), some (.int l1), some (.int l2), some (.int l3), some (.int l4), some (.int l5), some (.int (nI 1)), none, none, none, none]) (by decide +kernel) (by decide) rfl ?_
                refine ex_iconst (pc := 82) (k := 0) (v := nI 0) (by decide +kernel) (by decide) ?_
                refine ex_istore (pc := 83) (k := 7) (lo2 := [some (.ref 78), some (.int l1), some (.int l2), some (.int l3), some (.int l4), some (.int l5), some (.int (nI 1)), some (.int (nI 0)), none, none, none]) (by decide +kernel) (by decide) rfl ?_
                exact h
            · replace h := h.2 hc
              refine ex_bipush (pc := 58) (k := -11) (v := -11) (by decide +kernel) (by decide) ?_
              exact ex_ireturn (pc := 60) (by decide +kernel) rfl rfl h
          · replace h := h.2 hc
            refine ex_bipush (pc := 44) (k := -2) (v := -2) (by decide +kernel) (by decide) ?_
            exact ex_ireturn (pc := 46) (by decide +kernel) rfl rfl h
theorem k_MM_walk_85 {d bc bs : Nat} {l1 : Int32} {l2 : Int32} {l3 : Int32} {l4 : Int32} {l5 : Int32} {l6 : Int32} {l7 : Int32} {M : Mem} {Φ : Option Value → Mem → Prop} (hF : Fm M) (h : ((mi M 78 6) ≤ l7 → Ex (d + 1) m_MM_walk bc bs 124 [some (.ref 78), some (.int l1), some (.int l2), some (.int l3), some (.int l4), some (.int l5), some (.int l6), some (.int l7), none, none, none] [] M Φ) ∧ (¬ (mi M 78 6) ≤ l7 → (l6 = 0 → Ex (d + 1) m_MM_walk bc bs 124 [some (.ref 78), some (.int l1), some (.int l2), some (.int l3), some (.int l4), some (.int l5), some (.int l6), some (.int l7), none, none, none] [] M Φ) ∧ (¬ l6 = 0 → vp_in (((nI 40) * l5) + l7) 160 ∧ Con d m_MM_isTown 0 0 [.ref 78, .int (mi M 102 ((((nI 40) * l5) + l7).toNatClampNeg))] M (PB fun r1 M1 => Fm M1 ∧ Ex (d + 1) m_MM_walk bc bs 85 [some (.ref 78), some (.int l1), some (.int l2), some (.int l3), some (.int l4), some (.int l5), some (.int (b2i r1)), some (.int (l7 + nI 1)), none, none, none] [] M1 Φ)))) : Ex (d + 1) m_MM_walk bc bs 85 [some (.ref 78), some (.int l1), some (.int l2), some (.int l3), some (.int l4), some (.int l5), some (.int l6), some (.int l7), none, none, none] [] M Φ := by
  refine ex_iload (pc := 85) (k := 7) (by decide +kernel) rfl ?_
  refine ex_aload_n (pc := 87) (k := 0) (by decide +kernel) rfl ?_
  refine ey_getI (pc := 88) (v := mi M 78 6) (by decide +kernel) lf_MM_25 (hF.s (j := 78) rfl) rfl ?_
  refine ex_icmp_ge (pc := 91) (off := 33) (tgt := 124) (by decide +kernel) (by decide) (fun hc => ?_) (fun hc => ?_)
  · replace h := h.1 hc
    exact h
  · replace h := h.2 hc
    refine ex_iload (pc := 94) (k := 6) (by decide +kernel) rfl ?_
    refine ex_if_eq (pc := 96) (off := 28) (tgt := 124) (by decide +kernel) (by decide) (fun hc => ?_) (fun hc => ?_)
    · replace h := h.1 hc
      exact h
    · replace h := h.2 hc
      refine ex_aload_n (pc := 99) (k := 0) (by decide +kernel) rfl ?_
      refine ex_aload_n (pc := 100) (k := 0) (by decide +kernel) rfl ?_
      refine ex_getR (pc := 101) (a := 102) (by decide +kernel) lf_MM_86 (hF.s (j := 78) rfl) (hF.r (j := 78) (k := 38) rfl rfl) ?_
      refine ex_bipush (pc := 104) (k := 40) (v := nI 40) (by decide +kernel) (by decide) ?_
      refine ex_iload (pc := 106) (k := 5) (by decide +kernel) rfl ?_
      refine ex_imul (pc := 108) (by decide +kernel) ?_
      refine ex_iload (pc := 109) (k := 7) (by decide +kernel) rfl ?_
      refine ex_iadd (pc := 111) (by decide +kernel) ?_
      obtain ⟨g1, h⟩ := h
      refine ey_iald (pc := 112) (v := mi M 102 ((((nI 40) * l5) + l7).toNatClampNeg)) (by decide +kernel) (hF.s (j := 102) rfl) g1 rfl rfl ?_
      refine ex_callV (pc := 113) (as := [.int (mi M 102 ((((nI 40) * l5) + l7).toNatClampNeg))]) (by decide +kernel) F_MM_isTown (in_t6 (i := 18) rfl rfl) (hF.s (j := 78) rfl) rfl (by decide) rfl rfl (Nat.le_of_ble_eq_true rfl) (Nat.lt_succ_self _) ⟨Nat.zero_le _, Nat.zero_le _⟩ (KC_B (Con.mono h ?_))
      intro o M1 ⟨r1, e9, hF1, h⟩
      refine ⟨r1, e9, ?_⟩
      refine ex_istore (pc := 116) (k := 6) (lo2 := [some (.ref 78), some (.int l1), some (.int l2), some (.int l3), some (.int l4), some (.int l5), some (.int (b2i r1)), some (.int l7), none, none, none]) (by decide +kernel) (by decide) rfl ?_
      refine ex_iinc (pc := 118) (i := 7) (k := 1) (v := l7 + nI 1) (lo2 := [some (.ref 78), some (.int l1), some (.int l2), some (.int l3), some (.int l4), some (.int l5), some (.int (b2i r1)), some (.int (l7 + nI 1)), none, none, none]) (by decide +kernel) (by decide) rfl rfl rfl ?_
      refine ex_goto (pc := 121) (off := -36) (tgt := 85) (by decide +kernel) (by decide) ?_
      exact h
theorem k_MM_walk_124 {d bc bs : Nat} {l1 : Int32} {l2 : Int32} {l3 : Int32} {l4 : Int32} {l5 : Int32} {l6 : Int32} {l7 : Int32} {M : Mem} {Φ : Option Value → Mem → Prop} (hF : Fm M) (h : (¬ l6 = 0 → Con d m_MM_spreads 0 0 [.ref 78] M (PV fun M1 => Fm M1 ∧ Con d m_MM_laysNow 0 0 [.ref 78, .int l1, .int l2] M1 (PV fun M2 => Fm M2 ∧ Ex (d + 1) m_MM_walk bc bs 152 [some (.ref 78), some (.int l1), some (.int l2), some (.int l3), some (.int l4), some (.int l5), some (.int l6), some (.int l3), some (.int (nI 40)), some (.int (nI 0)), none] [] M2 Φ))) ∧ (l6 = 0 → Φ (some (.int (-2))) M)) : Ex (d + 1) m_MM_walk bc bs 124 [some (.ref 78), some (.int l1), some (.int l2), some (.int l3), some (.int l4), some (.int l5), some (.int l6), some (.int l7), none, none, none] [] M Φ := by
  refine ex_iload (pc := 124) (k := 6) (by decide +kernel) rfl ?_
  refine ex_if_ne (pc := 126) (off := 6) (tgt := 132) (by decide +kernel) (by decide) (fun hc => ?_) (fun hc => ?_)
  · replace h := h.1 hc
    refine ex_aload_n (pc := 132) (k := 0) (by decide +kernel) rfl ?_
    refine ex_callV (pc := 133) (as := []) (by decide +kernel) F_MM_spreads (in_t6 (i := 26) rfl rfl) (hF.s (j := 78) rfl) rfl (by decide) rfl rfl (Nat.le_of_ble_eq_true rfl) (Nat.lt_succ_self _) ⟨Nat.zero_le _, Nat.zero_le _⟩ (KC_V (Con.mono h ?_))
    intro o M1 ⟨e9, hF1, h⟩
    refine ⟨e9, ?_⟩
    refine ex_aload_n (pc := 136) (k := 0) (by decide +kernel) rfl ?_
    refine ex_iload_n (pc := 137) (k := 1) (by decide +kernel) rfl ?_
    refine ex_iload_n (pc := 138) (k := 2) (by decide +kernel) rfl ?_
    refine ex_callV (pc := 139) (as := [.int l1, .int l2]) (by decide +kernel) F_MM_laysNow (in_t6 (i := 162) rfl rfl) (hF1.s (j := 78) rfl) rfl (by decide) rfl rfl (Nat.le_of_ble_eq_true rfl) (Nat.lt_succ_self _) ⟨Nat.zero_le _, Nat.zero_le _⟩ (KC_V (Con.mono h ?_))
    intro o M2 ⟨e9, hF2, h⟩
    refine ⟨e9, ?_⟩
    refine ex_iload_n (pc := 142) (k := 3) (by decide +kernel) rfl ?_
    refine ex_istore (pc := 143) (k := 7) (lo2 := [some (.ref 78), some (.int l1), some (.int l2), some (.int l3), some (.int l4), some (.int l5), some (.int l6), some (.int l3), none, none, none]) (by decide +kernel) (by decide) rfl ?_
    refine ex_bipush (pc := 145) (k := 40) (v := nI 40) (by decide +kernel) (by decide) ?_
    refine ex_istore (pc := 147) (k := 8) (lo2 := [some (.ref 78), some (.int l1), some (.int l2), some (.int l3), some (.int l4), some (.int l5), some (.int l6), some (.int l3), some (.int (nI 40)), none, none]) (by decide +kernel) (by decide) rfl ?_
    refine ex_iconst (pc := 149) (k := 0) (v := nI 0) (by decide +kernel) (by decide) ?_
    refine ex_istore (pc := 150) (k := 9) (lo2 := [some (.ref 78), some (.int l1), some (.int l2), some (.int l3), some (.int l4), some (.int l5), some (.int l6), some (.int l3), some (.int (nI 40)), some (.int (nI 0)), none]) (by decide +kernel) (by decide) rfl ?_
    exact h
  · replace h := h.2 hc
    refine ex_bipush (pc := 129) (k := -2) (v := -2) (by decide +kernel) (by decide) ?_
    exact ex_ireturn (pc := 131) (by decide +kernel) rfl rfl h
theorem k_MM_walk_152 {d bc bs : Nat} {l1 : Int32} {l2 : Int32} {l3 : Int32} {l4 : Int32} {l5 : Int32} {l6 : Int32} {l7 : Int32} {l8 : Int32} {l9 : Int32} {M : Mem} {Φ : Option Value → Mem → Prop} (hF : Fm M) (h : ((mi M 78 6) ≤ l9 → (¬ l7 = l3 → Φ (some (.int (-100))) M) ∧ (l7 = l3 → Φ (some (.int ((nI 40) - l8))) M)) ∧ (¬ (mi M 78 6) ≤ l9 → vp_in (((nI 40) * l5) + l9) 160 ∧ vp_in (((nI 6) * l7) + (mi M 102 ((((nI 40) * l5) + l9).toNatClampNeg))) 36 ∧ ((mi M 103 ((((nI 6) * l7) + (mi M 102 ((((nI 40) * l5) + l9).toNatClampNeg))).toNatClampNeg)) ≤ l4 → Con d m_MM_sold 0 0 [.ref 78, .int (mi M 102 ((((nI 40) * l5) + l9).toNatClampNeg)), .int l9, .int l8] M (PI fun r1 M1 => Fm M1 ∧ Ex (d + 1) m_MM_walk bc bs 152 [some (.ref 78), some (.int l1), some (.int l2), some (.int l3), some (.int l4), some (.int l5), some (.int l6), some (.int (mi M 102 ((((nI 40) * l5) + l9).toNatClampNeg))), some (.int (l8 - r1)), some (.int (l9 + nI 1)), none] [] M1 Φ)) ∧ (¬ (mi M 103 ((((nI 6) * l7) + (mi M 102 ((((nI 40) * l5) + l9).toNatClampNeg))).toNatClampNeg)) ≤ l4 → Φ (some (.int ((-20) - l9))) M))) : Ex (d + 1) m_MM_walk bc bs 152 [some (.ref 78), some (.int l1), some (.int l2), some (.int l3), some (.int l4), some (.int l5), some (.int l6), some (.int l7), some (.int l8), some (.int l9), none] [] M Φ := by
  refine ex_iload (pc := 152) (k := 9) (by decide +kernel) rfl ?_
  refine ex_aload_n (pc := 154) (k := 0) (by decide +kernel) rfl ?_
  refine ey_getI (pc := 155) (v := mi M 78 6) (by decide +kernel) lf_MM_25 (hF.s (j := 78) rfl) rfl ?_
  refine ex_icmp_ge (pc := 158) (off := 67) (tgt := 225) (by decide +kernel) (by decide) (fun hc => ?_) (fun hc => ?_)
  · replace h := h.1 hc
    refine ex_iload (pc := 225) (k := 7) (by decide +kernel) rfl ?_
    refine ex_iload_n (pc := 227) (k := 3) (by decide +kernel) rfl ?_
    refine ex_icmp_ne (pc := 228) (off := 11) (tgt := 239) (by decide +kernel) (by decide) (fun hc => ?_) (fun hc => ?_)
    · replace h := h.1 hc
      refine ex_bipush (pc := 239) (k := -100) (v := -100) (by decide +kernel) (by decide) ?_
      exact ex_ireturn (pc := 241) (by decide +kernel) rfl rfl h
    · replace h := h.2 hc
      refine ex_bipush (pc := 231) (k := 40) (v := nI 40) (by decide +kernel) (by decide) ?_
      refine ex_iload (pc := 233) (k := 8) (by decide +kernel) rfl ?_
      refine ex_isub (pc := 235) (by decide +kernel) ?_
      refine ex_goto (pc := 236) (off := 5) (tgt := 241) (by decide +kernel) (by decide) ?_
      exact ex_ireturn (pc := 241) (by decide +kernel) rfl rfl h
  · replace h := h.2 hc
    refine ex_aload_n (pc := 161) (k := 0) (by decide +kernel) rfl ?_
    refine ex_getR (pc := 162) (a := 102) (by decide +kernel) lf_MM_86 (hF.s (j := 78) rfl) (hF.r (j := 78) (k := 38) rfl rfl) ?_
    refine ex_bipush (pc := 165) (k := 40) (v := nI 40) (by decide +kernel) (by decide) ?_
    refine ex_iload (pc := 167) (k := 5) (by decide +kernel) rfl ?_
    refine ex_imul (pc := 169) (by decide +kernel) ?_
    refine ex_iload (pc := 170) (k := 9) (by decide +kernel) rfl ?_
    refine ex_iadd (pc := 172) (by decide +kernel) ?_
    obtain ⟨g1, h⟩ := h
    refine ey_iald (pc := 173) (v := mi M 102 ((((nI 40) * l5) + l9).toNatClampNeg)) (by decide +kernel) (hF.s (j := 102) rfl) g1 rfl rfl ?_
    refine ex_istore (pc := 174) (k := 10) (lo2 := [some (.ref 78), some (.int l1), some (.int l2), some (.int l3), some (.int l4), some (.int l5), some (.int l6), some (.int l7), some (.int l8), some (.int l9), some (.int (mi M 102 ((((nI 40) * l5) + l9).toNatClampNeg)))]) (by decide +kernel) (by decide) rfl ?_
    refine ex_aload_n (pc := 176) (k := 0) (by decide +kernel) rfl ?_
    refine ex_getR (pc := 177) (a := 103) (by decide +kernel) lf_MM_89 (hF.s (j := 78) rfl) (hF.r (j := 78) (k := 39) rfl rfl) ?_
    refine ex_bipush (pc := 180) (k := 6) (v := nI 6) (by decide +kernel) (by decide) ?_
    refine ex_iload (pc := 182) (k := 7) (by decide +kernel) rfl ?_
    refine ex_imul (pc := 184) (by decide +kernel) ?_
    refine ex_iload (pc := 185) (k := 10) (by decide +kernel) rfl ?_
    refine ex_iadd (pc := 187) (by decide +kernel) ?_
    obtain ⟨g2, h⟩ := h
    refine ey_iald (pc := 188) (v := mi M 103 ((((nI 6) * l7) + (mi M 102 ((((nI 40) * l5) + l9).toNatClampNeg))).toNatClampNeg)) (by decide +kernel) (hF.s (j := 103) rfl) g2 rfl rfl ?_
    refine ex_iload (pc := 189) (k := 4) (by decide +kernel) rfl ?_
    refine ex_icmp_le (pc := 191) (off := 9) (tgt := 200) (by decide +kernel) (by decide) (fun hc => ?_) (fun hc => ?_)
    · replace h := h.1 hc
      refine ex_iload (pc := 200) (k := 8) (by decide +kernel) rfl ?_
      refine ex_aload_n (pc := 202) (k := 0) (by decide +kernel) rfl ?_
      refine ex_iload (pc := 203) (k := 10) (by decide +kernel) rfl ?_
      refine ex_iload (pc := 205) (k := 9) (by decide +kernel) rfl ?_
      refine ex_iload (pc := 207) (k := 8) (by decide +kernel) rfl ?_
      refine ex_callV (pc := 209) (as := [.int (mi M 102 ((((nI 40) * l5) + l9).toNatClampNeg)), .int l9, .int l8]) (by decide +kernel) F_MM_sold (in_t7 (i := 33) rfl rfl) (hF.s (j := 78) rfl) rfl (by decide) rfl rfl (Nat.le_of_ble_eq_true rfl) (Nat.lt_succ_self _) ⟨Nat.zero_le _, Nat.zero_le _⟩ (KC_I (Con.mono h ?_))
      intro o M1 ⟨r1, e9, hF1, h⟩
      refine ⟨r1, e9, ?_⟩
      refine ex_isub (pc := 212) (by decide +kernel) ?_
      refine ex_istore (pc := 213) (k := 8) (lo2 := [some (.ref 78), some (.int l1), some (.int l2), some (.int l3), some (.int l4), some (.int l5), some (.int l6), some (.int l7), some (.int (l8 - r1)), some (.int l9), some (.int (mi M 102 ((((nI 40) * l5) + l9).toNatClampNeg)))]) (by decide +kernel) (by decide) rfl ?_
      refine ex_iload (pc := 215) (k := 10) (by decide +kernel) rfl ?_
      refine ex_istore (pc := 217) (k := 7) (lo2 := [some (.ref 78), some (.int l1), some (.int l2), some (.int l3), some (.int l4), some (.int l5), some (.int l6), some (.int (mi M 102 ((((nI 40) * l5) + l9).toNatClampNeg))), some (.int (l8 - r1)), some (.int l9), some (.int (mi M 102 ((((nI 40) * l5) + l9).toNatClampNeg)))]) (by decide +kernel) (by decide) rfl ?_
      refine ex_iinc (pc := 219) (i := 9) (k := 1) (v := l9 + nI 1) (lo2 := [some (.ref 78), some (.int l1), some (.int l2), some (.int l3), some (.int l4), some (.int l5), some (.int l6), some (.int (mi M 102 ((((nI 40) * l5) + l9).toNatClampNeg))), some (.int (l8 - r1)), some (.int (l9 + nI 1)), some (.int (mi M 102 ((((nI 40) * l5) + l9).toNatClampNeg)))]) (by decide +kernel) (by decide) rfl rfl rfl ?_
      refine ex_goto (pc := 222) (off := -70) (tgt := 152) (by decide +kernel) (by decide) ?_
      exact Ex.msk [true, true, true, true, true, true, true, true, true, true, false] h
    · replace h := h.2 hc
      refine ex_bipush (pc := 194) (k := -20) (v := -20) (by decide +kernel) (by decide) ?_
      refine ex_iload (pc := 196) (k := 9) (by decide +kernel) rfl ?_
      refine ex_isub (pc := 198) (by decide +kernel) ?_
      exact ex_ireturn (pc := 199) (by decide +kernel) rfl rfl h
theorem k_MM_count_0 {d bc bs : Nat} {l1 : Int32} {M : Mem} {Φ : Option Value → Mem → Prop} (hF : Fm M) (h : (l1 = nI 0 → Φ (some (.int (mi M 78 0))) M) ∧ (l1 = nI 1 → Φ (some (.int (mi M 78 6))) M) ∧ (l1 = nI 2 → Φ (some (.int (mi M 78 7))) M) ∧ (l1 = nI 3 → Φ (some (.int (mi M 78 16))) M) ∧ (l1 = nI 4 → Φ (some (.int (mi M 78 14))) M) ∧ (l1 = nI 5 → Φ (some (.int (mi M 78 15))) M) ∧ (l1 = nI 6 → Φ (some (.int (mi M 78 11))) M) ∧ (¬ l1 = nI 0 → ¬ l1 = nI 1 → ¬ l1 = nI 2 → ¬ l1 = nI 3 → ¬ l1 = nI 4 → ¬ l1 = nI 5 → ¬ l1 = nI 6 → Φ (some (.int (-2))) M)) : Ex (d + 1) m_MM_count bc bs 0 [some (.ref 78), some (.int l1)] [] M Φ := by
  refine ex_iload_n (pc := 0) (k := 1) (by decide +kernel) rfl ?_
  by_cases hc : l1 = nI 0
  · replace h := h.1 hc
    rw [hc]
    refine ex_tableIn (pc := 1) (dflt := 78) (l9 := 0) (h9 := 6) (offs := #[43, 48, 53, 58, 63, 68, 73]) (len := 43) (off := 43) (tgt := 44) (by decide +kernel) (by decide) (by decide) (by decide +kernel) (by decide) ?_
    refine ex_aload_n (pc := 44) (k := 0) (by decide +kernel) rfl ?_
    refine ey_getI (pc := 45) (v := mi M 78 0) (by decide +kernel) lf_MM_151 (hF.s (j := 78) rfl) rfl ?_
    exact ex_ireturn (pc := 48) (by decide +kernel) rfl rfl h
  replace h := h.2
  have n0 := hc
  by_cases hc : l1 = nI 1
  · replace h := h.1 hc
    rw [hc]
    refine ex_tableIn (pc := 1) (dflt := 78) (l9 := 0) (h9 := 6) (offs := #[43, 48, 53, 58, 63, 68, 73]) (len := 43) (off := 48) (tgt := 49) (by decide +kernel) (by decide) (by decide) (by decide +kernel) (by decide) ?_
    refine ex_aload_n (pc := 49) (k := 0) (by decide +kernel) rfl ?_
    refine ey_getI (pc := 50) (v := mi M 78 6) (by decide +kernel) lf_MM_25 (hF.s (j := 78) rfl) rfl ?_
    exact ex_ireturn (pc := 53) (by decide +kernel) rfl rfl h
  replace h := h.2
  have n1 := hc
  by_cases hc : l1 = nI 2
  · replace h := h.1 hc
    rw [hc]
    refine ex_tableIn (pc := 1) (dflt := 78) (l9 := 0) (h9 := 6) (offs := #[43, 48, 53, 58, 63, 68, 73]) (len := 43) (off := 53) (tgt := 54) (by decide +kernel) (by decide) (by decide) (by decide +kernel) (by decide) ?_
    refine ex_aload_n (pc := 54) (k := 0) (by decide +kernel) rfl ?_
    refine ey_getI (pc := 55) (v := mi M 78 7) (by decide +kernel) lf_MM_168 (hF.s (j := 78) rfl) rfl ?_
    exact ex_ireturn (pc := 58) (by decide +kernel) rfl rfl h
  replace h := h.2
  have n2 := hc
  by_cases hc : l1 = nI 3
  · replace h := h.1 hc
    rw [hc]
    refine ex_tableIn (pc := 1) (dflt := 78) (l9 := 0) (h9 := 6) (offs := #[43, 48, 53, 58, 63, 68, 73]) (len := 43) (off := 58) (tgt := 59) (by decide +kernel) (by decide) (by decide) (by decide +kernel) (by decide) ?_
    refine ex_aload_n (pc := 59) (k := 0) (by decide +kernel) rfl ?_
    refine ey_getI (pc := 60) (v := mi M 78 16) (by decide +kernel) lf_MM_260 (hF.s (j := 78) rfl) rfl ?_
    exact ex_ireturn (pc := 63) (by decide +kernel) rfl rfl h
  replace h := h.2
  have n3 := hc
  by_cases hc : l1 = nI 4
  · replace h := h.1 hc
    rw [hc]
    refine ex_tableIn (pc := 1) (dflt := 78) (l9 := 0) (h9 := 6) (offs := #[43, 48, 53, 58, 63, 68, 73]) (len := 43) (off := 63) (tgt := 64) (by decide +kernel) (by decide) (by decide) (by decide +kernel) (by decide) ?_
    refine ex_aload_n (pc := 64) (k := 0) (by decide +kernel) rfl ?_
    refine ey_getI (pc := 65) (v := mi M 78 14) (by decide +kernel) lf_MM_44 (hF.s (j := 78) rfl) rfl ?_
    exact ex_ireturn (pc := 68) (by decide +kernel) rfl rfl h
  replace h := h.2
  have n4 := hc
  by_cases hc : l1 = nI 5
  · replace h := h.1 hc
    rw [hc]
    refine ex_tableIn (pc := 1) (dflt := 78) (l9 := 0) (h9 := 6) (offs := #[43, 48, 53, 58, 63, 68, 73]) (len := 43) (off := 68) (tgt := 69) (by decide +kernel) (by decide) (by decide) (by decide +kernel) (by decide) ?_
    refine ex_aload_n (pc := 69) (k := 0) (by decide +kernel) rfl ?_
    refine ey_getI (pc := 70) (v := mi M 78 15) (by decide +kernel) lf_MM_233 (hF.s (j := 78) rfl) rfl ?_
    exact ex_ireturn (pc := 73) (by decide +kernel) rfl rfl h
  replace h := h.2
  have n5 := hc
  by_cases hc : l1 = nI 6
  · replace h := h.1 hc
    rw [hc]
    refine ex_tableIn (pc := 1) (dflt := 78) (l9 := 0) (h9 := 6) (offs := #[43, 48, 53, 58, 63, 68, 73]) (len := 43) (off := 73) (tgt := 74) (by decide +kernel) (by decide) (by decide) (by decide +kernel) (by decide) ?_
    refine ex_aload_n (pc := 74) (k := 0) (by decide +kernel) rfl ?_
    refine ey_getI (pc := 75) (v := mi M 78 11) (by decide +kernel) lf_MM_171 (hF.s (j := 78) rfl) rfl ?_
    exact ex_ireturn (pc := 78) (by decide +kernel) rfl rfl h
  replace h := h.2
  have n6 := hc
  refine ex_tableOut (pc := 1) (dflt := 78) (l9 := 0) (h9 := 6) (offs := #[43, 48, 53, 58, 63, 68, 73]) (len := 43) (tgt := 79) (by decide +kernel) (tab_out (fun q hq1 hq2 => ?_)) (by decide) ?_
  · rcases (show q = (0 : Int) ∨ q = (1 : Int) ∨ q = (2 : Int) ∨ q = (3 : Int) ∨ q = (4 : Int) ∨ q = (5 : Int) ∨ q = (6 : Int) by omega) with rfl | rfl | rfl | rfl | rfl | rfl | rfl
    · rw [show Int32.ofInt (0) = nI 0 by decide]; exact n0
    · rw [show Int32.ofInt (1) = nI 1 by decide]; exact n1
    · rw [show Int32.ofInt (2) = nI 2 by decide]; exact n2
    · rw [show Int32.ofInt (3) = nI 3 by decide]; exact n3
    · rw [show Int32.ofInt (4) = nI 4 by decide]; exact n4
    · rw [show Int32.ofInt (5) = nI 5 by decide]; exact n5
    · rw [show Int32.ofInt (6) = nI 6 by decide]; exact n6
  · replace h := h n0 n1 n2 n3 n4 n5 n6
    refine ex_bipush (pc := 79) (k := -2) (v := -2) (by decide +kernel) (by decide) ?_
    exact ex_ireturn (pc := 81) (by decide +kernel) rfl rfl h
theorem k_MM_image_0 {d bc bs : Nat}  {M : Mem} {Φ : Option Value → Mem → Prop} (hF : Fm M) (h : Ex (d + 1) m_MM_image bc bs 39 [some (.ref 78), some (.int (nI 0))] [] (wi (wi (wi (wi (wi M 78 25 (nI 1)) 78 26 (mi M 78 0)) 78 27 (mi M 78 6)) 78 28 (mi M 78 7)) 78 29 (mi M 78 15)) Φ) : Ex (d + 1) m_MM_image bc bs 0 [some (.ref 78), none] [] M Φ := by
  refine ex_aload_n (pc := 0) (k := 0) (by decide +kernel) rfl ?_
  refine ex_iconst (pc := 1) (k := 1) (v := nI 1) (by decide +kernel) (by decide) ?_
  refine ex_putI (pc := 2) (index := 344) (ci := 11) (k := 25) (fin := false) (by decide +kernel) ⟨_, _, _, _, cf_MM, by decide, in_t5 (i := 101) rfl rfl, rfl, (fun h => by cases h), by decide, rfl⟩ rfl (fun h => by cases h) (hF.s (j := 78) rfl) ?_
  refine ex_aload_n (pc := 5) (k := 0) (by decide +kernel) rfl ?_
  refine ex_aload_n (pc := 6) (k := 0) (by decide +kernel) rfl ?_
  refine ey_getI (pc := 7) (v := mi M 78 0) (by decide +kernel) lf_MM_151 (hF.s (j := 78) rfl) rfl ?_
  refine ex_putI (pc := 10) (index := 347) (ci := 11) (k := 26) (fin := false) (by decide +kernel) ⟨_, _, _, _, cf_MM, by decide, in_t5 (i := 102) rfl rfl, rfl, (fun h => by cases h), rfl, rfl⟩ rfl (fun h => by cases h) (hF.s (j := 78) rfl) ?_
  refine ex_aload_n (pc := 13) (k := 0) (by decide +kernel) rfl ?_
  refine ex_aload_n (pc := 14) (k := 0) (by decide +kernel) rfl ?_
  refine ey_getI (pc := 15) (v := mi M 78 6) (by decide +kernel) lf_MM_25 (hF.s (j := 78) rfl) rfl ?_
  refine ex_putI (pc := 18) (index := 350) (ci := 11) (k := 27) (fin := false) (by decide +kernel) ⟨_, _, _, _, cf_MM, by decide, in_t5 (i := 103) rfl rfl, rfl, (fun h => by cases h), rfl, rfl⟩ rfl (fun h => by cases h) (hF.s (j := 78) rfl) ?_
  refine ex_aload_n (pc := 21) (k := 0) (by decide +kernel) rfl ?_
  refine ex_aload_n (pc := 22) (k := 0) (by decide +kernel) rfl ?_
  refine ey_getI (pc := 23) (v := mi M 78 7) (by decide +kernel) lf_MM_168 (hF.s (j := 78) rfl) rfl ?_
  refine ex_putI (pc := 26) (index := 353) (ci := 11) (k := 28) (fin := false) (by decide +kernel) ⟨_, _, _, _, cf_MM, by decide, in_t5 (i := 104) rfl rfl, rfl, (fun h => by cases h), rfl, rfl⟩ rfl (fun h => by cases h) (hF.s (j := 78) rfl) ?_
  refine ex_aload_n (pc := 29) (k := 0) (by decide +kernel) rfl ?_
  refine ex_aload_n (pc := 30) (k := 0) (by decide +kernel) rfl ?_
  refine ey_getI (pc := 31) (v := mi M 78 15) (by decide +kernel) lf_MM_233 (hF.s (j := 78) rfl) rfl ?_
  refine ex_putI (pc := 34) (index := 356) (ci := 11) (k := 29) (fin := false) (by decide +kernel) ⟨_, _, _, _, cf_MM, by decide, in_t5 (i := 105) rfl rfl, rfl, (fun h => by cases h), rfl, rfl⟩ rfl (fun h => by cases h) (hF.s (j := 78) rfl) ?_
  refine ex_iconst (pc := 37) (k := 0) (v := nI 0) (by decide +kernel) (by decide) ?_
  refine ex_istore_n (pc := 38) (k := 1) (lo2 := [some (.ref 78), some (.int (nI 0))]) (by decide +kernel) (by decide) rfl ?_
  exact h
theorem k_MM_image_39 {d bc bs : Nat} {l1 : Int32} {M : Mem} {Φ : Option Value → Mem → Prop} (hF : Fm M) (h : ((nI 6) ≤ l1 → Ex (d + 1) m_MM_image bc bs 89 [some (.ref 78), some (.int (nI 0))] [] M Φ) ∧ (¬ (nI 6) ≤ l1 → vp_in l1 6 ∧ vp_in l1 6 ∧ vp_in l1 6 ∧ vp_in l1 6 ∧ vp_in l1 6 ∧ vp_in l1 6 ∧ Ex (d + 1) m_MM_image bc bs 39 [some (.ref 78), some (.int (l1 + nI 1))] [] (wi (wi (wi M 94 l1.toNatClampNeg (mi M 80 l1.toNatClampNeg)) 95 l1.toNatClampNeg (mi M 81 l1.toNatClampNeg)) 96 l1.toNatClampNeg (mi M 82 l1.toNatClampNeg)) Φ)) : Ex (d + 1) m_MM_image bc bs 39 [some (.ref 78), some (.int l1)] [] M Φ := by
  refine ex_iload_n (pc := 39) (k := 1) (by decide +kernel) rfl ?_
  refine ex_bipush (pc := 40) (k := 6) (v := nI 6) (by decide +kernel) (by decide) ?_
  refine ex_icmp_ge (pc := 42) (off := 45) (tgt := 87) (by decide +kernel) (by decide) (fun hc => ?_) (fun hc => ?_)
  · replace h := h.1 hc
    refine ex_iconst (pc := 87) (k := 0) (v := nI 0) (by decide +kernel) (by decide) ?_
    refine ex_istore_n (pc := 88) (k := 1) (lo2 := [some (.ref 78), some (.int (nI 0))]) (by decide +kernel) (by decide) rfl ?_
    exact h
  · replace h := h.2 hc
    refine ex_aload_n (pc := 45) (k := 0) (by decide +kernel) rfl ?_
    refine ex_getR (pc := 46) (a := 94) (by decide +kernel) lf_MM_62 (hF.s (j := 78) rfl) (hF.r (j := 78) (k := 30) rfl rfl) ?_
    refine ex_iload_n (pc := 49) (k := 1) (by decide +kernel) rfl ?_
    refine ex_aload_n (pc := 50) (k := 0) (by decide +kernel) rfl ?_
    refine ex_getR (pc := 51) (a := 80) (by decide +kernel) lf_MM_13 (hF.s (j := 78) rfl) (hF.r (j := 78) (k := 2) rfl rfl) ?_
    refine ex_iload_n (pc := 54) (k := 1) (by decide +kernel) rfl ?_
    obtain ⟨g1, h⟩ := h
    refine ey_iald (pc := 55) (v := mi M 80 l1.toNatClampNeg) (by decide +kernel) (hF.s (j := 80) rfl) g1 rfl rfl ?_
    obtain ⟨g2, h⟩ := h
    refine ey_iast (pc := 56) (by decide +kernel) (hF.s (j := 94) rfl) g2 rfl ?_
    refine ex_aload_n (pc := 57) (k := 0) (by decide +kernel) rfl ?_
    refine ex_getR (pc := 58) (a := 95) (by decide +kernel) lf_MM_65 (hF.s (j := 78) rfl) (hF.r (j := 78) (k := 31) rfl rfl) ?_
    refine ex_iload_n (pc := 61) (k := 1) (by decide +kernel) rfl ?_
    refine ex_aload_n (pc := 62) (k := 0) (by decide +kernel) rfl ?_
    refine ex_getR (pc := 63) (a := 81) (by decide +kernel) lf_MM_16 (hF.s (j := 78) rfl) (hF.r (j := 78) (k := 3) rfl rfl) ?_
    refine ex_iload_n (pc := 66) (k := 1) (by decide +kernel) rfl ?_
    obtain ⟨g3, h⟩ := h
    refine ey_iald (pc := 67) (v := mi M 81 l1.toNatClampNeg) (by decide +kernel) (hF.s (j := 81) rfl) g3 rfl rfl ?_
    obtain ⟨g4, h⟩ := h
    refine ey_iast (pc := 68) (by decide +kernel) (hF.s (j := 95) rfl) g4 rfl ?_
    refine ex_aload_n (pc := 69) (k := 0) (by decide +kernel) rfl ?_
    refine ex_getR (pc := 70) (a := 96) (by decide +kernel) lf_MM_68 (hF.s (j := 78) rfl) (hF.r (j := 78) (k := 32) rfl rfl) ?_
    refine ex_iload_n (pc := 73) (k := 1) (by decide +kernel) rfl ?_
    refine ex_aload_n (pc := 74) (k := 0) (by decide +kernel) rfl ?_
    refine ex_getR (pc := 75) (a := 82) (by decide +kernel) lf_MM_19 (hF.s (j := 78) rfl) (hF.r (j := 78) (k := 4) rfl rfl) ?_
    refine ex_iload_n (pc := 78) (k := 1) (by decide +kernel) rfl ?_
    obtain ⟨g5, h⟩ := h
    refine ey_iald (pc := 79) (v := mi M 82 l1.toNatClampNeg) (by decide +kernel) (hF.s (j := 82) rfl) g5 rfl rfl ?_
    obtain ⟨g6, h⟩ := h
    refine ey_iast (pc := 80) (by decide +kernel) (hF.s (j := 96) rfl) g6 rfl ?_
    refine ex_iinc (pc := 81) (i := 1) (k := 1) (v := l1 + nI 1) (lo2 := [some (.ref 78), some (.int (l1 + nI 1))]) (by decide +kernel) (by decide) rfl rfl rfl ?_
    refine ex_goto (pc := 84) (off := -45) (tgt := 39) (by decide +kernel) (by decide) ?_
    exact h
theorem k_MM_image_89 {d bc bs : Nat} {l1 : Int32} {M : Mem} {Φ : Option Value → Mem → Prop} (hF : Fm M) (h : ((nI 36) ≤ l1 → Ex (d + 1) m_MM_image bc bs 115 [some (.ref 78), some (.int (nI 0))] [] M Φ) ∧ (¬ (nI 36) ≤ l1 → vp_in l1 36 ∧ vp_in l1 36 ∧ Ex (d + 1) m_MM_image bc bs 89 [some (.ref 78), some (.int (l1 + nI 1))] [] (wi M 97 l1.toNatClampNeg (mi M 83 l1.toNatClampNeg)) Φ)) : Ex (d + 1) m_MM_image bc bs 89 [some (.ref 78), some (.int l1)] [] M Φ := by
  refine ex_iload_n (pc := 89) (k := 1) (by decide +kernel) rfl ?_
  refine ex_bipush (pc := 90) (k := 36) (v := nI 36) (by decide +kernel) (by decide) ?_
  refine ex_icmp_ge (pc := 92) (off := 21) (tgt := 113) (by decide +kernel) (by decide) (fun hc => ?_) (fun hc => ?_)
  · replace h := h.1 hc
    refine ex_iconst (pc := 113) (k := 0) (v := nI 0) (by decide +kernel) (by decide) ?_
    refine ex_istore_n (pc := 114) (k := 1) (lo2 := [some (.ref 78), some (.int (nI 0))]) (by decide +kernel) (by decide) rfl ?_
    exact h
  · replace h := h.2 hc
    refine ex_aload_n (pc := 95) (k := 0) (by decide +kernel) rfl ?_
    refine ex_getR (pc := 96) (a := 97) (by decide +kernel) lf_MM_71 (hF.s (j := 78) rfl) (hF.r (j := 78) (k := 33) rfl rfl) ?_
    refine ex_iload_n (pc := 99) (k := 1) (by decide +kernel) rfl ?_
    refine ex_aload_n (pc := 100) (k := 0) (by decide +kernel) rfl ?_
    refine ex_getR (pc := 101) (a := 83) (by decide +kernel) lf_MM_22 (hF.s (j := 78) rfl) (hF.r (j := 78) (k := 5) rfl rfl) ?_
    refine ex_iload_n (pc := 104) (k := 1) (by decide +kernel) rfl ?_
    obtain ⟨g1, h⟩ := h
    refine ey_iald (pc := 105) (v := mi M 83 l1.toNatClampNeg) (by decide +kernel) (hF.s (j := 83) rfl) g1 rfl rfl ?_
    obtain ⟨g2, h⟩ := h
    refine ey_iast (pc := 106) (by decide +kernel) (hF.s (j := 97) rfl) g2 rfl ?_
    refine ex_iinc (pc := 107) (i := 1) (k := 1) (v := l1 + nI 1) (lo2 := [some (.ref 78), some (.int (l1 + nI 1))]) (by decide +kernel) (by decide) rfl rfl rfl ?_
    refine ex_goto (pc := 110) (off := -21) (tgt := 89) (by decide +kernel) (by decide) ?_
    exact h
theorem k_MM_image_115 {d bc bs : Nat} {l1 : Int32} {M : Mem} {Φ : Option Value → Mem → Prop} (hF : Fm M) (h : ((nI 10) ≤ l1 → Φ (some (.int (mi M 78 0))) M) ∧ (¬ (nI 10) ≤ l1 → vp_in l1 10 ∧ vp_in l1 10 ∧ vp_in l1 10 ∧ vp_in l1 10 ∧ Ex (d + 1) m_MM_image bc bs 115 [some (.ref 78), some (.int (l1 + nI 1))] [] (wi (wi M 98 l1.toNatClampNeg (mi M 84 l1.toNatClampNeg)) 99 l1.toNatClampNeg (mi M 85 l1.toNatClampNeg)) Φ)) : Ex (d + 1) m_MM_image bc bs 115 [some (.ref 78), some (.int l1)] [] M Φ := by
  refine ex_iload_n (pc := 115) (k := 1) (by decide +kernel) rfl ?_
  refine ex_bipush (pc := 116) (k := 10) (v := nI 10) (by decide +kernel) (by decide) ?_
  refine ex_icmp_ge (pc := 118) (off := 33) (tgt := 151) (by decide +kernel) (by decide) (fun hc => ?_) (fun hc => ?_)
  · replace h := h.1 hc
    refine ex_aload_n (pc := 151) (k := 0) (by decide +kernel) rfl ?_
    refine ey_getI (pc := 152) (v := mi M 78 0) (by decide +kernel) lf_MM_151 (hF.s (j := 78) rfl) rfl ?_
    exact ex_ireturn (pc := 155) (by decide +kernel) rfl rfl h
  · replace h := h.2 hc
    refine ex_aload_n (pc := 121) (k := 0) (by decide +kernel) rfl ?_
    refine ex_getR (pc := 122) (a := 98) (by decide +kernel) lf_MM_74 (hF.s (j := 78) rfl) (hF.r (j := 78) (k := 34) rfl rfl) ?_
    refine ex_iload_n (pc := 125) (k := 1) (by decide +kernel) rfl ?_
    refine ex_aload_n (pc := 126) (k := 0) (by decide +kernel) rfl ?_
    refine ex_getR (pc := 127) (a := 84) (by decide +kernel) lf_MM_29 (hF.s (j := 78) rfl) (hF.r (j := 78) (k := 8) rfl rfl) ?_
    refine ex_iload_n (pc := 130) (k := 1) (by decide +kernel) rfl ?_
    obtain ⟨g1, h⟩ := h
    refine ey_iald (pc := 131) (v := mi M 84 l1.toNatClampNeg) (by decide +kernel) (hF.s (j := 84) rfl) g1 rfl rfl ?_
    obtain ⟨g2, h⟩ := h
    refine ey_iast (pc := 132) (by decide +kernel) (hF.s (j := 98) rfl) g2 rfl ?_
    refine ex_aload_n (pc := 133) (k := 0) (by decide +kernel) rfl ?_
    refine ex_getR (pc := 134) (a := 99) (by decide +kernel) lf_MM_77 (hF.s (j := 78) rfl) (hF.r (j := 78) (k := 35) rfl rfl) ?_
    refine ex_iload_n (pc := 137) (k := 1) (by decide +kernel) rfl ?_
    refine ex_aload_n (pc := 138) (k := 0) (by decide +kernel) rfl ?_
    refine ex_getR (pc := 139) (a := 85) (by decide +kernel) lf_MM_32 (hF.s (j := 78) rfl) (hF.r (j := 78) (k := 9) rfl rfl) ?_
    refine ex_iload_n (pc := 142) (k := 1) (by decide +kernel) rfl ?_
    obtain ⟨g3, h⟩ := h
    refine ey_iald (pc := 143) (v := mi M 85 l1.toNatClampNeg) (by decide +kernel) (hF.s (j := 85) rfl) g3 rfl rfl ?_
    obtain ⟨g4, h⟩ := h
    refine ey_iast (pc := 144) (by decide +kernel) (hF.s (j := 99) rfl) g4 rfl ?_
    refine ex_iinc (pc := 145) (i := 1) (k := 1) (v := l1 + nI 1) (lo2 := [some (.ref 78), some (.int (l1 + nI 1))]) (by decide +kernel) (by decide) rfl rfl rfl ?_
    refine ex_goto (pc := 148) (off := -33) (tgt := 115) (by decide +kernel) (by decide) ?_
    exact h
theorem k_MM_back_0 {d bc bs : Nat}  {M : Mem} {Φ : Option Value → Mem → Prop} (hF : Fm M) (h : (¬ (mi M 78 25) = 0 → Ex (d + 1) m_MM_back bc bs 36 [some (.ref 78), some (.int (nI 0)), none] [] (wi (wi (wi M 78 6 (mi M 78 27)) 78 7 (mi M 78 28)) 78 15 (mi M 78 29)) Φ) ∧ ((mi M 78 25) = 0 → Φ (some (.int (-3))) M)) : Ex (d + 1) m_MM_back bc bs 0 [some (.ref 78), none, none] [] M Φ := by
  refine ex_aload_n (pc := 0) (k := 0) (by decide +kernel) rfl ?_
  refine ey_getI (pc := 1) (v := mi M 78 25) (by decide +kernel) lf_MM_344 (hF.s (j := 78) rfl) rfl ?_
  refine ex_if_ne (pc := 4) (off := 6) (tgt := 10) (by decide +kernel) (by decide) (fun hc => ?_) (fun hc => ?_)
  · replace h := h.1 hc
    refine ex_aload_n (pc := 10) (k := 0) (by decide +kernel) rfl ?_
    refine ex_aload_n (pc := 11) (k := 0) (by decide +kernel) rfl ?_
    refine ey_getI (pc := 12) (v := mi M 78 27) (by decide +kernel) lf_MM_350 (hF.s (j := 78) rfl) rfl ?_
    refine ex_putI (pc := 15) (index := 25) (ci := 11) (k := 6) (fin := false) (by decide +kernel) ⟨_, _, _, _, cf_MM, by decide, in_t5 (i := 82) rfl rfl, rfl, (fun h => by cases h), rfl, rfl⟩ rfl (fun h => by cases h) (hF.s (j := 78) rfl) ?_
    refine ex_aload_n (pc := 18) (k := 0) (by decide +kernel) rfl ?_
    refine ex_aload_n (pc := 19) (k := 0) (by decide +kernel) rfl ?_
    refine ey_getI (pc := 20) (v := mi M 78 28) (by decide +kernel) lf_MM_353 (hF.s (j := 78) rfl) rfl ?_
    refine ex_putI (pc := 23) (index := 168) (ci := 11) (k := 7) (fin := false) (by decide +kernel) ⟨_, _, _, _, cf_MM, by decide, in_t5 (i := 83) rfl rfl, rfl, (fun h => by cases h), rfl, rfl⟩ rfl (fun h => by cases h) (hF.s (j := 78) rfl) ?_
    refine ex_aload_n (pc := 26) (k := 0) (by decide +kernel) rfl ?_
    refine ex_aload_n (pc := 27) (k := 0) (by decide +kernel) rfl ?_
    refine ey_getI (pc := 28) (v := mi M 78 29) (by decide +kernel) lf_MM_356 (hF.s (j := 78) rfl) rfl ?_
    refine ex_putI (pc := 31) (index := 233) (ci := 11) (k := 15) (fin := false) (by decide +kernel) ⟨_, _, _, _, cf_MM, by decide, in_t5 (i := 91) rfl rfl, rfl, (fun h => by cases h), rfl, rfl⟩ rfl (fun h => by cases h) (hF.s (j := 78) rfl) ?_
    refine ex_iconst (pc := 34) (k := 0) (v := nI 0) (by decide +kernel) (by decide) ?_
    refine ex_istore_n (pc := 35) (k := 1) (lo2 := [some (.ref 78), some (.int (nI 0)), none]) (by decide +kernel) (by decide) rfl ?_
    exact h
  · replace h := h.2 hc
    refine ex_bipush (pc := 7) (k := -3) (v := -3) (by decide +kernel) (by decide) ?_
    exact ex_ireturn (pc := 9) (by decide +kernel) rfl rfl h
theorem k_MM_back_36 {d bc bs : Nat} {l1 : Int32} {M : Mem} {Φ : Option Value → Mem → Prop} (hF : Fm M) (h : ((mi M 78 26) ≤ l1 → Ex (d + 1) m_MM_back bc bs 88 [some (.ref 78), some (.int (nI 0)), none] [] M Φ) ∧ (¬ (mi M 78 26) ≤ l1 → vp_in l1 6 ∧ vp_in l1 6 ∧ vp_in l1 6 ∧ vp_in l1 6 ∧ vp_in l1 6 ∧ vp_in l1 6 ∧ Ex (d + 1) m_MM_back bc bs 36 [some (.ref 78), some (.int (l1 + nI 1)), none] [] (wi (wi (wi M 80 l1.toNatClampNeg (mi M 94 l1.toNatClampNeg)) 81 l1.toNatClampNeg (mi M 95 l1.toNatClampNeg)) 82 l1.toNatClampNeg (mi M 96 l1.toNatClampNeg)) Φ)) : Ex (d + 1) m_MM_back bc bs 36 [some (.ref 78), some (.int l1), none] [] M Φ := by
  refine ex_iload_n (pc := 36) (k := 1) (by decide +kernel) rfl ?_
  refine ex_aload_n (pc := 37) (k := 0) (by decide +kernel) rfl ?_
  refine ey_getI (pc := 38) (v := mi M 78 26) (by decide +kernel) lf_MM_347 (hF.s (j := 78) rfl) rfl ?_
  refine ex_icmp_ge (pc := 41) (off := 45) (tgt := 86) (by decide +kernel) (by decide) (fun hc => ?_) (fun hc => ?_)
  · replace h := h.1 hc
    refine ex_iconst (pc := 86) (k := 0) (v := nI 0) (by decide +kernel) (by decide) ?_
    refine ex_istore_n (pc := 87) (k := 1) (lo2 := [some (.ref 78), some (.int (nI 0)), none]) (by decide +kernel) (by decide) rfl ?_
    exact h
  · replace h := h.2 hc
    refine ex_aload_n (pc := 44) (k := 0) (by decide +kernel) rfl ?_
    refine ex_getR (pc := 45) (a := 80) (by decide +kernel) lf_MM_13 (hF.s (j := 78) rfl) (hF.r (j := 78) (k := 2) rfl rfl) ?_
    refine ex_iload_n (pc := 48) (k := 1) (by decide +kernel) rfl ?_
    refine ex_aload_n (pc := 49) (k := 0) (by decide +kernel) rfl ?_
    refine ex_getR (pc := 50) (a := 94) (by decide +kernel) lf_MM_62 (hF.s (j := 78) rfl) (hF.r (j := 78) (k := 30) rfl rfl) ?_
    refine ex_iload_n (pc := 53) (k := 1) (by decide +kernel) rfl ?_
    obtain ⟨g1, h⟩ := h
    refine ey_iald (pc := 54) (v := mi M 94 l1.toNatClampNeg) (by decide +kernel) (hF.s (j := 94) rfl) g1 rfl rfl ?_
    obtain ⟨g2, h⟩ := h
    refine ey_iast (pc := 55) (by decide +kernel) (hF.s (j := 80) rfl) g2 rfl ?_
    refine ex_aload_n (pc := 56) (k := 0) (by decide +kernel) rfl ?_
    refine ex_getR (pc := 57) (a := 81) (by decide +kernel) lf_MM_16 (hF.s (j := 78) rfl) (hF.r (j := 78) (k := 3) rfl rfl) ?_
    refine ex_iload_n (pc := 60) (k := 1) (by decide +kernel) rfl ?_
    refine ex_aload_n (pc := 61) (k := 0) (by decide +kernel) rfl ?_
    refine ex_getR (pc := 62) (a := 95) (by decide +kernel) lf_MM_65 (hF.s (j := 78) rfl) (hF.r (j := 78) (k := 31) rfl rfl) ?_
    refine ex_iload_n (pc := 65) (k := 1) (by decide +kernel) rfl ?_
    obtain ⟨g3, h⟩ := h
    refine ey_iald (pc := 66) (v := mi M 95 l1.toNatClampNeg) (by decide +kernel) (hF.s (j := 95) rfl) g3 rfl rfl ?_
    obtain ⟨g4, h⟩ := h
    refine ey_iast (pc := 67) (by decide +kernel) (hF.s (j := 81) rfl) g4 rfl ?_
    refine ex_aload_n (pc := 68) (k := 0) (by decide +kernel) rfl ?_
    refine ex_getR (pc := 69) (a := 82) (by decide +kernel) lf_MM_19 (hF.s (j := 78) rfl) (hF.r (j := 78) (k := 4) rfl rfl) ?_
    refine ex_iload_n (pc := 72) (k := 1) (by decide +kernel) rfl ?_
    refine ex_aload_n (pc := 73) (k := 0) (by decide +kernel) rfl ?_
    refine ex_getR (pc := 74) (a := 96) (by decide +kernel) lf_MM_68 (hF.s (j := 78) rfl) (hF.r (j := 78) (k := 32) rfl rfl) ?_
    refine ex_iload_n (pc := 77) (k := 1) (by decide +kernel) rfl ?_
    obtain ⟨g5, h⟩ := h
    refine ey_iald (pc := 78) (v := mi M 96 l1.toNatClampNeg) (by decide +kernel) (hF.s (j := 96) rfl) g5 rfl rfl ?_
    obtain ⟨g6, h⟩ := h
    refine ey_iast (pc := 79) (by decide +kernel) (hF.s (j := 82) rfl) g6 rfl ?_
    refine ex_iinc (pc := 80) (i := 1) (k := 1) (v := l1 + nI 1) (lo2 := [some (.ref 78), some (.int (l1 + nI 1)), none]) (by decide +kernel) (by decide) rfl rfl rfl ?_
    refine ex_goto (pc := 83) (off := -47) (tgt := 36) (by decide +kernel) (by decide) ?_
    exact h
theorem k_MM_back_88 {d bc bs : Nat} {l1 : Int32} {M : Mem} {Φ : Option Value → Mem → Prop} (hF : Fm M) (h : ((nI 36) ≤ l1 → Ex (d + 1) m_MM_back bc bs 171 [some (.ref 78), some (.int (nI 0)), none] [] M Φ) ∧ (¬ (nI 36) ≤ l1 → ((mi M 78 26) ≤ (l1 / (nI 6)) → ((mi M 78 26) ≤ (l1 % (nI 6)) → (¬ ((nI 0) + (nI 0)) = (nI 2) → (¬ ((nI 0) + (nI 0)) = (nI 1) → vp_in l1 36 ∧ vp_in l1 36 ∧ Ex (d + 1) m_MM_back bc bs 88 [some (.ref 78), some (.int (l1 + nI 1)), none] [] (wi M 83 l1.toNatClampNeg (mi M 83 l1.toNatClampNeg)) Φ) ∧ (((nI 0) + (nI 0)) = (nI 1) → vp_in l1 36 ∧ Ex (d + 1) m_MM_back bc bs 88 [some (.ref 78), some (.int (l1 + nI 1)), none] [] (wi M 83 l1.toNatClampNeg (nI 0)) Φ)) ∧ (((nI 0) + (nI 0)) = (nI 2) → vp_in l1 36 ∧ vp_in l1 36 ∧ Ex (d + 1) m_MM_back bc bs 88 [some (.ref 78), some (.int (l1 + nI 1)), none] [] (wi M 83 l1.toNatClampNeg (mi M 97 l1.toNatClampNeg)) Φ)) ∧ (¬ (mi M 78 26) ≤ (l1 % (nI 6)) → (¬ ((nI 0) + (nI 1)) = (nI 2) → (¬ ((nI 0) + (nI 1)) = (nI 1) → vp_in l1 36 ∧ vp_in l1 36 ∧ Ex (d + 1) m_MM_back bc bs 88 [some (.ref 78), some (.int (l1 + nI 1)), none] [] (wi M 83 l1.toNatClampNeg (mi M 83 l1.toNatClampNeg)) Φ) ∧ (((nI 0) + (nI 1)) = (nI 1) → vp_in l1 36 ∧ Ex (d + 1) m_MM_back bc bs 88 [some (.ref 78), some (.int (l1 + nI 1)), none] [] (wi M 83 l1.toNatClampNeg (nI 0)) Φ)) ∧ (((nI 0) + (nI 1)) = (nI 2) → vp_in l1 36 ∧ vp_in l1 36 ∧ Ex (d + 1) m_MM_back bc bs 88 [some (.ref 78), some (.int (l1 + nI 1)), none] [] (wi M 83 l1.toNatClampNeg (mi M 97 l1.toNatClampNeg)) Φ))) ∧ (¬ (mi M 78 26) ≤ (l1 / (nI 6)) → ((mi M 78 26) ≤ (l1 % (nI 6)) → (¬ ((nI 1) + (nI 0)) = (nI 2) → (¬ ((nI 1) + (nI 0)) = (nI 1) → vp_in l1 36 ∧ vp_in l1 36 ∧ Ex (d + 1) m_MM_back bc bs 88 [some (.ref 78), some (.int (l1 + nI 1)), none] [] (wi M 83 l1.toNatClampNeg (mi M 83 l1.toNatClampNeg)) Φ) ∧ (((nI 1) + (nI 0)) = (nI 1) → vp_in l1 36 ∧ Ex (d + 1) m_MM_back bc bs 88 [some (.ref 78), some (.int (l1 + nI 1)), none] [] (wi M 83 l1.toNatClampNeg (nI 0)) Φ)) ∧ (((nI 1) + (nI 0)) = (nI 2) → vp_in l1 36 ∧ vp_in l1 36 ∧ Ex (d + 1) m_MM_back bc bs 88 [some (.ref 78), some (.int (l1 + nI 1)), none] [] (wi M 83 l1.toNatClampNeg (mi M 97 l1.toNatClampNeg)) Φ)) ∧ (¬ (mi M 78 26) ≤ (l1 % (nI 6)) → (¬ ((nI 1) + (nI 1)) = (nI 2) → (¬ ((nI 1) + (nI 1)) = (nI 1) → vp_in l1 36 ∧ vp_in l1 36 ∧ Ex (d + 1) m_MM_back bc bs 88 [some (.ref 78), some (.int (l1 + nI 1)), none] [] (wi M 83 l1.toNatClampNeg (mi M 83 l1.toNatClampNeg)) Φ) ∧ (((nI 1) + (nI 1)) = (nI 1) → vp_in l1 36 ∧ Ex (d + 1) m_MM_back bc bs 88 [some (.ref 78), some (.int (l1 + nI 1)), none] [] (wi M 83 l1.toNatClampNeg (nI 0)) Φ)) ∧ (((nI 1) + (nI 1)) = (nI 2) → vp_in l1 36 ∧ vp_in l1 36 ∧ Ex (d + 1) m_MM_back bc bs 88 [some (.ref 78), some (.int (l1 + nI 1)), none] [] (wi M 83 l1.toNatClampNeg (mi M 97 l1.toNatClampNeg)) Φ))))) : Ex (d + 1) m_MM_back bc bs 88 [some (.ref 78), some (.int l1), none] [] M Φ := by
  refine ex_iload_n (pc := 88) (k := 1) (by decide +kernel) rfl ?_
  refine ex_bipush (pc := 89) (k := 36) (v := nI 36) (by decide +kernel) (by decide) ?_
  refine ex_icmp_ge (pc := 91) (off := 78) (tgt := 169) (by decide +kernel) (by decide) (fun hc => ?_) (fun hc => ?_)
  · replace h := h.1 hc
    refine ex_iconst (pc := 169) (k := 0) (v := nI 0) (by decide +kernel) (by decide) ?_
    refine ex_istore_n (pc := 170) (k := 1) (lo2 := [some (.ref 78), some (.int (nI 0)), none]) (by decide +kernel) (by decide) rfl ?_
    exact h
  · replace h := h.2 hc
    refine ex_iload_n (pc := 94) (k := 1) (by decide +kernel) rfl ?_
    refine ex_bipush (pc := 95) (k := 6) (v := nI 6) (by decide +kernel) (by decide) ?_
    refine ex_idiv (pc := 97) (by decide +kernel) (by decide) ?_
    refine ex_aload_n (pc := 98) (k := 0) (by decide +kernel) rfl ?_
    refine ey_getI (pc := 99) (v := mi M 78 26) (by decide +kernel) lf_MM_347 (hF.s (j := 78) rfl) rfl ?_
    refine ex_icmp_ge (pc := 102) (off := 7) (tgt := 109) (by decide +kernel) (by decide) (fun hc => ?_) (fun hc => ?_)
    · replace h := h.1 hc
      refine ex_iconst (pc := 109) (k := 0) (v := nI 0) (by decide +kernel) (by decide) ?_
      refine ex_iload_n (pc := 110) (k := 1) (by decide +kernel) rfl ?_
      refine ex_bipush (pc := 111) (k := 6) (v := nI 6) (by decide +kernel) (by decide) ?_
      refine ex_irem (pc := 113) (by decide +kernel) (by decide) ?_
      refine ex_aload_n (pc := 114) (k := 0) (by decide +kernel) rfl ?_
      refine ey_getI (pc := 115) (v := mi M 78 26) (by decide +kernel) lf_MM_347 (hF.s (j := 78) rfl) rfl ?_
      refine ex_icmp_ge (pc := 118) (off := 7) (tgt := 125) (by decide +kernel) (by decide) (fun hc => ?_) (fun hc => ?_)
      · replace h := h.1 hc
        refine ex_iconst (pc := 125) (k := 0) (v := nI 0) (by decide +kernel) (by decide) ?_
        refine ex_iadd (pc := 126) (by decide +kernel) ?_
        refine ex_istore_n (pc := 127) (k := 2) (lo2 := [some (.ref 78), some (.int l1), some (.int ((nI 0) + (nI 0)))]) (by decide +kernel) (by decide) rfl ?_
        refine ex_aload_n (pc := 128) (k := 0) (by decide +kernel) rfl ?_
        refine ex_getR (pc := 129) (a := 83) (by decide +kernel) lf_MM_22 (hF.s (j := 78) rfl) (hF.r (j := 78) (k := 5) rfl rfl) ?_
        refine ex_iload_n (pc := 132) (k := 1) (by decide +kernel) rfl ?_
        refine ex_iload_n (pc := 133) (k := 2) (by decide +kernel) rfl ?_
        refine ex_iconst (pc := 134) (k := 2) (v := nI 2) (by decide +kernel) (by decide) ?_
        refine ex_icmp_ne (pc := 135) (off := 12) (tgt := 147) (by decide +kernel) (by decide) (fun hc => ?_) (fun hc => ?_)
        · replace h := h.1 hc
          refine ex_iload_n (pc := 147) (k := 2) (by decide +kernel) rfl ?_
          refine ex_iconst (pc := 148) (k := 1) (v := nI 1) (by decide +kernel) (by decide) ?_
          refine ex_icmp_ne (pc := 149) (off := 7) (tgt := 156) (by decide +kernel) (by decide) (fun hc => ?_) (fun hc => ?_)
          · replace h := h.1 hc
            refine ex_aload_n (pc := 156) (k := 0) (by decide +kernel) rfl ?_
            refine ex_getR (pc := 157) (a := 83) (by decide +kernel) lf_MM_22 (hF.s (j := 78) rfl) (hF.r (j := 78) (k := 5) rfl rfl) ?_
            refine ex_iload_n (pc := 160) (k := 1) (by decide +kernel) rfl ?_
            obtain ⟨g1, h⟩ := h
            refine ey_iald (pc := 161) (v := mi M 83 l1.toNatClampNeg) (by decide +kernel) (hF.s (j := 83) rfl) g1 rfl rfl ?_
            obtain ⟨g2, h⟩ := h
            refine ey_iast (pc := 162) (by decide +kernel) (hF.s (j := 83) rfl) g2 rfl ?_
            refine ex_iinc (pc := 163) (i := 1) (k := 1) (v := l1 + nI 1) (lo2 := [some (.ref 78), some (.int (l1 + nI 1)), some (.int ((nI 0) + (nI 0)))]) (by decide +kernel) (by decide) rfl rfl rfl ?_
            refine ex_goto (pc := 166) (off := -78) (tgt := 88) (by decide +kernel) (by decide) ?_
            exact Ex.msk [true, true, false] h
          · replace h := h.2 hc
            refine ex_iconst (pc := 152) (k := 0) (v := nI 0) (by decide +kernel) (by decide) ?_
            refine ex_goto (pc := 153) (off := 9) (tgt := 162) (by decide +kernel) (by decide) ?_
            obtain ⟨g3, h⟩ := h
            refine ey_iast (pc := 162) (by decide +kernel) (hF.s (j := 83) rfl) g3 rfl ?_
            refine ex_iinc (pc := 163) (i := 1) (k := 1) (v := l1 + nI 1) (lo2 := [some (.ref 78), some (.int (l1 + nI 1)), some (.int ((nI 0) + (nI 0)))]) (by decide +kernel) (by decide) rfl rfl rfl ?_
            refine ex_goto (pc := 166) (off := -78) (tgt := 88) (by decide +kernel) (by decide) ?_
            exact Ex.msk [true, true, false] h
        · replace h := h.2 hc
          refine ex_aload_n (pc := 138) (k := 0) (by decide +kernel) rfl ?_
          refine ex_getR (pc := 139) (a := 97) (by decide +kernel) lf_MM_71 (hF.s (j := 78) rfl) (hF.r (j := 78) (k := 33) rfl rfl) ?_
          refine ex_iload_n (pc := 142) (k := 1) (by decide +kernel) rfl ?_
          obtain ⟨g4, h⟩ := h
          refine ey_iald (pc := 143) (v := mi M 97 l1.toNatClampNeg) (by decide +kernel) (hF.s (j := 97) rfl) g4 rfl rfl ?_
          refine ex_goto (pc := 144) (off := 18) (tgt := 162) (by decide +kernel) (by decide) ?_
          obtain ⟨g5, h⟩ := h
          refine ey_iast (pc := 162) (by decide +kernel) (hF.s (j := 83) rfl) g5 rfl ?_
          refine ex_iinc (pc := 163) (i := 1) (k := 1) (v := l1 + nI 1) (lo2 := [some (.ref 78), some (.int (l1 + nI 1)), some (.int ((nI 0) + (nI 0)))]) (by decide +kernel) (by decide) rfl rfl rfl ?_
          refine ex_goto (pc := 166) (off := -78) (tgt := 88) (by decide +kernel) (by decide) ?_
          exact Ex.msk [true, true, false] h
      · replace h := h.2 hc
        refine ex_iconst (pc := 121) (k := 1) (v := nI 1) (by decide +kernel) (by decide) ?_
        refine ex_goto (pc := 122) (off := 4) (tgt := 126) (by decide +kernel) (by decide) ?_
        refine ex_iadd (pc := 126) (by decide +kernel) ?_
        refine ex_istore_n (pc := 127) (k := 2) (lo2 := [some (.ref 78), some (.int l1), some (.int ((nI 0) + (nI 1)))]) (by decide +kernel) (by decide) rfl ?_
        refine ex_aload_n (pc := 128) (k := 0) (by decide +kernel) rfl ?_
        refine ex_getR (pc := 129) (a := 83) (by decide +kernel) lf_MM_22 (hF.s (j := 78) rfl) (hF.r (j := 78) (k := 5) rfl rfl) ?_
        refine ex_iload_n (pc := 132) (k := 1) (by decide +kernel) rfl ?_
        refine ex_iload_n (pc := 133) (k := 2) (by decide +kernel) rfl ?_
        refine ex_iconst (pc := 134) (k := 2) (v := nI 2) (by decide +kernel) (by decide) ?_
        refine ex_icmp_ne (pc := 135) (off := 12) (tgt := 147) (by decide +kernel) (by decide) (fun hc => ?_) (fun hc => ?_)
        · replace h := h.1 hc
          refine ex_iload_n (pc := 147) (k := 2) (by decide +kernel) rfl ?_
          refine ex_iconst (pc := 148) (k := 1) (v := nI 1) (by decide +kernel) (by decide) ?_
          refine ex_icmp_ne (pc := 149) (off := 7) (tgt := 156) (by decide +kernel) (by decide) (fun hc => ?_) (fun hc => ?_)
          · replace h := h.1 hc
            refine ex_aload_n (pc := 156) (k := 0) (by decide +kernel) rfl ?_
            refine ex_getR (pc := 157) (a := 83) (by decide +kernel) lf_MM_22 (hF.s (j := 78) rfl) (hF.r (j := 78) (k := 5) rfl rfl) ?_
            refine ex_iload_n (pc := 160) (k := 1) (by decide +kernel) rfl ?_
            obtain ⟨g6, h⟩ := h
            refine ey_iald (pc := 161) (v := mi M 83 l1.toNatClampNeg) (by decide +kernel) (hF.s (j := 83) rfl) g6 rfl rfl ?_
            obtain ⟨g7, h⟩ := h
            refine ey_iast (pc := 162) (by decide +kernel) (hF.s (j := 83) rfl) g7 rfl ?_
            refine ex_iinc (pc := 163) (i := 1) (k := 1) (v := l1 + nI 1) (lo2 := [some (.ref 78), some (.int (l1 + nI 1)), some (.int ((nI 0) + (nI 1)))]) (by decide +kernel) (by decide) rfl rfl rfl ?_
            refine ex_goto (pc := 166) (off := -78) (tgt := 88) (by decide +kernel) (by decide) ?_
            exact Ex.msk [true, true, false] h
          · replace h := h.2 hc
            refine ex_iconst (pc := 152) (k := 0) (v := nI 0) (by decide +kernel) (by decide) ?_
            refine ex_goto (pc := 153) (off := 9) (tgt := 162) (by decide +kernel) (by decide) ?_
            obtain ⟨g8, h⟩ := h
            refine ey_iast (pc := 162) (by decide +kernel) (hF.s (j := 83) rfl) g8 rfl ?_
            refine ex_iinc (pc := 163) (i := 1) (k := 1) (v := l1 + nI 1) (lo2 := [some (.ref 78), some (.int (l1 + nI 1)), some (.int ((nI 0) + (nI 1)))]) (by decide +kernel) (by decide) rfl rfl rfl ?_
            refine ex_goto (pc := 166) (off := -78) (tgt := 88) (by decide +kernel) (by decide) ?_
            exact Ex.msk [true, true, false] h
        · replace h := h.2 hc
          refine ex_aload_n (pc := 138) (k := 0) (by decide +kernel) rfl ?_
          refine ex_getR (pc := 139) (a := 97) (by decide +kernel) lf_MM_71 (hF.s (j := 78) rfl) (hF.r (j := 78) (k := 33) rfl rfl) ?_
          refine ex_iload_n (pc := 142) (k := 1) (by decide +kernel) rfl ?_
          obtain ⟨g9, h⟩ := h
          refine ey_iald (pc := 143) (v := mi M 97 l1.toNatClampNeg) (by decide +kernel) (hF.s (j := 97) rfl) g9 rfl rfl ?_
          refine ex_goto (pc := 144) (off := 18) (tgt := 162) (by decide +kernel) (by decide) ?_
          obtain ⟨g10, h⟩ := h
          refine ey_iast (pc := 162) (by decide +kernel) (hF.s (j := 83) rfl) g10 rfl ?_
          refine ex_iinc (pc := 163) (i := 1) (k := 1) (v := l1 + nI 1) (lo2 := [some (.ref 78), some (.int (l1 + nI 1)), some (.int ((nI 0) + (nI 1)))]) (by decide +kernel) (by decide) rfl rfl rfl ?_
          refine ex_goto (pc := 166) (off := -78) (tgt := 88) (by decide +kernel) (by decide) ?_
          exact Ex.msk [true, true, false] h
    · replace h := h.2 hc
      refine ex_iconst (pc := 105) (k := 1) (v := nI 1) (by decide +kernel) (by decide) ?_
      refine ex_goto (pc := 106) (off := 4) (tgt := 110) (by decide +kernel) (by decide) ?_
      refine ex_iload_n (pc := 110) (k := 1) (by decide +kernel) rfl ?_
      refine ex_bipush (pc := 111) (k := 6) (v := nI 6) (by decide +kernel) (by decide) ?_
      refine ex_irem (pc := 113) (by decide +kernel) (by decide) ?_
      refine ex_aload_n (pc := 114) (k := 0) (by decide +kernel) rfl ?_
      refine ey_getI (pc := 115) (v := mi M 78 26) (by decide +kernel) lf_MM_347 (hF.s (j := 78) rfl) rfl ?_
      refine ex_icmp_ge (pc := 118) (off := 7) (tgt := 125) (by decide +kernel) (by decide) (fun hc => ?_) (fun hc => ?_)
      · replace h := h.1 hc
        refine ex_iconst (pc := 125) (k := 0) (v := nI 0) (by decide +kernel) (by decide) ?_
        refine ex_iadd (pc := 126) (by decide +kernel) ?_
        refine ex_istore_n (pc := 127) (k := 2) (lo2 := [some (.ref 78), some (.int l1), some (.int ((nI 1) + (nI 0)))]) (by decide +kernel) (by decide) rfl ?_
        refine ex_aload_n (pc := 128) (k := 0) (by decide +kernel) rfl ?_
        refine ex_getR (pc := 129) (a := 83) (by decide +kernel) lf_MM_22 (hF.s (j := 78) rfl) (hF.r (j := 78) (k := 5) rfl rfl) ?_
        refine ex_iload_n (pc := 132) (k := 1) (by decide +kernel) rfl ?_
        refine ex_iload_n (pc := 133) (k := 2) (by decide +kernel) rfl ?_
        refine ex_iconst (pc := 134) (k := 2) (v := nI 2) (by decide +kernel) (by decide) ?_
        refine ex_icmp_ne (pc := 135) (off := 12) (tgt := 147) (by decide +kernel) (by decide) (fun hc => ?_) (fun hc => ?_)
        · replace h := h.1 hc
          refine ex_iload_n (pc := 147) (k := 2) (by decide +kernel) rfl ?_
          refine ex_iconst (pc := 148) (k := 1) (v := nI 1) (by decide +kernel) (by decide) ?_
          refine ex_icmp_ne (pc := 149) (off := 7) (tgt := 156) (by decide +kernel) (by decide) (fun hc => ?_) (fun hc => ?_)
          · replace h := h.1 hc
            refine ex_aload_n (pc := 156) (k := 0) (by decide +kernel) rfl ?_
            refine ex_getR (pc := 157) (a := 83) (by decide +kernel) lf_MM_22 (hF.s (j := 78) rfl) (hF.r (j := 78) (k := 5) rfl rfl) ?_
            refine ex_iload_n (pc := 160) (k := 1) (by decide +kernel) rfl ?_
            obtain ⟨g11, h⟩ := h
            refine ey_iald (pc := 161) (v := mi M 83 l1.toNatClampNeg) (by decide +kernel) (hF.s (j := 83) rfl) g11 rfl rfl ?_
            obtain ⟨g12, h⟩ := h
            refine ey_iast (pc := 162) (by decide +kernel) (hF.s (j := 83) rfl) g12 rfl ?_
            refine ex_iinc (pc := 163) (i := 1) (k := 1) (v := l1 + nI 1) (lo2 := [some (.ref 78), some (.int (l1 + nI 1)), some (.int ((nI 1) + (nI 0)))]) (by decide +kernel) (by decide) rfl rfl rfl ?_
            refine ex_goto (pc := 166) (off := -78) (tgt := 88) (by decide +kernel) (by decide) ?_
            exact Ex.msk [true, true, false] h
          · replace h := h.2 hc
            refine ex_iconst (pc := 152) (k := 0) (v := nI 0) (by decide +kernel) (by decide) ?_
            refine ex_goto (pc := 153) (off := 9) (tgt := 162) (by decide +kernel) (by decide) ?_
            obtain ⟨g13, h⟩ := h
            refine ey_iast (pc := 162) (by decide +kernel) (hF.s (j := 83) rfl) g13 rfl ?_
            refine ex_iinc (pc := 163) (i := 1) (k := 1) (v := l1 + nI 1) (lo2 := [some (.ref 78), some (.int (l1 + nI 1)), some (.int ((nI 1) + (nI 0)))]) (by decide +kernel) (by decide) rfl rfl rfl ?_
            refine ex_goto (pc := 166) (off := -78) (tgt := 88) (by decide +kernel) (by decide) ?_
            exact Ex.msk [true, true, false] h
        · replace h := h.2 hc
          refine ex_aload_n (pc := 138) (k := 0) (by decide +kernel) rfl ?_
          refine ex_getR (pc := 139) (a := 97) (by decide +kernel) lf_MM_71 (hF.s (j := 78) rfl) (hF.r (j := 78) (k := 33) rfl rfl) ?_
          refine ex_iload_n (pc := 142) (k := 1) (by decide +kernel) rfl ?_
          obtain ⟨g14, h⟩ := h
          refine ey_iald (pc := 143) (v := mi M 97 l1.toNatClampNeg) (by decide +kernel) (hF.s (j := 97) rfl) g14 rfl rfl ?_
          refine ex_goto (pc := 144) (off := 18) (tgt := 162) (by decide +kernel) (by decide) ?_
          obtain ⟨g15, h⟩ := h
          refine ey_iast (pc := 162) (by decide +kernel) (hF.s (j := 83) rfl) g15 rfl ?_
          refine ex_iinc (pc := 163) (i := 1) (k := 1) (v := l1 + nI 1) (lo2 := [some (.ref 78), some (.int (l1 + nI 1)), some (.int ((nI 1) + (nI 0)))]) (by decide +kernel) (by decide) rfl rfl rfl ?_
          refine ex_goto (pc := 166) (off := -78) (tgt := 88) (by decide +kernel) (by decide) ?_
          exact Ex.msk [true, true, false] h
      · replace h := h.2 hc
        refine ex_iconst (pc := 121) (k := 1) (v := nI 1) (by decide +kernel) (by decide) ?_
        refine ex_goto (pc := 122) (off := 4) (tgt := 126) (by decide +kernel) (by decide) ?_
        refine ex_iadd (pc := 126) (by decide +kernel) ?_
        refine ex_istore_n (pc := 127) (k := 2) (lo2 := [some (.ref 78), some (.int l1), some (.int ((nI 1) + (nI 1)))]) (by decide +kernel) (by decide) rfl ?_
        refine ex_aload_n (pc := 128) (k := 0) (by decide +kernel) rfl ?_
        refine ex_getR (pc := 129) (a := 83) (by decide +kernel) lf_MM_22 (hF.s (j := 78) rfl) (hF.r (j := 78) (k := 5) rfl rfl) ?_
        refine ex_iload_n (pc := 132) (k := 1) (by decide +kernel) rfl ?_
        refine ex_iload_n (pc := 133) (k := 2) (by decide +kernel) rfl ?_
        refine ex_iconst (pc := 134) (k := 2) (v := nI 2) (by decide +kernel) (by decide) ?_
        refine ex_icmp_ne (pc := 135) (off := 12) (tgt := 147) (by decide +kernel) (by decide) (fun hc => ?_) (fun hc => ?_)
        · replace h := h.1 hc
          refine ex_iload_n (pc := 147) (k := 2) (by decide +kernel) rfl ?_
          refine ex_iconst (pc := 148) (k := 1) (v := nI 1) (by decide +kernel) (by decide) ?_
          refine ex_icmp_ne (pc := 149) (off := 7) (tgt := 156) (by decide +kernel) (by decide) (fun hc => ?_) (fun hc => ?_)
          · replace h := h.1 hc
            refine ex_aload_n (pc := 156) (k := 0) (by decide +kernel) rfl ?_
            refine ex_getR (pc := 157) (a := 83) (by decide +kernel) lf_MM_22 (hF.s (j := 78) rfl) (hF.r (j := 78) (k := 5) rfl rfl) ?_
            refine ex_iload_n (pc := 160) (k := 1) (by decide +kernel) rfl ?_
            obtain ⟨g16, h⟩ := h
            refine ey_iald (pc := 161) (v := mi M 83 l1.toNatClampNeg) (by decide +kernel) (hF.s (j := 83) rfl) g16 rfl rfl ?_
            obtain ⟨g17, h⟩ := h
            refine ey_iast (pc := 162) (by decide +kernel) (hF.s (j := 83) rfl) g17 rfl ?_
            refine ex_iinc (pc := 163) (i := 1) (k := 1) (v := l1 + nI 1) (lo2 := [some (.ref 78), some (.int (l1 + nI 1)), some (.int ((nI 1) + (nI 1)))]) (by decide +kernel) (by decide) rfl rfl rfl ?_
            refine ex_goto (pc := 166) (off := -78) (tgt := 88) (by decide +kernel) (by decide) ?_
            exact Ex.msk [true, true, false] h
          · replace h := h.2 hc
            refine ex_iconst (pc := 152) (k := 0) (v := nI 0) (by decide +kernel) (by decide) ?_
            refine ex_goto (pc := 153) (off := 9) (tgt := 162) (by decide +kernel) (by decide) ?_
            obtain ⟨g18, h⟩ := h
            refine ey_iast (pc := 162) (by decide +kernel) (hF.s (j := 83) rfl) g18 rfl ?_
            refine ex_iinc (pc := 163) (i := 1) (k := 1) (v := l1 + nI 1) (lo2 := [some (.ref 78), some (.int (l1 + nI 1)), some (.int ((nI 1) + (nI 1)))]) (by decide +kernel) (by decide) rfl rfl rfl ?_
            refine ex_goto (pc := 166) (off := -78) (tgt := 88) (by decide +kernel) (by decide) ?_
            exact Ex.msk [true, true, false] h
        · replace h := h.2 hc
          refine ex_aload_n (pc := 138) (k := 0) (by decide +kernel) rfl ?_
          refine ex_getR (pc := 139) (a := 97) (by decide +kernel) lf_MM_71 (hF.s (j := 78) rfl) (hF.r (j := 78) (k := 33) rfl rfl) ?_
          refine ex_iload_n (pc := 142) (k := 1) (by decide +kernel) rfl ?_
          obtain ⟨g19, h⟩ := h
          refine ey_iald (pc := 143) (v := mi M 97 l1.toNatClampNeg) (by decide +kernel) (hF.s (j := 97) rfl) g19 rfl rfl ?_
          refine ex_goto (pc := 144) (off := 18) (tgt := 162) (by decide +kernel) (by decide) ?_
          obtain ⟨g20, h⟩ := h
          refine ey_iast (pc := 162) (by decide +kernel) (hF.s (j := 83) rfl) g20 rfl ?_
          refine ex_iinc (pc := 163) (i := 1) (k := 1) (v := l1 + nI 1) (lo2 := [some (.ref 78), some (.int (l1 + nI 1)), some (.int ((nI 1) + (nI 1)))]) (by decide +kernel) (by decide) rfl rfl rfl ?_
          refine ex_goto (pc := 166) (off := -78) (tgt := 88) (by decide +kernel) (by decide) ?_
          exact Ex.msk [true, true, false] h
theorem k_MM_back_171 {d bc bs : Nat} {l1 : Int32} {M : Mem} {Φ : Option Value → Mem → Prop} (hF : Fm M) (h : ((nI 10) ≤ l1 → Φ (some (.int (mi M 78 0))) M) ∧ (¬ (nI 10) ≤ l1 → vp_in l1 10 ∧ vp_in l1 10 ∧ vp_in l1 10 ∧ vp_in l1 10 ∧ Ex (d + 1) m_MM_back bc bs 171 [some (.ref 78), some (.int (l1 + nI 1)), none] [] (wi (wi M 84 l1.toNatClampNeg (mi M 98 l1.toNatClampNeg)) 85 l1.toNatClampNeg (mi M 99 l1.toNatClampNeg)) Φ)) : Ex (d + 1) m_MM_back bc bs 171 [some (.ref 78), some (.int l1), none] [] M Φ := by
  refine ex_iload_n (pc := 171) (k := 1) (by decide +kernel) rfl ?_
  refine ex_bipush (pc := 172) (k := 10) (v := nI 10) (by decide +kernel) (by decide) ?_
  refine ex_icmp_ge (pc := 174) (off := 33) (tgt := 207) (by decide +kernel) (by decide) (fun hc => ?_) (fun hc => ?_)
  · replace h := h.1 hc
    refine ex_aload_n (pc := 207) (k := 0) (by decide +kernel) rfl ?_
    refine ey_getI (pc := 208) (v := mi M 78 0) (by decide +kernel) lf_MM_151 (hF.s (j := 78) rfl) rfl ?_
    exact ex_ireturn (pc := 211) (by decide +kernel) rfl rfl h
  · replace h := h.2 hc
    refine ex_aload_n (pc := 177) (k := 0) (by decide +kernel) rfl ?_
    refine ex_getR (pc := 178) (a := 84) (by decide +kernel) lf_MM_29 (hF.s (j := 78) rfl) (hF.r (j := 78) (k := 8) rfl rfl) ?_
    refine ex_iload_n (pc := 181) (k := 1) (by decide +kernel) rfl ?_
    refine ex_aload_n (pc := 182) (k := 0) (by decide +kernel) rfl ?_
    refine ex_getR (pc := 183) (a := 98) (by decide +kernel) lf_MM_74 (hF.s (j := 78) rfl) (hF.r (j := 78) (k := 34) rfl rfl) ?_
    refine ex_iload_n (pc := 186) (k := 1) (by decide +kernel) rfl ?_
    obtain ⟨g1, h⟩ := h
    refine ey_iald (pc := 187) (v := mi M 98 l1.toNatClampNeg) (by decide +kernel) (hF.s (j := 98) rfl) g1 rfl rfl ?_
    obtain ⟨g2, h⟩ := h
    refine ey_iast (pc := 188) (by decide +kernel) (hF.s (j := 84) rfl) g2 rfl ?_
    refine ex_aload_n (pc := 189) (k := 0) (by decide +kernel) rfl ?_
    refine ex_getR (pc := 190) (a := 85) (by decide +kernel) lf_MM_32 (hF.s (j := 78) rfl) (hF.r (j := 78) (k := 9) rfl rfl) ?_
    refine ex_iload_n (pc := 193) (k := 1) (by decide +kernel) rfl ?_
    refine ex_aload_n (pc := 194) (k := 0) (by decide +kernel) rfl ?_
    refine ex_getR (pc := 195) (a := 99) (by decide +kernel) lf_MM_77 (hF.s (j := 78) rfl) (hF.r (j := 78) (k := 35) rfl rfl) ?_
    refine ex_iload_n (pc := 198) (k := 1) (by decide +kernel) rfl ?_
    obtain ⟨g3, h⟩ := h
    refine ey_iald (pc := 199) (v := mi M 99 l1.toNatClampNeg) (by decide +kernel) (hF.s (j := 99) rfl) g3 rfl rfl ?_
    obtain ⟨g4, h⟩ := h
    refine ey_iast (pc := 200) (by decide +kernel) (hF.s (j := 85) rfl) g4 rfl ?_
    refine ex_iinc (pc := 201) (i := 1) (k := 1) (v := l1 + nI 1) (lo2 := [some (.ref 78), some (.int (l1 + nI 1)), none]) (by decide +kernel) (by decide) rfl rfl rfl ?_
    refine ex_goto (pc := 204) (off := -33) (tgt := 171) (by decide +kernel) (by decide) ?_
    exact h
theorem k_MM_sheet_0 {d bc bs : Nat} {l1 : Int32} {l2 : Int32} {l3 : Int32} {M : Mem} {Φ : Option Value → Mem → Prop} (hF : Fm M) (h : Con d m_MM_in 0 0 [.int l1, .int (nI 0), .int (nI 3)] M (PB fun r1 M1 => Fm M1 ∧ (r1 = false → Φ (some (.int (-2))) M1) ∧ (r1 = true → Con d m_MM_in 0 0 [.int l2, .int (-1), .int (nI 2)] M1 (PB fun r2 M2 => Fm M2 ∧ (r2 = false → Φ (some (.int (-2))) M2) ∧ (r2 = true → (l2 = (-1) → Ex (d + 1) m_MM_sheet bc bs 32 [some (.ref 78), some (.int l1), some (.int l2), some (.int l3), none] [] M2 Φ) ∧ (¬ l2 = (-1) → (l3 ≤ (nI 40) → Ex (d + 1) m_MM_sheet bc bs 32 [some (.ref 78), some (.int l1), some (.int l2), some (.int l3), none] [] M2 Φ) ∧ (¬ l3 ≤ (nI 40) → Φ (some (.int (-2))) M2))))))) : Ex (d + 1) m_MM_sheet bc bs 0 [some (.ref 78), some (.int l1), some (.int l2), some (.int l3), none] [] M Φ := by
  refine ex_iload_n (pc := 0) (k := 1) (by decide +kernel) rfl ?_
  refine ex_iconst (pc := 1) (k := 0) (v := nI 0) (by decide +kernel) (by decide) ?_
  refine ex_iconst (pc := 2) (k := 3) (v := nI 3) (by decide +kernel) (by decide) ?_
  refine ex_callS (pc := 3) (as := [.int l1, .int (nI 0), .int (nI 3)]) (by decide +kernel) F_MM_in (in_t6 (i := 11) rfl rfl) rfl rfl (Nat.le_of_ble_eq_true rfl) (Nat.lt_succ_self _) ⟨Nat.zero_le _, Nat.zero_le _⟩ (KC_B (Con.mono h ?_))
  intro o M1 ⟨r1, e9, hF1, h⟩
  refine ⟨r1, e9, ?_⟩
  refine ey_ifeqB (pc := 6) (off := 23) (tgt := 29) (by decide +kernel) (by decide) (fun hc => ?_) (fun hc => ?_)
  · replace h := h.1 hc
    refine ex_bipush (pc := 29) (k := -2) (v := -2) (by decide +kernel) (by decide) ?_
    exact ex_ireturn (pc := 31) (by decide +kernel) rfl rfl h
  · replace h := h.2 hc
    refine ex_iload_n (pc := 9) (k := 2) (by decide +kernel) rfl ?_
    refine ex_iconst (pc := 10) (k := -1) (v := -1) (by decide +kernel) (by decide) ?_
    refine ex_iconst (pc := 11) (k := 2) (v := nI 2) (by decide +kernel) (by decide) ?_
    refine ex_callS (pc := 12) (as := [.int l2, .int (-1), .int (nI 2)]) (by decide +kernel) F_MM_in (in_t6 (i := 11) rfl rfl) rfl rfl (Nat.le_of_ble_eq_true rfl) (Nat.lt_succ_self _) ⟨Nat.zero_le _, Nat.zero_le _⟩ (KC_B (Con.mono h ?_))
    intro o M2 ⟨r2, e9, hF2, h⟩
    refine ⟨r2, e9, ?_⟩
    refine ey_ifeqB (pc := 15) (off := 14) (tgt := 29) (by decide +kernel) (by decide) (fun hc => ?_) (fun hc => ?_)
    · replace h := h.1 hc
      refine ex_bipush (pc := 29) (k := -2) (v := -2) (by decide +kernel) (by decide) ?_
      exact ex_ireturn (pc := 31) (by decide +kernel) rfl rfl h
    · replace h := h.2 hc
      refine ex_iload_n (pc := 18) (k := 2) (by decide +kernel) rfl ?_
      refine ex_iconst (pc := 19) (k := -1) (v := -1) (by decide +kernel) (by decide) ?_
      refine ex_icmp_eq (pc := 20) (off := 12) (tgt := 32) (by decide +kernel) (by decide) (fun hc => ?_) (fun hc => ?_)
      · replace h := h.1 hc
        exact h
      · replace h := h.2 hc
        refine ex_iload_n (pc := 23) (k := 3) (by decide +kernel) rfl ?_
        refine ex_bipush (pc := 24) (k := 40) (v := nI 40) (by decide +kernel) (by decide) ?_
        refine ex_icmp_le (pc := 26) (off := 6) (tgt := 32) (by decide +kernel) (by decide) (fun hc => ?_) (fun hc => ?_)
        · replace h := h.1 hc
          exact h
        · replace h := h.2 hc
          refine ex_bipush (pc := 29) (k := -2) (v := -2) (by decide +kernel) (by decide) ?_
          exact ex_ireturn (pc := 31) (by decide +kernel) rfl rfl h
theorem k_MM_sheet_32 {d bc bs : Nat} {l1 : Int32} {l2 : Int32} {l3 : Int32} {M : Mem} {Φ : Option Value → Mem → Prop} (hF : Fm M) (h : (l2 = (-1) → Ex (d + 1) m_MM_sheet bc bs 44 [some (.ref 78), some (.int l1), some (.int l2), some (.int l3), none] [] M Φ) ∧ (¬ l2 = (-1) → (0 ≤ l3 → Ex (d + 1) m_MM_sheet bc bs 44 [some (.ref 78), some (.int l1), some (.int l2), some (.int l3), none] [] M Φ) ∧ (¬ 0 ≤ l3 → Φ (some (.int (-14))) M))) : Ex (d + 1) m_MM_sheet bc bs 32 [some (.ref 78), some (.int l1), some (.int l2), some (.int l3), none] [] M Φ := by
  refine ex_iload_n (pc := 32) (k := 2) (by decide +kernel) rfl ?_
  refine ex_iconst (pc := 33) (k := -1) (v := -1) (by decide +kernel) (by decide) ?_
  refine ex_icmp_eq (pc := 34) (off := 10) (tgt := 44) (by decide +kernel) (by decide) (fun hc => ?_) (fun hc => ?_)
  · replace h := h.1 hc
    exact h
  · replace h := h.2 hc
    refine ex_iload_n (pc := 37) (k := 3) (by decide +kernel) rfl ?_
    refine ex_if_ge (pc := 38) (off := 6) (tgt := 44) (by decide +kernel) (by decide) (fun hc => ?_) (fun hc => ?_)
    · replace h := h.1 hc
      exact h
    · replace h := h.2 hc
      refine ex_bipush (pc := 41) (k := -14) (v := -14) (by decide +kernel) (by decide) ?_
      exact ex_ireturn (pc := 43) (by decide +kernel) rfl rfl h
theorem k_MM_sheet_44 {d bc bs : Nat} {l1 : Int32} {l2 : Int32} {l3 : Int32} {M : Mem} {Φ : Option Value → Mem → Prop} (hF : Fm M) (h : vp_in l1 4 ∧ (¬ l2 = (-1) → vp_in l1 4 ∧ Ex (d + 1) m_MM_sheet bc bs 70 [some (.ref 78), some (.int l1), some (.int l2), some (.int l3), some (.int (nI 0))] [] (wi (wi M 100 l1.toNatClampNeg l2) 101 l1.toNatClampNeg l3) Φ) ∧ (l2 = (-1) → vp_in l1 4 ∧ Ex (d + 1) m_MM_sheet bc bs 70 [some (.ref 78), some (.int l1), some (.int l2), some (.int l3), some (.int (nI 0))] [] (wi (wi M 100 l1.toNatClampNeg l2) 101 l1.toNatClampNeg (nI 0)) Φ)) : Ex (d + 1) m_MM_sheet bc bs 44 [some (.ref 78), some (.int l1), some (.int l2), some (.int l3), none] [] M Φ := by
  refine ex_aload_n (pc := 44) (k := 0) (by decide +kernel) rfl ?_
  refine ex_getR (pc := 45) (a := 100) (by decide +kernel) lf_MM_80 (hF.s (j := 78) rfl) (hF.r (j := 78) (k := 36) rfl rfl) ?_
  refine ex_iload_n (pc := 48) (k := 1) (by decide +kernel) rfl ?_
  refine ex_iload_n (pc := 49) (k := 2) (by decide +kernel) rfl ?_
  obtain ⟨g1, h⟩ := h
  refine ey_iast (pc := 50) (by decide +kernel) (hF.s (j := 100) rfl) g1 rfl ?_
  refine ex_aload_n (pc := 51) (k := 0) (by decide +kernel) rfl ?_
  refine ex_getR (pc := 52) (a := 101) (by decide +kernel) lf_MM_83 (hF.s (j := 78) rfl) (hF.r (j := 78) (k := 37) rfl rfl) ?_
  refine ex_iload_n (pc := 55) (k := 1) (by decide +kernel) rfl ?_
  refine ex_iload_n (pc := 56) (k := 2) (by decide +kernel) rfl ?_
  refine ex_iconst (pc := 57) (k := -1) (v := -1) (by decide +kernel) (by decide) ?_
  refine ex_icmp_ne (pc := 58) (off := 7) (tgt := 65) (by decide +kernel) (by decide) (fun hc => ?_) (fun hc => ?_)
  · replace h := h.1 hc
    refine ex_iload_n (pc := 65) (k := 3) (by decide +kernel) rfl ?_
    obtain ⟨g2, h⟩ := h
    refine ey_iast (pc := 66) (by decide +kernel) (hF.s (j := 101) rfl) g2 rfl ?_
    refine ex_iconst (pc := 67) (k := 0) (v := nI 0) (by decide +kernel) (by decide) ?_
    refine ex_istore (pc := 68) (k := 4) (lo2 := [some (.ref 78), some (.int l1), some (.int l2), some (.int l3), some (.int (nI 0))]) (by decide +kernel) (by decide) rfl ?_
    exact h
  · replace h := h.2 hc
    refine ex_iconst (pc := 61) (k := 0) (v := nI 0) (by decide +kernel) (by decide) ?_
    refine ex_goto (pc := 62) (off := 4) (tgt := 66) (by decide +kernel) (by decide) ?_
    obtain ⟨g3, h⟩ := h
    refine ey_iast (pc := 66) (by decide +kernel) (hF.s (j := 101) rfl) g3 rfl ?_
    refine ex_iconst (pc := 67) (k := 0) (v := nI 0) (by decide +kernel) (by decide) ?_
    refine ex_istore (pc := 68) (k := 4) (lo2 := [some (.ref 78), some (.int l1), some (.int l2), some (.int l3), some (.int (nI 0))]) (by decide +kernel) (by decide) rfl ?_
    exact h
theorem k_MM_sheet_70 {d bc bs : Nat} {l1 : Int32} {l2 : Int32} {l3 : Int32} {l4 : Int32} {M : Mem} {Φ : Option Value → Mem → Prop} (hF : Fm M) (h : ((nI 40) ≤ l4 → Φ (some (.int (nI 1))) M) ∧ (¬ (nI 40) ≤ l4 → vp_in (((nI 40) * l1) + l4) 160 ∧ Ex (d + 1) m_MM_sheet bc bs 70 [some (.ref 78), some (.int l1), some (.int l2), some (.int l3), some (.int (l4 + nI 1))] [] (wi M 102 ((((nI 40) * l1) + l4).toNatClampNeg) (nI 0)) Φ)) : Ex (d + 1) m_MM_sheet bc bs 70 [some (.ref 78), some (.int l1), some (.int l2), some (.int l3), some (.int l4)] [] M Φ := by
  refine ex_iload (pc := 70) (k := 4) (by decide +kernel) rfl ?_
  refine ex_bipush (pc := 72) (k := 40) (v := nI 40) (by decide +kernel) (by decide) ?_
  refine ex_icmp_ge (pc := 74) (off := 22) (tgt := 96) (by decide +kernel) (by decide) (fun hc => ?_) (fun hc => ?_)
  · replace h := h.1 hc
    refine ex_iconst (pc := 96) (k := 1) (v := nI 1) (by decide +kernel) (by decide) ?_
    exact ex_ireturn (pc := 97) (by decide +kernel) rfl rfl h
  · replace h := h.2 hc
    refine ex_aload_n (pc := 77) (k := 0) (by decide +kernel) rfl ?_
    refine ex_getR (pc := 78) (a := 102) (by decide +kernel) lf_MM_86 (hF.s (j := 78) rfl) (hF.r (j := 78) (k := 38) rfl rfl) ?_
    refine ex_bipush (pc := 81) (k := 40) (v := nI 40) (by decide +kernel) (by decide) ?_
    refine ex_iload_n (pc := 83) (k := 1) (by decide +kernel) rfl ?_
    refine ex_imul (pc := 84) (by decide +kernel) ?_
    refine ex_iload (pc := 85) (k := 4) (by decide +kernel) rfl ?_
    refine ex_iadd (pc := 87) (by decide +kernel) ?_
    refine ex_iconst (pc := 88) (k := 0) (v := nI 0) (by decide +kernel) (by decide) ?_
    obtain ⟨g1, h⟩ := h
    refine ey_iast (pc := 89) (by decide +kernel) (hF.s (j := 102) rfl) g1 rfl ?_
    refine ex_iinc (pc := 90) (i := 4) (k := 1) (v := l4 + nI 1) (lo2 := [some (.ref 78), some (.int l1), some (.int l2), some (.int l3), some (.int (l4 + nI 1))]) (by decide +kernel) (by decide) rfl rfl rfl ?_
    refine ex_goto (pc := 93) (off := -23) (tgt := 70) (by decide +kernel) (by decide) ?_
    exact h
theorem k_MM_cell_0 {d bc bs : Nat} {l1 : Int32} {l2 : Int32} {l3 : Int32} {M : Mem} {Φ : Option Value → Mem → Prop} (hF : Fm M) (h : Con d m_MM_in 0 0 [.int l1, .int (nI 0), .int (nI 3)] M (PB fun r1 M1 => Fm M1 ∧ (r1 = true → vp_in l1 4 ∧ (¬ (mi M1 100 l1.toNatClampNeg) = (-1) → vp_in l1 4 ∧ Con d m_MM_in 0 0 [.int l2, .int (nI 0), .int ((mi M1 101 l1.toNatClampNeg) - (nI 1))] M1 (PB fun r2 M2 => Fm M2 ∧ (r2 = true → vp_in l1 4 ∧ (¬ (mi M2 100 l1.toNatClampNeg) = 0 → vp_in l1 4 ∧ (¬ (mi M2 100 l1.toNatClampNeg) = (nI 1) → vp_in (((nI 40) * l1) + l2) 160 ∧ Φ (some (.int (nI 1))) (wi M2 102 ((((nI 40) * l1) + l2).toNatClampNeg) l3)) ∧ ((mi M2 100 l1.toNatClampNeg) = (nI 1) → vp_in (((nI 40) * l1) + l2) 160 ∧ Φ (some (.int (nI 1))) (wi M2 102 ((((nI 40) * l1) + l2).toNatClampNeg) ((Int32.toInt16 l3).toInt32)))) ∧ ((mi M2 100 l1.toNatClampNeg) = 0 → vp_in (((nI 40) * l1) + l2) 160 ∧ Φ (some (.int (nI 1))) (wi M2 102 ((((nI 40) * l1) + l2).toNatClampNeg) ((Int32.toInt8 l3).toInt32)))) ∧ (r2 = false → Φ (some (.int (-12))) M2))) ∧ ((mi M1 100 l1.toNatClampNeg) = (-1) → Φ (some (.int (-11))) M1)) ∧ (r1 = false → Φ (some (.int (-2))) M1))) : Ex (d + 1) m_MM_cell bc bs 0 [some (.ref 78), some (.int l1), some (.int l2), some (.int l3)] [] M Φ := by
  refine ex_iload_n (pc := 0) (k := 1) (by decide +kernel) rfl ?_
  refine ex_iconst (pc := 1) (k := 0) (v := nI 0) (by decide +kernel) (by decide) ?_
  refine ex_iconst (pc := 2) (k := 3) (v := nI 3) (by decide +kernel) (by decide) ?_
  refine ex_callS (pc := 3) (as := [.int l1, .int (nI 0), .int (nI 3)]) (by decide +kernel) F_MM_in (in_t6 (i := 11) rfl rfl) rfl rfl (Nat.le_of_ble_eq_true rfl) (Nat.lt_succ_self _) ⟨Nat.zero_le _, Nat.zero_le _⟩ (KC_B (Con.mono h ?_))
  intro o M1 ⟨r1, e9, hF1, h⟩
  refine ⟨r1, e9, ?_⟩
  refine ey_ifneB (pc := 6) (off := 6) (tgt := 12) (by decide +kernel) (by decide) (fun hc => ?_) (fun hc => ?_)
  · replace h := h.1 hc
    refine ex_aload_n (pc := 12) (k := 0) (by decide +kernel) rfl ?_
    refine ex_getR (pc := 13) (a := 100) (by decide +kernel) lf_MM_80 (hF1.s (j := 78) rfl) (hF1.r (j := 78) (k := 36) rfl rfl) ?_
    refine ex_iload_n (pc := 16) (k := 1) (by decide +kernel) rfl ?_
    obtain ⟨g1, h⟩ := h
    refine ey_iald (pc := 17) (v := mi M1 100 l1.toNatClampNeg) (by decide +kernel) (hF1.s (j := 100) rfl) g1 rfl rfl ?_
    refine ex_iconst (pc := 18) (k := -1) (v := -1) (by decide +kernel) (by decide) ?_
    refine ex_icmp_ne (pc := 19) (off := 6) (tgt := 25) (by decide +kernel) (by decide) (fun hc => ?_) (fun hc => ?_)
    · replace h := h.1 hc
      refine ex_iload_n (pc := 25) (k := 2) (by decide +kernel) rfl ?_
      refine ex_iconst (pc := 26) (k := 0) (v := nI 0) (by decide +kernel) (by decide) ?_
      refine ex_aload_n (pc := 27) (k := 0) (by decide +kernel) rfl ?_
      refine ex_getR (pc := 28) (a := 101) (by decide +kernel) lf_MM_83 (hF1.s (j := 78) rfl) (hF1.r (j := 78) (k := 37) rfl rfl) ?_
      refine ex_iload_n (pc := 31) (k := 1) (by decide +kernel) rfl ?_
      obtain ⟨g2, h⟩ := h
      refine ey_iald (pc := 32) (v := mi M1 101 l1.toNatClampNeg) (by decide +kernel) (hF1.s (j := 101) rfl) g2 rfl rfl ?_
      refine ex_iconst (pc := 33) (k := 1) (v := nI 1) (by decide +kernel) (by decide) ?_
      refine ex_isub (pc := 34) (by decide +kernel) ?_
      refine ex_callS (pc := 35) (as := [.int l2, .int (nI 0), .int ((mi M1 101 l1.toNatClampNeg) - (nI 1))]) (by decide +kernel) F_MM_in (in_t6 (i := 11) rfl rfl) rfl rfl (Nat.le_of_ble_eq_true rfl) (Nat.lt_succ_self _) ⟨Nat.zero_le _, Nat.zero_le _⟩ (KC_B (Con.mono h ?_))
      intro o M2 ⟨r2, e9, hF2, h⟩
      refine ⟨r2, e9, ?_⟩
      refine ey_ifneB (pc := 38) (off := 6) (tgt := 44) (by decide +kernel) (by decide) (fun hc => ?_) (fun hc => ?_)
      · replace h := h.1 hc
        refine ex_aload_n (pc := 44) (k := 0) (by decide +kernel) rfl ?_
        refine ex_getR (pc := 45) (a := 102) (by decide +kernel) lf_MM_86 (hF2.s (j := 78) rfl) (hF2.r (j := 78) (k := 38) rfl rfl) ?_
        refine ex_bipush (pc := 48) (k := 40) (v := nI 40) (by decide +kernel) (by decide) ?_
        refine ex_iload_n (pc := 50) (k := 1) (by decide +kernel) rfl ?_
        refine ex_imul (pc := 51) (by decide +kernel) ?_
        refine ex_iload_n (pc := 52) (k := 2) (by decide +kernel) rfl ?_
        refine ex_iadd (pc := 53) (by decide +kernel) ?_
        refine ex_aload_n (pc := 54) (k := 0) (by decide +kernel) rfl ?_
        refine ex_getR (pc := 55) (a := 100) (by decide +kernel) lf_MM_80 (hF2.s (j := 78) rfl) (hF2.r (j := 78) (k := 36) rfl rfl) ?_
        refine ex_iload_n (pc := 58) (k := 1) (by decide +kernel) rfl ?_
        obtain ⟨g3, h⟩ := h
        refine ey_iald (pc := 59) (v := mi M2 100 l1.toNatClampNeg) (by decide +kernel) (hF2.s (j := 100) rfl) g3 rfl rfl ?_
        refine ex_if_ne (pc := 60) (off := 8) (tgt := 68) (by decide +kernel) (by decide) (fun hc => ?_) (fun hc => ?_)
        · replace h := h.1 hc
          refine ex_aload_n (pc := 68) (k := 0) (by decide +kernel) rfl ?_
          refine ex_getR (pc := 69) (a := 100) (by decide +kernel) lf_MM_80 (hF2.s (j := 78) rfl) (hF2.r (j := 78) (k := 36) rfl rfl) ?_
          refine ex_iload_n (pc := 72) (k := 1) (by decide +kernel) rfl ?_
          obtain ⟨g4, h⟩ := h
          refine ey_iald (pc := 73) (v := mi M2 100 l1.toNatClampNeg) (by decide +kernel) (hF2.s (j := 100) rfl) g4 rfl rfl ?_
          refine ex_iconst (pc := 74) (k := 1) (v := nI 1) (by decide +kernel) (by decide) ?_
          refine ex_icmp_ne (pc := 75) (off := 8) (tgt := 83) (by decide +kernel) (by decide) (fun hc => ?_) (fun hc => ?_)
          · replace h := h.1 hc
            refine ex_iload_n (pc := 83) (k := 3) (by decide +kernel) rfl ?_
            obtain ⟨g5, h⟩ := h
            refine ey_iast (pc := 84) (by decide +kernel) (hF2.s (j := 102) rfl) g5 rfl ?_
            refine ex_iconst (pc := 85) (k := 1) (v := nI 1) (by decide +kernel) (by decide) ?_
            exact ex_ireturn (pc := 86) (by decide +kernel) rfl rfl h
          · replace h := h.2 hc
            refine ex_iload_n (pc := 78) (k := 3) (by decide +kernel) rfl ?_
            refine ex_i2s (pc := 79) (by decide +kernel) ?_
            refine ex_goto (pc := 80) (off := 4) (tgt := 84) (by decide +kernel) (by decide) ?_
            obtain ⟨g6, h⟩ := h
            refine ey_iast (pc := 84) (by decide +kernel) (hF2.s (j := 102) rfl) g6 rfl ?_
            refine ex_iconst (pc := 85) (k := 1) (v := nI 1) (by decide +kernel) (by decide) ?_
            exact ex_ireturn (pc := 86) (by decide +kernel) rfl rfl h
        · replace h := h.2 hc
          refine ex_iload_n (pc := 63) (k := 3) (by decide +kernel) rfl ?_
          refine ex_i2b (pc := 64) (by decide +kernel) ?_
          refine ex_goto (pc := 65) (off := 19) (tgt := 84) (by decide +kernel) (by decide) ?_
          obtain ⟨g7, h⟩ := h
          refine ey_iast (pc := 84) (by decide +kernel) (hF2.s (j := 102) rfl) g7 rfl ?_
          refine ex_iconst (pc := 85) (k := 1) (v := nI 1) (by decide +kernel) (by decide) ?_
          exact ex_ireturn (pc := 86) (by decide +kernel) rfl rfl h
      · replace h := h.2 hc
        refine ex_bipush (pc := 41) (k := -12) (v := -12) (by decide +kernel) (by decide) ?_
        exact ex_ireturn (pc := 43) (by decide +kernel) rfl rfl h
    · replace h := h.2 hc
      refine ex_bipush (pc := 22) (k := -11) (v := -11) (by decide +kernel) (by decide) ?_
      exact ex_ireturn (pc := 24) (by decide +kernel) rfl rfl h
  · replace h := h.2 hc
    refine ex_bipush (pc := 9) (k := -2) (v := -2) (by decide +kernel) (by decide) ?_
    exact ex_ireturn (pc := 11) (by decide +kernel) rfl rfl h
theorem k_MM_copy_0 {d bc bs : Nat} {l1 : Int32} {l2 : Int32} {l3 : Int32} {l4 : Int32} {l5 : Int32} {M : Mem} {Φ : Option Value → Mem → Prop} (hF : Fm M) (h : Con d m_MM_in 0 0 [.int l1, .int (nI 0), .int (nI 3)] M (PB fun r1 M1 => Fm M1 ∧ (r1 = false → Φ (some (.int (-2))) M1) ∧ (r1 = true → Con d m_MM_in 0 0 [.int l3, .int (nI 0), .int (nI 3)] M1 (PB fun r2 M2 => Fm M2 ∧ (r2 = true → vp_in l1 4 ∧ ((mi M2 100 l1.toNatClampNeg) = (-1) → Φ (some (.int (-11))) M2) ∧ (¬ (mi M2 100 l1.toNatClampNeg) = (-1) → vp_in l3 4 ∧ (¬ (mi M2 100 l3.toNatClampNeg) = (-1) → vp_in l1 4 ∧ vp_in l3 4 ∧ ((mi M2 100 l1.toNatClampNeg) = (mi M2 100 l3.toNatClampNeg) → (l5 < 0 → Φ (some (.int (-12))) M2) ∧ (¬ l5 < 0 → (l2 < 0 → Φ (some (.int (-12))) M2) ∧ (¬ l2 < 0 → (l4 < 0 → Φ (some (.int (-12))) M2) ∧ (¬ l4 < 0 → vp_in l1 4 ∧ ((mi M2 101 l1.toNatClampNeg) < l2 → Φ (some (.int (-12))) M2) ∧ (¬ (mi M2 101 l1.toNatClampNeg) < l2 → vp_in l3 4 ∧ ((mi M2 101 l3.toNatClampNeg) < l4 → Φ (some (.int (-12))) M2) ∧ (¬ (mi M2 101 l3.toNatClampNeg) < l4 → vp_in l1 4 ∧ (((mi M2 101 l1.toNatClampNeg) - l2) < l5 → Φ (some (.int (-12))) M2) ∧ (¬ ((mi M2 101 l1.toNatClampNeg) - l2) < l5 → vp_in l3 4 ∧ (l5 ≤ ((mi M2 101 l3.toNatClampNeg) - l4) → Ex (d + 1) m_MM_copy bc bs 147 [some (.ref 78), some (.int l1), some (.int l2), some (.int l3), some (.int l4), some (.int l5), some (.int (((nI 40) * l1) + l2)), some (.int (((nI 40) * l3) + l4)), some (.int (nI 0)), none] [] M2 Φ) ∧ (¬ l5 ≤ ((mi M2 101 l3.toNatClampNeg) - l4) → Φ (some (.int (-12))) M2)))))))) ∧ (¬ (mi M2 100 l1.toNatClampNeg) = (mi M2 100 l3.toNatClampNeg) → Φ (some (.int (-13))) M2)) ∧ ((mi M2 100 l3.toNatClampNeg) = (-1) → Φ (some (.int (-11))) M2))) ∧ (r2 = false → Φ (some (.int (-2))) M2))))) : Ex (d + 1) m_MM_copy bc bs 0 [some (.ref 78), some (.int l1), some (.int l2), some (.int l3), some (.int l4), some (.int l5), none, none, none, none] [] M Φ := by
  refine ex_iload_n (pc := 0) (k := 1) (by decide +kernel) rfl ?_
  refine ex_iconst (pc := 1) (k := 0) (v := nI 0) (by decide +kernel) (by decide) ?_
  refine ex_iconst (pc := 2) (k := 3) (v := nI 3) (by decide +kernel) (by decide) ?_
  refine ex_callS (pc := 3) (as := [.int l1, .int (nI 0), .int (nI 3)]) (by decide +kernel) F_MM_in (in_t6 (i := 11) rfl rfl) rfl rfl (Nat.le_of_ble_eq_true rfl) (Nat.lt_succ_self _) ⟨Nat.zero_le _, Nat.zero_le _⟩ (KC_B (Con.mono h ?_))
  intro o M1 ⟨r1, e9, hF1, h⟩
  refine ⟨r1, e9, ?_⟩
  refine ey_ifeqB (pc := 6) (off := 12) (tgt := 18) (by decide +kernel) (by decide) (fun hc => ?_) (fun hc => ?_)
  · replace h := h.1 hc
    refine ex_bipush (pc := 18) (k := -2) (v := -2) (by decide +kernel) (by decide) ?_
    exact ex_ireturn (pc := 20) (by decide +kernel) rfl rfl h
  · replace h := h.2 hc
    refine ex_iload_n (pc := 9) (k := 3) (by decide +kernel) rfl ?_
    refine ex_iconst (pc := 10) (k := 0) (v := nI 0) (by decide +kernel) (by decide) ?_
    refine ex_iconst (pc := 11) (k := 3) (v := nI 3) (by decide +kernel) (by decide) ?_
    refine ex_callS (pc := 12) (as := [.int l3, .int (nI 0), .int (nI 3)]) (by decide +kernel) F_MM_in (in_t6 (i := 11) rfl rfl) rfl rfl (Nat.le_of_ble_eq_true rfl) (Nat.lt_succ_self _) ⟨Nat.zero_le _, Nat.zero_le _⟩ (KC_B (Con.mono h ?_))
    intro o M2 ⟨r2, e9, hF2, h⟩
    refine ⟨r2, e9, ?_⟩
    refine ey_ifneB (pc := 15) (off := 6) (tgt := 21) (by decide +kernel) (by decide) (fun hc => ?_) (fun hc => ?_)
    · replace h := h.1 hc
      refine ex_aload_n (pc := 21) (k := 0) (by decide +kernel) rfl ?_
      refine ex_getR (pc := 22) (a := 100) (by decide +kernel) lf_MM_80 (hF2.s (j := 78) rfl) (hF2.r (j := 78) (k := 36) rfl rfl) ?_
      refine ex_iload_n (pc := 25) (k := 1) (by decide +kernel) rfl ?_
      obtain ⟨g1, h⟩ := h
      refine ey_iald (pc := 26) (v := mi M2 100 l1.toNatClampNeg) (by decide +kernel) (hF2.s (j := 100) rfl) g1 rfl rfl ?_
      refine ex_iconst (pc := 27) (k := -1) (v := -1) (by decide +kernel) (by decide) ?_
      refine ex_icmp_eq (pc := 28) (off := 13) (tgt := 41) (by decide +kernel) (by decide) (fun hc => ?_) (fun hc => ?_)
      · replace h := h.1 hc
        refine ex_bipush (pc := 41) (k := -11) (v := -11) (by decide +kernel) (by decide) ?_
        exact ex_ireturn (pc := 43) (by decide +kernel) rfl rfl h
      · replace h := h.2 hc
        refine ex_aload_n (pc := 31) (k := 0) (by decide +kernel) rfl ?_
        refine ex_getR (pc := 32) (a := 100) (by decide +kernel) lf_MM_80 (hF2.s (j := 78) rfl) (hF2.r (j := 78) (k := 36) rfl rfl) ?_
        refine ex_iload_n (pc := 35) (k := 3) (by decide +kernel) rfl ?_
        obtain ⟨g2, h⟩ := h
        refine ey_iald (pc := 36) (v := mi M2 100 l3.toNatClampNeg) (by decide +kernel) (hF2.s (j := 100) rfl) g2 rfl rfl ?_
        refine ex_iconst (pc := 37) (k := -1) (v := -1) (by decide +kernel) (by decide) ?_
        refine ex_icmp_ne (pc := 38) (off := 6) (tgt := 44) (by decide +kernel) (by decide) (fun hc => ?_) (fun hc => ?_)
        · replace h := h.1 hc
          refine ex_aload_n (pc := 44) (k := 0) (by decide +kernel) rfl ?_
          refine ex_getR (pc := 45) (a := 100) (by decide +kernel) lf_MM_80 (hF2.s (j := 78) rfl) (hF2.r (j := 78) (k := 36) rfl rfl) ?_
          refine ex_iload_n (pc := 48) (k := 1) (by decide +kernel) rfl ?_
          obtain ⟨g3, h⟩ := h
          refine ey_iald (pc := 49) (v := mi M2 100 l1.toNatClampNeg) (by decide +kernel) (hF2.s (j := 100) rfl) g3 rfl rfl ?_
          refine ex_aload_n (pc := 50) (k := 0) (by decide +kernel) rfl ?_
          refine ex_getR (pc := 51) (a := 100) (by decide +kernel) lf_MM_80 (hF2.s (j := 78) rfl) (hF2.r (j := 78) (k := 36) rfl rfl) ?_
          refine ex_iload_n (pc := 54) (k := 3) (by decide +kernel) rfl ?_
          obtain ⟨g4, h⟩ := h
          refine ey_iald (pc := 55) (v := mi M2 100 l3.toNatClampNeg) (by decide +kernel) (hF2.s (j := 100) rfl) g4 rfl rfl ?_
          refine ex_icmp_eq (pc := 56) (off := 6) (tgt := 62) (by decide +kernel) (by decide) (fun hc => ?_) (fun hc => ?_)
          · replace h := h.1 hc
            refine ex_iload (pc := 62) (k := 5) (by decide +kernel) rfl ?_
            refine ex_if_lt (pc := 64) (off := 60) (tgt := 124) (by decide +kernel) (by decide) (fun hc => ?_) (fun hc => ?_)
            · replace h := h.1 hc
              refine ex_bipush (pc := 124) (k := -12) (v := -12) (by decide +kernel) (by decide) ?_
              exact ex_ireturn (pc := 126) (by decide +kernel) rfl rfl h
            · replace h := h.2 hc
              refine ex_iload_n (pc := 67) (k := 2) (by decide +kernel) rfl ?_
              refine ex_if_lt (pc := 68) (off := 56) (tgt := 124) (by decide +kernel) (by decide) (fun hc => ?_) (fun hc => ?_)
              · replace h := h.1 hc
                refine ex_bipush (pc := 124) (k := -12) (v := -12) (by decide +kernel) (by decide) ?_
                exact ex_ireturn (pc := 126) (by decide +kernel) rfl rfl h
              · replace h := h.2 hc
                refine ex_iload (pc := 71) (k := 4) (by decide +kernel) rfl ?_
                refine ex_if_lt (pc := 73) (off := 51) (tgt := 124) (by decide +kernel) (by decide) (fun hc => ?_) (fun hc => ?_)
                · replace h := h.1 hc
                  refine ex_bipush (pc := 124) (k := -12) (v := -12) (by decide +kernel) (by decide) ?_
                  exact ex_ireturn (pc := 126) (by decide +kernel) rfl rfl h
                · replace h := h.2 hc
                  refine ex_iload_n (pc := 76) (k := 2) (by decide +kernel) rfl ?_
                  refine ex_aload_n (pc := 77) (k := 0) (by decide +kernel) rfl ?_
                  refine ex_getR (pc := 78) (a := 101) (by decide +kernel) lf_MM_83 (hF2.s (j := 78) rfl) (hF2.r (j := 78) (k := 37) rfl rfl) ?_
                  refine ex_iload_n (pc := 81) (k := 1) (by decide +kernel) rfl ?_
                  obtain ⟨g5, h⟩ := h
                  refine ey_iald (pc := 82) (v := mi M2 101 l1.toNatClampNeg) (by decide +kernel) (hF2.s (j := 101) rfl) g5 rfl rfl ?_
                  refine ex_icmp_gt (pc := 83) (off := 41) (tgt := 124) (by decide +kernel) (by decide) (fun hc => ?_) (fun hc => ?_)
                  · replace h := h.1 hc
                    refine ex_bipush (pc := 124) (k := -12) (v := -12) (by decide +kernel) (by decide) ?_
                    exact ex_ireturn (pc := 126) (by decide +kernel) rfl rfl h
                  · replace h := h.2 hc
                    refine ex_iload (pc := 86) (k := 4) (by decide +kernel) rfl ?_
                    refine ex_aload_n (pc := 88) (k := 0) (by decide +kernel) rfl ?_
                    refine ex_getR (pc := 89) (a := 101) (by decide +kernel) lf_MM_83 (hF2.s (j := 78) rfl) (hF2.r (j := 78) (k := 37) rfl rfl) ?_
                    refine ex_iload_n (pc := 92) (k := 3) (by decide +kernel) rfl ?_
                    obtain ⟨g6, h⟩ := h
                    refine ey_iald (pc := 93) (v := mi M2 101 l3.toNatClampNeg) (by decide +kernel) (hF2.s (j := 101) rfl) g6 rfl rfl ?_
                    refine ex_icmp_gt (pc := 94) (off := 30) (tgt := 124) (by decide +kernel) (by decide) (fun hc => ?_) (fun hc => ?_)
                    · replace h := h.1 hc
                      refine ex_bipush (pc := 124) (k := -12) (v := -12) (by decide +kernel) (by decide) ?_
                      exact ex_ireturn (pc := 126) (by decide +kernel) rfl rfl h
                    · replace h := h.2 hc
                      refine ex_iload (pc := 97) (k := 5) (by decide +kernel) rfl ?_
                      refine ex_aload_n (pc := 99) (k := 0) (by decide +kernel) rfl ?_
                      refine ex_getR (pc := 100) (a := 101) (by decide +kernel) lf_MM_83 (hF2.s (j := 78) rfl) (hF2.r (j := 78) (k := 37) rfl rfl) ?_
                      refine ex_iload_n (pc := 103) (k := 1) (by decide +kernel) rfl ?_
                      obtain ⟨g7, h⟩ := h
                      refine ey_iald (pc := 104) (v := mi M2 101 l1.toNatClampNeg) (by decide +kernel) (hF2.s (j := 101) rfl) g7 rfl rfl ?_
                      refine ex_iload_n (pc := 105) (k := 2) (by decide +kernel) rfl ?_
                      refine ex_isub (pc := 106) (by decide +kernel) ?_
                      refine ex_icmp_gt (pc := 107) (off := 17) (tgt := 124) (by decide +kernel) (by decide) (fun hc => ?_) (fun hc => ?_)
                      · replace h := h.1 hc
                        refine ex_bipush (pc := 124) (k := -12) (v := -12) (by decide +kernel) (by decide) ?_
                        exact ex_ireturn (pc := 126) (by decide +kernel) rfl rfl h
                      · replace h := h.2 hc
                        refine ex_iload (pc := 110) (k := 5) (by decide +kernel) rfl ?_
                        refine ex_aload_n (pc := 112) (k := 0) (by decide +kernel) rfl ?_
                        refine ex_getR (pc := 113) (a := 101) (by decide +kernel) lf_MM_83 (hF2.s (j := 78) rfl) (hF2.r (j := 78) (k := 37) rfl rfl) ?_
                        refine ex_iload_n (pc := 116) (k := 3) (by decide +kernel) rfl ?_
                        obtain ⟨g8, h⟩ := h
                        refine ey_iald (pc := 117) (v := mi M2 101 l3.toNatClampNeg) (by decide +kernel) (hF2.s (j := 101) rfl) g8 rfl rfl ?_
                        refine ex_iload (pc := 118) (k := 4) (by decide +kernel) rfl ?_
                        refine ex_isub (pc := 120) (by decide +kernel) ?_
                        refine ex_icmp_le (pc := 121) (off := 6) (tgt := 127) (by decide +kernel) (by decide) (fun hc => ?_) (fun hc => ?_)
                        · replace h := h.1 hc
                          refine ex_bipush (pc := 127) (k := 40) (v := nI 40) (by decide +kernel) (by decide) ?_
                          refine ex_iload_n (pc := 129) (k := 1) (by decide +kernel) rfl ?_
                          refine ex_imul (pc := 130) (by decide +kernel) ?_
                          refine ex_iload_n (pc := 131) (k := 2) (by decide +kernel) rfl ?_
                          refine ex_iadd (pc := 132) (by decide +kernel) ?_
                          refine ex_istore (pc := 133) (k := 6) (lo2 := [some (.ref 78), some (.int l1), some (.int l2), some (.int l3), some (.int l4), some (.int l5), some (.int (((nI 40) * l1) + l2)), none, none, none]) (by decide +kernel) (by decide) rfl ?_
                          refine ex_bipush (pc := 135) (k := 40) (v := nI 40) (by decide +kernel) (by decide) ?_
                          refine ex_iload_n (pc := 137) (k := 3) (by decide +kernel) rfl ?_
                          refine ex_imul (pc := 138) (by decide +kernel) ?_
                          refine ex_iload (pc := 139) (k := 4) (by decide +kernel) rfl ?_
                          refine ex_iadd (pc := 141) (by decide +kernel) ?_
                          refine ex_istore (pc := 142) (k := 7) (lo2 := [some (.ref 78), some (.int l1), some (.int l2), some (.int l3), some (.int l4), some (.int l5), some (.int (((nI 40) * l1) + l2)), some (.int (((nI 40) * l3) + l4)), none, none]) (by decide +kernel) (by decide) rfl ?_
                          refine ex_iconst (pc := 144) (k := 0) (v := nI 0) (by decide +kernel) (by decide) ?_
                          refine ex_istore (pc := 145) (k := 8) (lo2 := [some (.ref 78), some (.int l1), some (.int l2), some (.int l3), some (.int l4), some (.int l5), some (.int (((nI 40) * l1) + l2)), some (.int (((nI 40) * l3) + l4)), some (.int (nI 0)), none]) (by decide +kernel) (by decide) rfl ?_
                          exact h
                        · replace h := h.2 hc
                          refine ex_bipush (pc := 124) (k := -12) (v := -12) (by decide +kernel) (by decide) ?_
                          exact ex_ireturn (pc := 126) (by decide +kernel) rfl rfl h
          · replace h := h.2 hc
            refine ex_bipush (pc := 59) (k := -13) (v := -13) (by decide +kernel) (by decide) ?_
            exact ex_ireturn (pc := 61) (by decide +kernel) rfl rfl h
        · replace h := h.2 hc
          refine ex_bipush (pc := 41) (k := -11) (v := -11) (by decide +kernel) (by decide) ?_
          exact ex_ireturn (pc := 43) (by decide +kernel) rfl rfl h
    · replace h := h.2 hc
      refine ex_bipush (pc := 18) (k := -2) (v := -2) (by decide +kernel) (by decide) ?_
      exact ex_ireturn (pc := 20) (by decide +kernel) rfl rfl h
theorem k_MM_copy_147 {d bc bs : Nat} {l1 : Int32} {l2 : Int32} {l3 : Int32} {l4 : Int32} {l5 : Int32} {l6 : Int32} {l7 : Int32} {l8 : Int32} {M : Mem} {Φ : Option Value → Mem → Prop} (hF : Fm M) (h : (l5 ≤ l8 → Φ (some (.int l5)) M) ∧ (¬ l5 ≤ l8 → (l7 ≤ l6 → vp_in (l6 + l8) 160 ∧ vp_in (l7 + l8) 160 ∧ Ex (d + 1) m_MM_copy bc bs 147 [some (.ref 78), some (.int l1), some (.int l2), some (.int l3), some (.int l4), some (.int l5), some (.int l6), some (.int l7), some (.int (l8 + nI 1)), none] [] (wi M 102 ((l7 + l8).toNatClampNeg) (mi M 102 ((l6 + l8).toNatClampNeg))) Φ) ∧ (¬ l7 ≤ l6 → vp_in (l6 + ((l5 - (nI 1)) - l8)) 160 ∧ vp_in (l7 + ((l5 - (nI 1)) - l8)) 160 ∧ Ex (d + 1) m_MM_copy bc bs 147 [some (.ref 78), some (.int l1), some (.int l2), some (.int l3), some (.int l4), some (.int l5), some (.int l6), some (.int l7), some (.int (l8 + nI 1)), none] [] (wi M 102 ((l7 + ((l5 - (nI 1)) - l8)).toNatClampNeg) (mi M 102 ((l6 + ((l5 - (nI 1)) - l8)).toNatClampNeg))) Φ))) : Ex (d + 1) m_MM_copy bc bs 147 [some (.ref 78), some (.int l1), some (.int l2), some (.int l3), some (.int l4), some (.int l5), some (.int l6), some (.int l7), some (.int l8), none] [] M Φ := by
  refine ex_iload (pc := 147) (k := 8) (by decide +kernel) rfl ?_
  refine ex_iload (pc := 149) (k := 5) (by decide +kernel) rfl ?_
  refine ex_icmp_ge (pc := 151) (off := 50) (tgt := 201) (by decide +kernel) (by decide) (fun hc => ?_) (fun hc => ?_)
  · replace h := h.1 hc
    refine ex_iload (pc := 201) (k := 5) (by decide +kernel) rfl ?_
    exact ex_ireturn (pc := 203) (by decide +kernel) rfl rfl h
  · replace h := h.2 hc
    refine ex_iload (pc := 154) (k := 6) (by decide +kernel) rfl ?_
    refine ex_iload (pc := 156) (k := 7) (by decide +kernel) rfl ?_
    refine ex_icmp_ge (pc := 158) (off := 13) (tgt := 171) (by decide +kernel) (by decide) (fun hc => ?_) (fun hc => ?_)
    · replace h := h.1 hc
      refine ex_iload (pc := 171) (k := 8) (by decide +kernel) rfl ?_
      refine ex_istore (pc := 173) (k := 9) (lo2 := [some (.ref 78), some (.int l1), some (.int l2), some (.int l3), some (.int l4), some (.int l5), some (.int l6), some (.int l7), some (.int l8), some (.int l8)]) (by decide +kernel) (by decide) rfl ?_
      refine ex_aload_n (pc := 175) (k := 0) (by decide +kernel) rfl ?_
      refine ex_getR (pc := 176) (a := 102) (by decide +kernel) lf_MM_86 (hF.s (j := 78) rfl) (hF.r (j := 78) (k := 38) rfl rfl) ?_
      refine ex_iload (pc := 179) (k := 7) (by decide +kernel) rfl ?_
      refine ex_iload (pc := 181) (k := 9) (by decide +kernel) rfl ?_
      refine ex_iadd (pc := 183) (by decide +kernel) ?_
      refine ex_aload_n (pc := 184) (k := 0) (by decide +kernel) rfl ?_
      refine ex_getR (pc := 185) (a := 102) (by decide +kernel) lf_MM_86 (hF.s (j := 78) rfl) (hF.r (j := 78) (k := 38) rfl rfl) ?_
      refine ex_iload (pc := 188) (k := 6) (by decide +kernel) rfl ?_
      refine ex_iload (pc := 190) (k := 9) (by decide +kernel) rfl ?_
      refine ex_iadd (pc := 192) (by decide +kernel) ?_
      obtain ⟨g1, h⟩ := h
      refine ey_iald (pc := 193) (v := mi M 102 ((l6 + l8).toNatClampNeg)) (by decide +kernel) (hF.s (j := 102) rfl) g1 rfl rfl ?_
      obtain ⟨g2, h⟩ := h
      refine ey_iast (pc := 194) (by decide +kernel) (hF.s (j := 102) rfl) g2 rfl ?_
      refine ex_iinc (pc := 195) (i := 8) (k := 1) (v := l8 + nI 1) (lo2 := [some (.ref 78), some (.int l1), some (.int l2), some (.int l3), some (.int l4), some (.int l5), some (.int l6), some (.int l7), some (.int (l8 + nI 1)), some (.int l8)]) (by decide +kernel) (by decide) rfl rfl rfl ?_
      refine ex_goto (pc := 198) (off := -51) (tgt := 147) (by decide +kernel) (by decide) ?_
      exact Ex.msk [true, true, true, true, true, true, true, true, true, false] h
    · replace h := h.2 hc
      refine ex_iload (pc := 161) (k := 5) (by decide +kernel) rfl ?_
      refine ex_iconst (pc := 163) (k := 1) (v := nI 1) (by decide +kernel) (by decide) ?_
      refine ex_isub (pc := 164) (by decide +kernel) ?_
      refine ex_iload (pc := 165) (k := 8) (by decide +kernel) rfl ?_
      refine ex_isub (pc := 167) (by decide +kernel) ?_
      refine ex_goto (pc := 168) (off := 5) (tgt := 173) (by decide +kernel) (by decide) ?_
      refine ex_istore (pc := 173) (k := 9) (lo2 := [some (.ref 78), some (.int l1), some (.int l2), some (.int l3), some (.int l4), some (.int l5), some (.int l6), some (.int l7), some (.int l8), some (.int ((l5 - (nI 1)) - l8))]) (by decide +kernel) (by decide) rfl ?_
      refine ex_aload_n (pc := 175) (k := 0) (by decide +kernel) rfl ?_
      refine ex_getR (pc := 176) (a := 102) (by decide +kernel) lf_MM_86 (hF.s (j := 78) rfl) (hF.r (j := 78) (k := 38) rfl rfl) ?_
      refine ex_iload (pc := 179) (k := 7) (by decide +kernel) rfl ?_
      refine ex_iload (pc := 181) (k := 9) (by decide +kernel) rfl ?_
      refine ex_iadd (pc := 183) (by decide +kernel) ?_
      refine ex_aload_n (pc := 184) (k := 0) (by decide +kernel) rfl ?_
      refine ex_getR (pc := 185) (a := 102) (by decide +kernel) lf_MM_86 (hF.s (j := 78) rfl) (hF.r (j := 78) (k := 38) rfl rfl) ?_
      refine ex_iload (pc := 188) (k := 6) (by decide +kernel) rfl ?_
      refine ex_iload (pc := 190) (k := 9) (by decide +kernel) rfl ?_
      refine ex_iadd (pc := 192) (by decide +kernel) ?_
      obtain ⟨g3, h⟩ := h
      refine ey_iald (pc := 193) (v := mi M 102 ((l6 + ((l5 - (nI 1)) - l8)).toNatClampNeg)) (by decide +kernel) (hF.s (j := 102) rfl) g3 rfl rfl ?_
      obtain ⟨g4, h⟩ := h
      refine ey_iast (pc := 194) (by decide +kernel) (hF.s (j := 102) rfl) g4 rfl ?_
      refine ex_iinc (pc := 195) (i := 8) (k := 1) (v := l8 + nI 1) (lo2 := [some (.ref 78), some (.int l1), some (.int l2), some (.int l3), some (.int l4), some (.int l5), some (.int l6), some (.int l7), some (.int (l8 + nI 1)), some (.int ((l5 - (nI 1)) - l8))]) (by decide +kernel) (by decide) rfl rfl rfl ?_
      refine ex_goto (pc := 198) (off := -51) (tgt := 147) (by decide +kernel) (by decide) ?_
      exact Ex.msk [true, true, true, true, true, true, true, true, true, false] h
theorem k_MM_roads_0 {d bc bs : Nat} {l1 : Int32} {l2 : Int32} {l3 : Int32} {l4 : Int32} {M : Mem} {Φ : Option Value → Mem → Prop} (hF : Fm M) (h : Con d m_MM_in 0 0 [.int l1, .int (nI 0), .int (nI 3)] M (PB fun r1 M1 => Fm M1 ∧ (r1 = false → Φ (some (.int (-2))) M1) ∧ (r1 = true → Con d m_MM_in 0 0 [.int l2, .int (nI 0), .int (nI 2)] M1 (PB fun r2 M2 => Fm M2 ∧ (r2 = false → Φ (some (.int (-2))) M2) ∧ (r2 = true → Con d m_MM_in 0 0 [.int l4, .int (nI 0), .int (nI 13)] M2 (PB fun r3 M3 => Fm M3 ∧ (r3 = true → vp_in l1 4 ∧ (¬ (mi M3 100 l1.toNatClampNeg) = (-1) → vp_in l1 4 ∧ ((mi M3 100 l1.toNatClampNeg) = l2 → Ex (d + 1) m_MM_roads bc bs 64 [some (.ref 78), some (.int l1), some (.int l2), some (.int l3), some (.int l4), some (.int (nI 0)), some (.int (nI 0)), none, none] [] M3 Φ) ∧ (¬ (mi M3 100 l1.toNatClampNeg) = l2 → Φ (some (.int (-13))) M3)) ∧ ((mi M3 100 l1.toNatClampNeg) = (-1) → Φ (some (.int (-11))) M3)) ∧ (r3 = false → Φ (some (.int (-2))) M3))))))) : Ex (d + 1) m_MM_roads bc bs 0 [some (.ref 78), some (.int l1), some (.int l2), some (.int l3), some (.int l4), none, none, none, none] [] M Φ := by
  refine ex_iload_n (pc := 0) (k := 1) (by decide +kernel) rfl ?_
  refine ex_iconst (pc := 1) (k := 0) (v := nI 0) (by decide +kernel) (by decide) ?_
  refine ex_iconst (pc := 2) (k := 3) (v := nI 3) (by decide +kernel) (by decide) ?_
  refine ex_callS (pc := 3) (as := [.int l1, .int (nI 0), .int (nI 3)]) (by decide +kernel) F_MM_in (in_t6 (i := 11) rfl rfl) rfl rfl (Nat.le_of_ble_eq_true rfl) (Nat.lt_succ_self _) ⟨Nat.zero_le _, Nat.zero_le _⟩ (KC_B (Con.mono h ?_))
  intro o M1 ⟨r1, e9, hF1, h⟩
  refine ⟨r1, e9, ?_⟩
  refine ey_ifeqB (pc := 6) (off := 23) (tgt := 29) (by decide +kernel) (by decide) (fun hc => ?_) (fun hc => ?_)
  · replace h := h.1 hc
    refine ex_bipush (pc := 29) (k := -2) (v := -2) (by decide +kernel) (by decide) ?_
    exact ex_ireturn (pc := 31) (by decide +kernel) rfl rfl h
  · replace h := h.2 hc
    refine ex_iload_n (pc := 9) (k := 2) (by decide +kernel) rfl ?_
    refine ex_iconst (pc := 10) (k := 0) (v := nI 0) (by decide +kernel) (by decide) ?_
    refine ex_iconst (pc := 11) (k := 2) (v := nI 2) (by decide +kernel) (by decide) ?_
    refine ex_callS (pc := 12) (as := [.int l2, .int (nI 0), .int (nI 2)]) (by decide +kernel) F_MM_in (in_t6 (i := 11) rfl rfl) rfl rfl (Nat.le_of_ble_eq_true rfl) (Nat.lt_succ_self _) ⟨Nat.zero_le _, Nat.zero_le _⟩ (KC_B (Con.mono h ?_))
    intro o M2 ⟨r2, e9, hF2, h⟩
    refine ⟨r2, e9, ?_⟩
    refine ey_ifeqB (pc := 15) (off := 14) (tgt := 29) (by decide +kernel) (by decide) (fun hc => ?_) (fun hc => ?_)
    · replace h := h.1 hc
      refine ex_bipush (pc := 29) (k := -2) (v := -2) (by decide +kernel) (by decide) ?_
      exact ex_ireturn (pc := 31) (by decide +kernel) rfl rfl h
    · replace h := h.2 hc
      refine ex_iload (pc := 18) (k := 4) (by decide +kernel) rfl ?_
      refine ex_iconst (pc := 20) (k := 0) (v := nI 0) (by decide +kernel) (by decide) ?_
      refine ex_bipush (pc := 21) (k := 13) (v := nI 13) (by decide +kernel) (by decide) ?_
      refine ex_callS (pc := 23) (as := [.int l4, .int (nI 0), .int (nI 13)]) (by decide +kernel) F_MM_in (in_t6 (i := 11) rfl rfl) rfl rfl (Nat.le_of_ble_eq_true rfl) (Nat.lt_succ_self _) ⟨Nat.zero_le _, Nat.zero_le _⟩ (KC_B (Con.mono h ?_))
      intro o M3 ⟨r3, e9, hF3, h⟩
      refine ⟨r3, e9, ?_⟩
      refine ey_ifneB (pc := 26) (off := 6) (tgt := 32) (by decide +kernel) (by decide) (fun hc => ?_) (fun hc => ?_)
      · replace h := h.1 hc
        refine ex_aload_n (pc := 32) (k := 0) (by decide +kernel) rfl ?_
        refine ex_getR (pc := 33) (a := 100) (by decide +kernel) lf_MM_80 (hF3.s (j := 78) rfl) (hF3.r (j := 78) (k := 36) rfl rfl) ?_
        refine ex_iload_n (pc := 36) (k := 1) (by decide +kernel) rfl ?_
        obtain ⟨g1, h⟩ := h
        refine ey_iald (pc := 37) (v := mi M3 100 l1.toNatClampNeg) (by decide +kernel) (hF3.s (j := 100) rfl) g1 rfl rfl ?_
        refine ex_iconst (pc := 38) (k := -1) (v := -1) (by decide +kernel) (by decide) ?_
        refine ex_icmp_ne (pc := 39) (off := 6) (tgt := 45) (by decide +kernel) (by decide) (fun hc => ?_) (fun hc => ?_)
        · replace h := h.1 hc
          refine ex_aload_n (pc := 45) (k := 0) (by decide +kernel) rfl ?_
          refine ex_getR (pc := 46) (a := 100) (by decide +kernel) lf_MM_80 (hF3.s (j := 78) rfl) (hF3.r (j := 78) (k := 36) rfl rfl) ?_
          refine ex_iload_n (pc := 49) (k := 1) (by decide +kernel) rfl ?_
          obtain ⟨g2, h⟩ := h
          refine ey_iald (pc := 50) (v := mi M3 100 l1.toNatClampNeg) (by decide +kernel) (hF3.s (j := 100) rfl) g2 rfl rfl ?_
          refine ex_iload_n (pc := 51) (k := 2) (by decide +kernel) rfl ?_
          refine ex_icmp_eq (pc := 52) (off := 6) (tgt := 58) (by decide +kernel) (by decide) (fun hc => ?_) (fun hc => ?_)
          · replace h := h.1 hc
            refine ex_iconst (pc := 58) (k := 0) (v := nI 0) (by decide +kernel) (by decide) ?_
            refine ex_istore (pc := 59) (k := 5) (lo2 := [some (.ref 78), some (.int l1), some (.int l2), some (.int l3), some (.int l4), some (.int (nI 0)), none, none, none]) (by decide +kernel) (by decide) rfl ?_
            refine ex_iconst (pc := 61) (k := 0) (v := nI 0) (by decide +kernel) (by decide) ?_
            refine ex_istore (pc := 62) (k := 6) (lo2 := [some (.ref 78), some (.int l1), some (.int l2), some (.int l3), some (.int l4), some (.int (nI 0)), some (.int (nI 0)), none, none]) (by decide +kernel) (by decide) rfl ?_
            exact h
          · replace h := h.2 hc
            refine ex_bipush (pc := 55) (k := -13) (v := -13) (by decide +kernel) (by decide) ?_
            exact ex_ireturn (pc := 57) (by decide +kernel) rfl rfl h
        · replace h := h.2 hc
          refine ex_bipush (pc := 42) (k := -11) (v := -11) (by decide +kernel) (by decide) ?_
          exact ex_ireturn (pc := 44) (by decide +kernel) rfl rfl h
      · replace h := h.2 hc
        refine ex_bipush (pc := 29) (k := -2) (v := -2) (by decide +kernel) (by decide) ?_
        exact ex_ireturn (pc := 31) (by decide +kernel) rfl rfl h
