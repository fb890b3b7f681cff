/-! printed blocks: MarketDays$Fair, MarketDays$Ways -/
theorem k_Fair_open_0 {d bc bs : Nat} {l1 : Nat} {l2 : Int32} {M : Mem} {Φ : Option Value → Mem → Prop} (hF : Fx M) (h : Ex (d + 1) m_Fair_open bc bs 7 [some (.ref 51), some (.ref l1), some (.int l2), some (.int (nI 0))] [] (wr M 51 3 (some l1)) Φ) : Ex (d + 1) m_Fair_open bc bs 0 [some (.ref 51), some (.ref l1), some (.int l2), none] [] M Φ := by
  refine ex_aload_n (pc := 0) (k := 0) (by decide +kernel) rfl ?_
  refine ex_aload_n (pc := 1) (k := 1) (by decide +kernel) rfl ?_
  refine ex_putR (pc := 2) (index := 15) (ci := 1) (k := 3) (fin := false) (v := some l1) (by decide +kernel) ⟨_, _, _, _, cf_Fair, by decide, in_t1 (i := 175) rfl rfl, rfl, (fun h => by cases h), rfl, rfl⟩ rfl (fun h => by cases h) (hF.s (j := 51) rfl) ?_
  refine ex_iconst (pc := 5) (k := 0) (v := nI 0) (by decide +kernel) (by decide) ?_
  refine ex_istore_n (pc := 6) (k := 3) (lo2 := [some (.ref 51), some (.ref l1), some (.int l2), some (.int (nI 0))]) (by decide +kernel) (by decide) rfl ?_
  exact h
theorem k_Fair_open_7 {d bc bs : Nat} {l1 : Nat} {l2 : Int32} {l3 : Int32} {M : Mem} {Φ : Option Value → Mem → Prop} (hF : Fx M) (h : ((mi M 1 8) ≤ l3 → Φ none M) ∧ (¬ (mi M 1 8) ≤ l3 → (sh M)[l1]? = some (3, 2) ∧ Con d m_Giving_marketIn 0 0 [.ref l1, .ref 1, .int l3, .int l2] M (PI fun r1 M1 => Fx M1 ∧ vp_in l3 6 ∧ Ex (d + 1) m_Fair_open bc bs 7 [some (.ref 51), some (.ref l1), some (.int l2), some (.int (l3 + nI 1))] [] (wi M1 52 l3.toNatClampNeg r1) Φ))) : Ex (d + 1) m_Fair_open bc bs 7 [some (.ref 51), some (.ref l1), some (.int l2), some (.int l3)] [] M Φ := by
  refine ex_iload_n (pc := 7) (k := 3) (by decide +kernel) rfl ?_
  refine ex_aload_n (pc := 8) (k := 0) (by decide +kernel) rfl ?_
  refine ex_getR (pc := 9) (a := 1) (by decide +kernel) lf_Fair_19 (hF.s (j := 51) rfl) (hF.r (j := 51) (k := 0) rfl rfl) ?_
  refine ey_getI (pc := 12) (v := mi M 1 8) (by decide +kernel) lf_Fair_27 (hF.s (j := 1) rfl) rfl ?_
  refine ex_icmp_ge (pc := 15) (off := 25) (tgt := 40) (by decide +kernel) (by decide) (fun hc => ?_) (fun hc => ?_)
  · replace h := h.1 hc
    exact ex_return (pc := 40) (by decide +kernel) rfl h
  · replace h := h.2 hc
    refine ex_aload_n (pc := 18) (k := 0) (by decide +kernel) rfl ?_
    refine ex_getR (pc := 19) (a := 52) (by decide +kernel) lf_Fair_9 (hF.s (j := 51) rfl) (hF.r (j := 51) (k := 2) rfl rfl) ?_
    refine ex_iload_n (pc := 22) (k := 3) (by decide +kernel) rfl ?_
    refine ex_aload_n (pc := 23) (k := 1) (by decide +kernel) rfl ?_
    refine ex_aload_n (pc := 24) (k := 0) (by decide +kernel) rfl ?_
    refine ex_getR (pc := 25) (a := 1) (by decide +kernel) lf_Fair_19 (hF.s (j := 51) rfl) (hF.r (j := 51) (k := 0) rfl rfl) ?_
    refine ex_iload_n (pc := 28) (k := 3) (by decide +kernel) rfl ?_
    refine ex_iload_n (pc := 29) (k := 2) (by decide +kernel) rfl ?_
    obtain ⟨g1, h⟩ := h
    refine ex_callV (pc := 30) (as := [.ref 1, .int l3, .int l2]) (by decide +kernel) F_Giving_marketIn (in_t3 (i := 223) rfl rfl) g1 rfl (by decide) rfl rfl (Nat.le_of_ble_eq_true rfl) (Nat.lt_succ_self _) ⟨Nat.zero_le _, Nat.zero_le _⟩ (KC_I (Con.mono h ?_))
    intro o M1 ⟨r1, e9, hF1, h⟩
    refine ⟨r1, e9, ?_⟩
    obtain ⟨g2, h⟩ := h
    refine ey_iast (pc := 33) (by decide +kernel) (hF1.s (j := 52) rfl) g2 rfl ?_
    refine ex_iinc (pc := 34) (i := 3) (k := 1) (v := l3 + nI 1) (lo2 := [some (.ref 51), some (.ref l1), some (.int l2), some (.int (l3 + nI 1))]) (by decide +kernel) (by decide) rfl rfl rfl ?_
    refine ex_goto (pc := 37) (off := -30) (tgt := 7) (by decide +kernel) (by decide) ?_
    exact h
theorem k_Fair_close_0 {d bc bs : Nat} {l1 : Int32} {M : Mem} {Φ : Option Value → Mem → Prop} (hF : Fx M) (h : vp_in l1 6 ∧ Φ none (wi M 52 l1.toNatClampNeg (nI 0))) : Ex (d + 1) m_Fair_close bc bs 0 [some (.ref 51), some (.int l1)] [] M Φ := by
  refine ex_aload_n (pc := 0) (k := 0) (by decide +kernel) rfl ?_
  refine ex_getR (pc := 1) (a := 52) (by decide +kernel) lf_Fair_9 (hF.s (j := 51) rfl) (hF.r (j := 51) (k := 2) rfl rfl) ?_
  refine ex_iload_n (pc := 4) (k := 1) (by decide +kernel) rfl ?_
  refine ex_iconst (pc := 5) (k := 0) (v := nI 0) (by decide +kernel) (by decide) ?_
  obtain ⟨g1, h⟩ := h
  refine ey_iast (pc := 6) (by decide +kernel) (hF.s (j := 52) rfl) g1 rfl ?_
  exact ex_return (pc := 7) (by decide +kernel) rfl h
theorem k_Fair_isAt_0 {d bc bs : Nat} {l1 : Int32} {l2 : Int32} {M : Mem} {Φ : Option Value → Mem → Prop} (hF : Fx M) (h : vp_in l1 6 ∧ Con d m_MD_hasBit 0 0 [.int (mi M 52 l1.toNatClampNeg), .int l2] M (PB fun r1 M1 => Fx M1 ∧ Φ (some (.int (b2i r1))) M1)) : Ex (d + 1) m_Fair_isAt bc bs 0 [some (.ref 51), some (.int l1), some (.int l2)] [] M Φ := by
  refine ex_aload_n (pc := 0) (k := 0) (by decide +kernel) rfl ?_
  refine ex_getR (pc := 1) (a := 52) (by decide +kernel) lf_Fair_9 (hF.s (j := 51) rfl) (hF.r (j := 51) (k := 2) rfl rfl) ?_
  refine ex_iload_n (pc := 4) (k := 1) (by decide +kernel) rfl ?_
  obtain ⟨g1, h⟩ := h
  refine ey_iald (pc := 5) (v := mi M 52 l1.toNatClampNeg) (by decide +kernel) (hF.s (j := 52) rfl) g1 rfl rfl ?_
  refine ex_iload_n (pc := 6) (k := 2) (by decide +kernel) rfl ?_
  refine ex_callSN (pc := 7) (host := "MarketDays") (as := [.int (mi M 52 l1.toNatClampNeg), .int l2]) (by decide +kernel) F_MD_hasBit (List.mem_filter.mpr ⟨in_u4 (i := 5) rfl, rfl⟩) rfl rfl (Nat.le_of_ble_eq_true rfl) (Nat.lt_succ_self _) ⟨Nat.zero_le _, Nat.zero_le _⟩ (KC_B (Con.mono h ?_))
  intro o M1 ⟨r1, e9, hF1, h⟩
  refine ⟨r1, e9, ?_⟩
  exact ex_ireturn (pc := 10) (v := b2i r1) (by decide +kernel) rfl (b2i_n _) h
theorem k_Fair_firstBar_0 {d bc bs : Nat}  {M : Mem} {Φ : Option Value → Mem → Prop} (hF : Fx M) (h : Ex (d + 1) m_Fair_firstBar bc bs 2 [some (.ref 51), some (.int (nI 0)), none] [] M Φ) : Ex (d + 1) m_Fair_firstBar bc bs 0 [some (.ref 51), none, none] [] M Φ := by
  refine ex_iconst (pc := 0) (k := 0) (v := nI 0) (by decide +kernel) (by decide) ?_
  refine ex_istore_n (pc := 1) (k := 1) (lo2 := [some (.ref 51), some (.int (nI 0)), none]) (by decide +kernel) (by decide) rfl ?_
  exact h
theorem k_Fair_firstBar_2 {d bc bs : Nat} {l1 : Int32} {M : Mem} {Φ : Option Value → Mem → Prop} (hF : Fx M) (h : ((mi M 1 8) ≤ l1 → Φ (some (.int (-1))) M) ∧ (¬ (mi M 1 8) ≤ l1 → Con d m_Fair_barsItself 0 0 [.ref 51, .int l1] M (PB fun r1 M1 => Fx M1 ∧ (r1 = false → Ex (d + 1) m_Fair_firstBar bc bs 30 [some (.ref 51), some (.int l1), some (.int (l1 + (nI 1)))] [] M1 Φ) ∧ (r1 = true → Φ (some (.int ((nI 11) * l1))) M1)))) : Ex (d + 1) m_Fair_firstBar bc bs 2 [some (.ref 51), some (.int l1), none] [] M Φ := by
  refine ex_iload_n (pc := 2) (k := 1) (by decide +kernel) rfl ?_
  refine ex_aload_n (pc := 3) (k := 0) (by decide +kernel) rfl ?_
  refine ex_getR (pc := 4) (a := 1) (by decide +kernel) lf_Fair_19 (hF.s (j := 51) rfl) (hF.r (j := 51) (k := 0) rfl rfl) ?_
  refine ey_getI (pc := 7) (v := mi M 1 8) (by decide +kernel) lf_Fair_27 (hF.s (j := 1) rfl) rfl ?_
  refine ex_icmp_ge (pc := 10) (off := 59) (tgt := 69) (by decide +kernel) (by decide) (fun hc => ?_) (fun hc => ?_)
  · replace h := h.1 hc
    refine ex_iconst (pc := 69) (k := -1) (v := -1) (by decide +kernel) (by decide) ?_
    exact ex_ireturn (pc := 70) (by decide +kernel) rfl rfl h
  · replace h := h.2 hc
    refine ex_aload_n (pc := 13) (k := 0) (by decide +kernel) rfl ?_
    refine ex_iload_n (pc := 14) (k := 1) (by decide +kernel) rfl ?_
    refine ex_callV (pc := 15) (as := [.int l1]) (by decide +kernel) F_Fair_barsItself (in_t3 (i := 228) rfl rfl) (hF.s (j := 51) rfl) rfl (by decide) rfl rfl (Nat.le_of_ble_eq_true rfl) (Nat.lt_succ_self _) ⟨Nat.zero_le _, Nat.zero_le _⟩ (KC_B (Con.mono h ?_))
    intro o M1 ⟨r1, e9, hF1, h⟩
    refine ⟨r1, e9, ?_⟩
    refine ey_ifeqB (pc := 18) (off := 8) (tgt := 26) (by decide +kernel) (by decide) (fun hc => ?_) (fun hc => ?_)
    · replace h := h.1 hc
      refine ex_iload_n (pc := 26) (k := 1) (by decide +kernel) rfl ?_
      refine ex_iconst (pc := 27) (k := 1) (v := nI 1) (by decide +kernel) (by decide) ?_
      refine ex_iadd (pc := 28) (by decide +kernel) ?_
      refine ex_istore_n (pc := 29) (k := 2) (lo2 := [some (.ref 51), some (.int l1), some (.int (l1 + (nI 1)))]) (by decide +kernel) (by decide) rfl ?_
      exact h
    · replace h := h.2 hc
      refine ex_bipush (pc := 21) (k := 11) (v := nI 11) (by decide +kernel) (by decide) ?_
      refine ex_iload_n (pc := 23) (k := 1) (by decide +kernel) rfl ?_
      refine ex_imul (pc := 24) (by decide +kernel) ?_
      exact ex_ireturn (pc := 25) (by decide +kernel) rfl rfl h
theorem k_Fair_firstBar_30 {d bc bs : Nat} {l1 : Int32} {l2 : Int32} {M : Mem} {Φ : Option Value → Mem → Prop} (hF : Fx M) (h : ((mi M 1 8) ≤ l2 → Ex (d + 1) m_Fair_firstBar bc bs 2 [some (.ref 51), some (.int (l1 + nI 1)), none] [] M Φ) ∧ (¬ (mi M 1 8) ≤ l2 → Con d m_Fair_bars 0 0 [.ref 51, .int l1, .int l2] M (PB fun r1 M1 => Fx M1 ∧ (r1 = false → Ex (d + 1) m_Fair_firstBar bc bs 30 [some (.ref 51), some (.int l1), some (.int (l2 + nI 1))] [] M1 Φ) ∧ (r1 = true → Φ (some (.int (((nI 10) * l1) + l2))) M1)))) : Ex (d + 1) m_Fair_firstBar bc bs 30 [some (.ref 51), some (.int l1), some (.int l2)] [] M Φ := by
  refine ex_iload_n (pc := 30) (k := 2) (by decide +kernel) rfl ?_
  refine ex_aload_n (pc := 31) (k := 0) (by decide +kernel) rfl ?_
  refine ex_getR (pc := 32) (a := 1) (by decide +kernel) lf_Fair_19 (hF.s (j := 51) rfl) (hF.r (j := 51) (k := 0) rfl rfl) ?_
  refine ey_getI (pc := 35) (v := mi M 1 8) (by decide +kernel) lf_Fair_27 (hF.s (j := 1) rfl) rfl ?_
  refine ex_icmp_ge (pc := 38) (off := 25) (tgt := 63) (by decide +kernel) (by decide) (fun hc => ?_) (fun hc => ?_)
  · replace h := h.1 hc
    refine ex_iinc (pc := 63) (i := 1) (k := 1) (v := l1 + nI 1) (lo2 := [some (.ref 51), some (.int (l1 + nI 1)), some (.int l2)]) (by decide +kernel) (by decide) rfl rfl rfl ?_
    refine ex_goto (pc := 66) (off := -64) (tgt := 2) (by decide +kernel) (by decide) ?_
    exact Ex.msk [true, true, false] h
  · replace h := h.2 hc
    refine ex_aload_n (pc := 41) (k := 0) (by decide +kernel) rfl ?_
    refine ex_iload_n (pc := 42) (k := 1) (by decide +kernel) rfl ?_
    refine ex_iload_n (pc := 43) (k := 2) (by decide +kernel) rfl ?_
    refine ex_callV (pc := 44) (as := [.int l1, .int l2]) (by decide +kernel) F_Fair_bars (in_t3 (i := 232) rfl rfl) (hF.s (j := 51) rfl) rfl (by decide) rfl rfl (Nat.le_of_ble_eq_true rfl) (Nat.lt_succ_self _) ⟨Nat.zero_le _, Nat.zero_le _⟩ (KC_B (Con.mono h ?_))
    intro o M1 ⟨r1, e9, hF1, h⟩
    refine ⟨r1, e9, ?_⟩
    refine ey_ifeqB (pc := 47) (off := 10) (tgt := 57) (by decide +kernel) (by decide) (fun hc => ?_) (fun hc => ?_)
    · replace h := h.1 hc
      refine ex_iinc (pc := 57) (i := 2) (k := 1) (v := l2 + nI 1) (lo2 := [some (.ref 51), some (.int l1), some (.int (l2 + nI 1))]) (by decide +kernel) (by decide) rfl rfl rfl ?_
      refine ex_goto (pc := 60) (off := -30) (tgt := 30) (by decide +kernel) (by decide) ?_
      exact h
    · replace h := h.2 hc
      refine ex_bipush (pc := 50) (k := 10) (v := nI 10) (by decide +kernel) (by decide) ?_
      refine ex_iload_n (pc := 52) (k := 1) (by decide +kernel) rfl ?_
      refine ex_imul (pc := 53) (by decide +kernel) ?_
      refine ex_iload_n (pc := 54) (k := 2) (by decide +kernel) rfl ?_
      refine ex_iadd (pc := 55) (by decide +kernel) ?_
      exact ex_ireturn (pc := 56) (by decide +kernel) rfl rfl h
theorem k_Fair_barsItself_0 {d bc bs : Nat} {l1 : Int32} {M : Mem} {Φ : Option Value → Mem → Prop} (hF : Fx M) (h : vp_in l1 6 ∧ vp_in l1 6 ∧ (((mi M 52 l1.toNatClampNeg) &&& ((mi M 3 l1.toNatClampNeg) ^^^ (-1))) = 0 → Φ (some (.int (b2i false))) M) ∧ (¬ ((mi M 52 l1.toNatClampNeg) &&& ((mi M 3 l1.toNatClampNeg) ^^^ (-1))) = 0 → Φ (some (.int (b2i true))) M)) : Ex (d + 1) m_Fair_barsItself bc bs 0 [some (.ref 51), some (.int l1)] [] M Φ := by
  refine ex_aload_n (pc := 0) (k := 0) (by decide +kernel) rfl ?_
  refine ex_getR (pc := 1) (a := 52) (by decide +kernel) lf_Fair_9 (hF.s (j := 51) rfl) (hF.r (j := 51) (k := 2) rfl rfl) ?_
  refine ex_iload_n (pc := 4) (k := 1) (by decide +kernel) rfl ?_
  obtain ⟨g1, h⟩ := h
  refine ey_iald (pc := 5) (v := mi M 52 l1.toNatClampNeg) (by decide +kernel) (hF.s (j := 52) rfl) g1 rfl rfl ?_
  refine ex_aload_n (pc := 6) (k := 0) (by decide +kernel) rfl ?_
  refine ex_getR (pc := 7) (a := 1) (by decide +kernel) lf_Fair_19 (hF.s (j := 51) rfl) (hF.r (j := 51) (k := 0) rfl rfl) ?_
  refine ex_getR (pc := 10) (a := 3) (by decide +kernel) lf_Fair_50 (hF.s (j := 1) rfl) (hF.r (j := 1) (k := 1) rfl rfl) ?_
  refine ex_iload_n (pc := 13) (k := 1) (by decide +kernel) rfl ?_
  obtain ⟨g2, h⟩ := h
  refine ey_iald (pc := 14) (v := mi M 3 l1.toNatClampNeg) (by decide +kernel) (hF.s (j := 3) rfl) g2 rfl rfl ?_
  refine ex_iconst (pc := 15) (k := -1) (v := -1) (by decide +kernel) (by decide) ?_
  refine ex_ixor (pc := 16) (by decide +kernel) ?_
  refine ex_iand (pc := 17) (by decide +kernel) ?_
  refine ex_if_eq (pc := 18) (off := 7) (tgt := 25) (by decide +kernel) (by decide) (fun hc => ?_) (fun hc => ?_)
  · replace h := h.1 hc
    refine ex_iconst (pc := 25) (k := 0) (v := nI 0) (by decide +kernel) (by decide) ?_
    exact ex_ireturn (pc := 26) (v := b2i false) (by decide +kernel) rfl (b2i_n _) h
  · replace h := h.2 hc
    refine ex_iconst (pc := 21) (k := 1) (v := nI 1) (by decide +kernel) (by decide) ?_
    refine ex_goto (pc := 22) (off := 4) (tgt := 26) (by decide +kernel) (by decide) ?_
    exact ex_ireturn (pc := 26) (v := b2i true) (by decide +kernel) rfl (b2i_n _) h
theorem k_Fair_bars_0 {d bc bs : Nat} {l1 : Int32} {l2 : Int32} {M : Mem} {Φ : Option Value → Mem → Prop} (hF : Fx M) (h : vp_in l1 6 ∧ vp_in l2 6 ∧ (((mi M 52 l1.toNatClampNeg) &&& (mi M 52 l2.toNatClampNeg)) = 0 → Ex (d + 1) m_Fair_bars bc bs 35 [some (.ref 51), some (.int l1), some (.int l2)] [] M Φ) ∧ (¬ ((mi M 52 l1.toNatClampNeg) &&& (mi M 52 l2.toNatClampNeg)) = 0 → Con d m_Law_nearSays 0 0 [.ref 46, .int l1, .int l2, .int (mi M 1 9)] M (PI fun r1 M1 => Fx M1 ∧ (¬ r1 = 0 → Φ (some (.int (b2i true))) M1) ∧ (r1 = 0 → Ex (d + 1) m_Fair_bars bc bs 35 [some (.ref 51), some (.int l1), some (.int l2)] [] M1 Φ)))) : Ex (d + 1) m_Fair_bars bc bs 0 [some (.ref 51), some (.int l1), some (.int l2)] [] M Φ := by
  refine ex_aload_n (pc := 0) (k := 0) (by decide +kernel) rfl ?_
  refine ex_getR (pc := 1) (a := 52) (by decide +kernel) lf_Fair_9 (hF.s (j := 51) rfl) (hF.r (j := 51) (k := 2) rfl rfl) ?_
  refine ex_iload_n (pc := 4) (k := 1) (by decide +kernel) rfl ?_
  obtain ⟨g1, h⟩ := h
  refine ey_iald (pc := 5) (v := mi M 52 l1.toNatClampNeg) (by decide +kernel) (hF.s (j := 52) rfl) g1 rfl rfl ?_
  refine ex_aload_n (pc := 6) (k := 0) (by decide +kernel) rfl ?_
  refine ex_getR (pc := 7) (a := 52) (by decide +kernel) lf_Fair_9 (hF.s (j := 51) rfl) (hF.r (j := 51) (k := 2) rfl rfl) ?_
  refine ex_iload_n (pc := 10) (k := 2) (by decide +kernel) rfl ?_
  obtain ⟨g2, h⟩ := h
  refine ey_iald (pc := 11) (v := mi M 52 l2.toNatClampNeg) (by decide +kernel) (hF.s (j := 52) rfl) g2 rfl rfl ?_
  refine ex_iand (pc := 12) (by decide +kernel) ?_
  refine ex_if_eq (pc := 13) (off := 22) (tgt := 35) (by decide +kernel) (by decide) (fun hc => ?_) (fun hc => ?_)
  · replace h := h.1 hc
    exact h
  · replace h := h.2 hc
    refine ex_aload_n (pc := 16) (k := 0) (by decide +kernel) rfl ?_
    refine ex_getR (pc := 17) (a := 46) (by decide +kernel) lf_Fair_23 (hF.s (j := 51) rfl) (hF.r (j := 51) (k := 1) rfl rfl) ?_
    refine ex_iload_n (pc := 20) (k := 1) (by decide +kernel) rfl ?_
    refine ex_iload_n (pc := 21) (k := 2) (by decide +kernel) rfl ?_
    refine ex_aload_n (pc := 22) (k := 0) (by decide +kernel) rfl ?_
    refine ex_getR (pc := 23) (a := 1) (by decide +kernel) lf_Fair_19 (hF.s (j := 51) rfl) (hF.r (j := 51) (k := 0) rfl rfl) ?_
    refine ey_getI (pc := 26) (v := mi M 1 9) (by decide +kernel) lf_Fair_53 (hF.s (j := 1) rfl) rfl ?_
    refine ex_callV (pc := 29) (as := [.int l1, .int l2, .int (mi M 1 9)]) (by decide +kernel) F_Law_nearSays (in_t3 (i := 236) rfl rfl) (hF.s (j := 46) rfl) rfl (by decide) rfl rfl (Nat.le_of_ble_eq_true rfl) (Nat.lt_succ_self _) ⟨Nat.zero_le _, Nat.zero_le _⟩ (KC_I (Con.mono h ?_))
    intro o M1 ⟨r1, e9, hF1, h⟩
    refine ⟨r1, e9, ?_⟩
    refine ex_if_ne (pc := 32) (off := 47) (tgt := 79) (by decide +kernel) (by decide) (fun hc => ?_) (fun hc => ?_)
    · replace h := h.1 hc
      refine ex_iconst (pc := 79) (k := 1) (v := nI 1) (by decide +kernel) (by decide) ?_
      refine ex_goto (pc := 80) (off := 4) (tgt := 84) (by decide +kernel) (by decide) ?_
      exact ex_ireturn (pc := 84) (v := b2i true) (by decide +kernel) rfl (b2i_n _) h
    · replace h := h.2 hc
      exact h
theorem k_Fair_bars_35 {d bc bs : Nat} {l1 : Int32} {l2 : Int32} {M : Mem} {Φ : Option Value → Mem → Prop} (hF : Fx M) (h : vp_in l1 6 ∧ (¬ (mi M 5 l1.toNatClampNeg) = l2 → Ex (d + 1) m_Fair_bars bc bs 57 [some (.ref 51), some (.int l1), some (.int l2)] [] M Φ) ∧ ((mi M 5 l1.toNatClampNeg) = l2 → Con d m_Fair_missesToFollow 0 0 [.ref 51, .int l1, .int l2] M (PB fun r1 M1 => Fx M1 ∧ (r1 = true → Φ (some (.int (b2i true))) M1) ∧ (r1 = false → Ex (d + 1) m_Fair_bars bc bs 57 [some (.ref 51), some (.int l1), some (.int l2)] [] M1 Φ)))) : Ex (d + 1) m_Fair_bars bc bs 35 [some (.ref 51), some (.int l1), some (.int l2)] [] M Φ := by
  refine ex_aload_n (pc := 35) (k := 0) (by decide +kernel) rfl ?_
  refine ex_getR (pc := 36) (a := 1) (by decide +kernel) lf_Fair_19 (hF.s (j := 51) rfl) (hF.r (j := 51) (k := 0) rfl rfl) ?_
  refine ex_getR (pc := 39) (a := 5) (by decide +kernel) lf_Fair_62 (hF.s (j := 1) rfl) (hF.r (j := 1) (k := 3) rfl rfl) ?_
  refine ex_iload_n (pc := 42) (k := 1) (by decide +kernel) rfl ?_
  obtain ⟨g1, h⟩ := h
  refine ey_iald (pc := 43) (v := mi M 5 l1.toNatClampNeg) (by decide +kernel) (hF.s (j := 5) rfl) g1 rfl rfl ?_
  refine ex_iload_n (pc := 44) (k := 2) (by decide +kernel) rfl ?_
  refine ex_icmp_ne (pc := 45) (off := 12) (tgt := 57) (by decide +kernel) (by decide) (fun hc => ?_) (fun hc => ?_)
  · replace h := h.1 hc
    exact h
  · replace h := h.2 hc
    refine ex_aload_n (pc := 48) (k := 0) (by decide +kernel) rfl ?_
    refine ex_iload_n (pc := 49) (k := 1) (by decide +kernel) rfl ?_
    refine ex_iload_n (pc := 50) (k := 2) (by decide +kernel) rfl ?_
    refine ex_callV (pc := 51) (as := [.int l1, .int l2]) (by decide +kernel) F_Fair_missesToFollow (in_t3 (i := 237) rfl rfl) (hF.s (j := 51) rfl) rfl (by decide) rfl rfl (Nat.le_of_ble_eq_true rfl) (Nat.lt_succ_self _) ⟨Nat.zero_le _, Nat.zero_le _⟩ (KC_B (Con.mono h ?_))
    intro o M1 ⟨r1, e9, hF1, h⟩
    refine ⟨r1, e9, ?_⟩
    refine ey_ifneB (pc := 54) (off := 25) (tgt := 79) (by decide +kernel) (by decide) (fun hc => ?_) (fun hc => ?_)
    · replace h := h.1 hc
      refine ex_iconst (pc := 79) (k := 1) (v := nI 1) (by decide +kernel) (by decide) ?_
      refine ex_goto (pc := 80) (off := 4) (tgt := 84) (by decide +kernel) (by decide) ?_
      exact ex_ireturn (pc := 84) (v := b2i true) (by decide +kernel) rfl (b2i_n _) h
    · replace h := h.2 hc
      exact h
theorem k_Fair_bars_57 {d bc bs : Nat} {l1 : Int32} {l2 : Int32} {M : Mem} {Φ : Option Value → Mem → Prop} (hF : Fx M) (h : vp_in l2 6 ∧ (¬ (mi M 5 l2.toNatClampNeg) = l1 → Φ (some (.int (b2i false))) M) ∧ ((mi M 5 l2.toNatClampNeg) = l1 → Con d m_Fair_missesToFollow 0 0 [.ref 51, .int l2, .int l1] M (PB fun r1 M1 => Fx M1 ∧ (r1 = false → Φ (some (.int (b2i false))) M1) ∧ (r1 = true → Φ (some (.int (b2i true))) M1)))) : Ex (d + 1) m_Fair_bars bc bs 57 [some (.ref 51), some (.int l1), some (.int l2)] [] M Φ := by
  refine ex_aload_n (pc := 57) (k := 0) (by decide +kernel) rfl ?_
  refine ex_getR (pc := 58) (a := 1) (by decide +kernel) lf_Fair_19 (hF.s (j := 51) rfl) (hF.r (j := 51) (k := 0) rfl rfl) ?_
  refine ex_getR (pc := 61) (a := 5) (by decide +kernel) lf_Fair_62 (hF.s (j := 1) rfl) (hF.r (j := 1) (k := 3) rfl rfl) ?_
  refine ex_iload_n (pc := 64) (k := 2) (by decide +kernel) rfl ?_
  obtain ⟨g1, h⟩ := h
  refine ey_iald (pc := 65) (v := mi M 5 l2.toNatClampNeg) (by decide +kernel) (hF.s (j := 5) rfl) g1 rfl rfl ?_
  refine ex_iload_n (pc := 66) (k := 1) (by decide +kernel) rfl ?_
  refine ex_icmp_ne (pc := 67) (off := 16) (tgt := 83) (by decide +kernel) (by decide) (fun hc => ?_) (fun hc => ?_)
  · replace h := h.1 hc
    refine ex_iconst (pc := 83) (k := 0) (v := nI 0) (by decide +kernel) (by decide) ?_
    exact ex_ireturn (pc := 84) (v := b2i false) (by decide +kernel) rfl (b2i_n _) h
  · replace h := h.2 hc
    refine ex_aload_n (pc := 70) (k := 0) (by decide +kernel) rfl ?_
    refine ex_iload_n (pc := 71) (k := 2) (by decide +kernel) rfl ?_
    refine ex_iload_n (pc := 72) (k := 1) (by decide +kernel) rfl ?_
    refine ex_callV (pc := 73) (as := [.int l2, .int l1]) (by decide +kernel) F_Fair_missesToFollow (in_t3 (i := 237) rfl rfl) (hF.s (j := 51) rfl) rfl (by decide) rfl rfl (Nat.le_of_ble_eq_true rfl) (Nat.lt_succ_self _) ⟨Nat.zero_le _, Nat.zero_le _⟩ (KC_B (Con.mono h ?_))
    intro o M1 ⟨r1, e9, hF1, h⟩
    refine ⟨r1, e9, ?_⟩
    refine ey_ifeqB (pc := 76) (off := 7) (tgt := 83) (by decide +kernel) (by decide) (fun hc => ?_) (fun hc => ?_)
    · replace h := h.1 hc
      refine ex_iconst (pc := 83) (k := 0) (v := nI 0) (by decide +kernel) (by decide) ?_
      exact ex_ireturn (pc := 84) (v := b2i false) (by decide +kernel) rfl (b2i_n _) h
    · replace h := h.2 hc
      refine ex_iconst (pc := 79) (k := 1) (v := nI 1) (by decide +kernel) (by decide) ?_
      refine ex_goto (pc := 80) (off := 4) (tgt := 84) (by decide +kernel) (by decide) ?_
      exact ex_ireturn (pc := 84) (v := b2i true) (by decide +kernel) rfl (b2i_n _) h
theorem k_Fair_missesToFollow_0 {d bc bs : Nat} {l1 : Int32} {l2 : Int32} {M : Mem} {Φ : Option Value → Mem → Prop} (hF : Fx M) (h : vp_in l1 6 ∧ ((mi M 52 l1.toNatClampNeg) = 0 → Φ (some (.int (b2i false))) M) ∧ (¬ (mi M 52 l1.toNatClampNeg) = 0 → vp_in l2 6 ∧ (¬ (mi M 52 l2.toNatClampNeg) = 0 → Ex (d + 1) m_Fair_missesToFollow bc bs 22 [some (.ref 51), some (.int l1), some (.int l2), some (.int (nI 0))] [] M Φ) ∧ ((mi M 52 l2.toNatClampNeg) = 0 → Φ (some (.int (b2i false))) M))) : Ex (d + 1) m_Fair_missesToFollow bc bs 0 [some (.ref 51), some (.int l1), some (.int l2), none] [] M Φ := by
  refine ex_aload_n (pc := 0) (k := 0) (by decide +kernel) rfl ?_
  refine ex_getR (pc := 1) (a := 52) (by decide +kernel) lf_Fair_9 (hF.s (j := 51) rfl) (hF.r (j := 51) (k := 2) rfl rfl) ?_
  refine ex_iload_n (pc := 4) (k := 1) (by decide +kernel) rfl ?_
  obtain ⟨g1, h⟩ := h
  refine ey_iald (pc := 5) (v := mi M 52 l1.toNatClampNeg) (by decide +kernel) (hF.s (j := 52) rfl) g1 rfl rfl ?_
  refine ex_if_eq (pc := 6) (off := 12) (tgt := 18) (by decide +kernel) (by decide) (fun hc => ?_) (fun hc => ?_)
  · replace h := h.1 hc
    refine ex_iconst (pc := 18) (k := 0) (v := nI 0) (by decide +kernel) (by decide) ?_
    exact ex_ireturn (pc := 19) (v := b2i false) (by decide +kernel) rfl (b2i_n _) h
  · replace h := h.2 hc
    refine ex_aload_n (pc := 9) (k := 0) (by decide +kernel) rfl ?_
    refine ex_getR (pc := 10) (a := 52) (by decide +kernel) lf_Fair_9 (hF.s (j := 51) rfl) (hF.r (j := 51) (k := 2) rfl rfl) ?_
    refine ex_iload_n (pc := 13) (k := 2) (by decide +kernel) rfl ?_
    obtain ⟨g2, h⟩ := h
    refine ey_iald (pc := 14) (v := mi M 52 l2.toNatClampNeg) (by decide +kernel) (hF.s (j := 52) rfl) g2 rfl rfl ?_
    refine ex_if_ne (pc := 15) (off := 5) (tgt := 20) (by decide +kernel) (by decide) (fun hc => ?_) (fun hc => ?_)
    · replace h := h.1 hc
      refine ex_iconst (pc := 20) (k := 0) (v := nI 0) (by decide +kernel) (by decide) ?_
      refine ex_istore_n (pc := 21) (k := 3) (lo2 := [some (.ref 51), some (.int l1), some (.int l2), some (.int (nI 0))]) (by decide +kernel) (by decide) rfl ?_
      exact h
    · replace h := h.2 hc
      refine ex_iconst (pc := 18) (k := 0) (v := nI 0) (by decide +kernel) (by decide) ?_
      exact ex_ireturn (pc := 19) (v := b2i false) (by decide +kernel) rfl (b2i_n _) h
theorem k_Fair_missesToFollow_22 {d bc bs : Nat} {l1 : Int32} {l2 : Int32} {l3 : Int32} {M : Mem} {Φ : Option Value → Mem → Prop} (hF : Fx M) (h : ((mi M 1 9) ≤ l3 → Φ (some (.int (b2i true))) M) ∧ (¬ (mi M 1 9) ≤ l3 → Con d m_Fair_isAt 0 0 [.ref 51, .int l2, .int l3] M (PB fun r1 M1 => Fx M1 ∧ (r1 = false → Ex (d + 1) m_Fair_missesToFollow bc bs 22 [some (.ref 51), some (.int l1), some (.int l2), some (.int (l3 + nI 1))] [] M1 Φ) ∧ (r1 = true → Con d m_MD_dayAfter 0 0 [.int l3, .int (mi M1 1 9)] M1 (PI fun r2 M2 => Fx M2 ∧ Con d m_Fair_isAt 0 0 [.ref 51, .int l1, .int r2] M2 (PB fun r3 M3 => Fx M3 ∧ (r3 = false → Ex (d + 1) m_Fair_missesToFollow bc bs 22 [some (.ref 51), some (.int l1), some (.int l2), some (.int (l3 + nI 1))] [] M3 Φ) ∧ (r3 = true → Φ (some (.int (b2i false))) M3))))))) : Ex (d + 1) m_Fair_missesToFollow bc bs 22 [some (.ref 51), some (.int l1), some (.int l2), some (.int l3)] [] M Φ := by
  refine ex_iload_n (pc := 22) (k := 3) (by decide +kernel) rfl ?_
  refine ex_aload_n (pc := 23) (k := 0) (by decide +kernel) rfl ?_
  refine ex_getR (pc := 24) (a := 1) (by decide +kernel) lf_Fair_19 (hF.s (j := 51) rfl) (hF.r (j := 51) (k := 0) rfl rfl) ?_
  refine ey_getI (pc := 27) (v := mi M 1 9) (by decide +kernel) lf_Fair_53 (hF.s (j := 1) rfl) rfl ?_
  refine ex_icmp_ge (pc := 30) (off := 39) (tgt := 69) (by decide +kernel) (by decide) (fun hc => ?_) (fun hc => ?_)
  · replace h := h.1 hc
    refine ex_iconst (pc := 69) (k := 1) (v := nI 1) (by decide +kernel) (by decide) ?_
    exact ex_ireturn (pc := 70) (v := b2i true) (by decide +kernel) rfl (b2i_n _) h
  · replace h := h.2 hc
    refine ex_aload_n (pc := 33) (k := 0) (by decide +kernel) rfl ?_
    refine ex_iload_n (pc := 34) (k := 2) (by decide +kernel) rfl ?_
    refine ex_iload_n (pc := 35) (k := 3) (by decide +kernel) rfl ?_
    refine ex_callV (pc := 36) (as := [.int l2, .int l3]) (by decide +kernel) F_Fair_isAt (in_t4 (i := 1) rfl rfl) (hF.s (j := 51) rfl) rfl (by decide) rfl rfl (Nat.le_of_ble_eq_true rfl) (Nat.lt_succ_self _) ⟨Nat.zero_le _, Nat.zero_le _⟩ (KC_B (Con.mono h ?_))
    intro o M1 ⟨r1, e9, hF1, h⟩
    refine ⟨r1, e9, ?_⟩
    refine ey_ifeqB (pc := 39) (off := 24) (tgt := 63) (by decide +kernel) (by decide) (fun hc => ?_) (fun hc => ?_)
    · replace h := h.1 hc
      refine ex_iinc (pc := 63) (i := 3) (k := 1) (v := l3 + nI 1) (lo2 := [some (.ref 51), some (.int l1), some (.int l2), some (.int (l3 + nI 1))]) (by decide +kernel) (by decide) rfl rfl rfl ?_
      refine ex_goto (pc := 66) (off := -44) (tgt := 22) (by decide +kernel) (by decide) ?_
      exact h
    · replace h := h.2 hc
      refine ex_aload_n (pc := 42) (k := 0) (by decide +kernel) rfl ?_
      refine ex_iload_n (pc := 43) (k := 1) (by decide +kernel) rfl ?_
      refine ex_iload_n (pc := 44) (k := 3) (by decide +kernel) rfl ?_
      refine ex_aload_n (pc := 45) (k := 0) (by decide +kernel) rfl ?_
      refine ex_getR (pc := 46) (a := 1) (by decide +kernel) lf_Fair_19 (hF1.s (j := 51) rfl) (hF1.r (j := 51) (k := 0) rfl rfl) ?_
      refine ey_getI (pc := 49) (v := mi M1 1 9) (by decide +kernel) lf_Fair_53 (hF1.s (j := 1) rfl) rfl ?_
      refine ex_callSN (pc := 52) (host := "MarketDays") (as := [.int l3, .int (mi M1 1 9)]) (by decide +kernel) F_MD_dayAfter (List.mem_filter.mpr ⟨in_u4 (i := 6) rfl, rfl⟩) rfl rfl (Nat.le_of_ble_eq_true rfl) (Nat.lt_succ_self _) ⟨Nat.zero_le _, Nat.zero_le _⟩ (KC_I (Con.mono h ?_))
      intro o M2 ⟨r2, e9, hF2, h⟩
      refine ⟨r2, e9, ?_⟩
      refine ex_callV (pc := 55) (as := [.int l1, .int r2]) (by decide +kernel) F_Fair_isAt (in_t4 (i := 1) rfl rfl) (hF2.s (j := 51) rfl) rfl (by decide) rfl rfl (Nat.le_of_ble_eq_true rfl) (Nat.lt_succ_self _) ⟨Nat.zero_le _, Nat.zero_le _⟩ (KC_B (Con.mono h ?_))
      intro o M3 ⟨r3, e9, hF3, h⟩
      refine ⟨r3, e9, ?_⟩
      refine ey_ifeqB (pc := 58) (off := 5) (tgt := 63) (by decide +kernel) (by decide) (fun hc => ?_) (fun hc => ?_)
      · replace h := h.1 hc
        refine ex_iinc (pc := 63) (i := 3) (k := 1) (v := l3 + nI 1) (lo2 := [some (.ref 51), some (.int l1), some (.int l2), some (.int (l3 + nI 1))]) (by decide +kernel) (by decide) rfl rfl rfl ?_
        refine ex_goto (pc := 66) (off := -44) (tgt := 22) (by decide +kernel) (by decide) ?_
        exact h
      · replace h := h.2 hc
        refine ex_iconst (pc := 61) (k := 0) (v := nI 0) (by decide +kernel) (by decide) ?_
        exact ex_ireturn (pc := 62) (v := b2i false) (by decide +kernel) rfl (b2i_n _) h
theorem k_Fair_roomOf_0 {d bc bs : Nat} {l1 : Int32} {M : Mem} {Φ : Option Value → Mem → Prop} (hF : Fx M) (h : vp_in l1 6 ∧ Ex (d + 1) m_Fair_roomOf bc bs 12 [some (.ref 51), some (.int l1), some (.int (mi M 52 l1.toNatClampNeg)), some (.int (nI 0)), some (.int (nI 0))] [] M Φ) : Ex (d + 1) m_Fair_roomOf bc bs 0 [some (.ref 51), some (.int l1), none, none, none] [] M Φ := by
  refine ex_aload_n (pc := 0) (k := 0) (by decide +kernel) rfl ?_
  refine ex_getR (pc := 1) (a := 52) (by decide +kernel) lf_Fair_9 (hF.s (j := 51) rfl) (hF.r (j := 51) (k := 2) rfl rfl) ?_
  refine ex_iload_n (pc := 4) (k := 1) (by decide +kernel) rfl ?_
  obtain ⟨g1, h⟩ := h
  refine ey_iald (pc := 5) (v := mi M 52 l1.toNatClampNeg) (by decide +kernel) (hF.s (j := 52) rfl) g1 rfl rfl ?_
  refine ex_istore_n (pc := 6) (k := 2) (lo2 := [some (.ref 51), some (.int l1), some (.int (mi M 52 l1.toNatClampNeg)), none, none]) (by decide +kernel) (by decide) rfl ?_
  refine ex_iconst (pc := 7) (k := 0) (v := nI 0) (by decide +kernel) (by decide) ?_
  refine ex_istore_n (pc := 8) (k := 3) (lo2 := [some (.ref 51), some (.int l1), some (.int (mi M 52 l1.toNatClampNeg)), some (.int (nI 0)), none]) (by decide +kernel) (by decide) rfl ?_
  refine ex_iconst (pc := 9) (k := 0) (v := nI 0) (by decide +kernel) (by decide) ?_
  refine ex_istore (pc := 10) (k := 4) (lo2 := [some (.ref 51), some (.int l1), some (.int (mi M 52 l1.toNatClampNeg)), some (.int (nI 0)), some (.int (nI 0))]) (by decide +kernel) (by decide) rfl ?_
  exact h
theorem k_Fair_roomOf_12 {d bc bs : Nat} {l1 : Int32} {l2 : Int32} {l3 : Int32} {l4 : Int32} {M : Mem} {Φ : Option Value → Mem → Prop} (hF : Fx M) (h : ((mi M 1 9) ≤ l4 → vp_in l1 6 ∧ Φ (some (.int l3)) (wi M 52 l1.toNatClampNeg l2)) ∧ (¬ (mi M 1 9) ≤ l4 → vp_in l1 6 ∧ Con d m_Fair_barsItself 0 0 [.ref 51, .int l1] (wi M 52 l1.toNatClampNeg ((nI 1) <<< (l4 &&& 31))) (PB fun r1 M1 => Fx M1 ∧ (r1 = true → Ex (d + 1) m_Fair_roomOf bc bs 12 [some (.ref 51), some (.int l1), some (.int l2), some (.int l3), some (.int (l4 + nI 1))] [] M1 Φ) ∧ (r1 = false → Con d m_Fair_barsAny 0 0 [.ref 51, .int l1] M1 (PB fun r2 M2 => Fx M2 ∧ (r2 = true → Ex (d + 1) m_Fair_roomOf bc bs 12 [some (.ref 51), some (.int l1), some (.int l2), some (.int l3), some (.int (l4 + nI 1))] [] M2 Φ) ∧ (r2 = false → Ex (d + 1) m_Fair_roomOf bc bs 12 [some (.ref 51), some (.int l1), some (.int l2), some (.int (l3 ||| ((nI 1) <<< (l4 &&& 31)))), some (.int (l4 + nI 1))] [] M2 Φ)))))) : Ex (d + 1) m_Fair_roomOf bc bs 12 [some (.ref 51), some (.int l1), some (.int l2), some (.int l3), some (.int l4)] [] M Φ := by
  refine ex_iload (pc := 12) (k := 4) (by decide +kernel) rfl ?_
  refine ex_aload_n (pc := 14) (k := 0) (by decide +kernel) rfl ?_
  refine ex_getR (pc := 15) (a := 1) (by decide +kernel) lf_Fair_19 (hF.s (j := 51) rfl) (hF.r (j := 51) (k := 0) rfl rfl) ?_
  refine ey_getI (pc := 18) (v := mi M 1 9) (by decide +kernel) lf_Fair_53 (hF.s (j := 1) rfl) rfl ?_
  refine ex_icmp_ge (pc := 21) (off := 42) (tgt := 63) (by decide +kernel) (by decide) (fun hc => ?_) (fun hc => ?_)
  · replace h := h.1 hc
    refine ex_aload_n (pc := 63) (k := 0) (by decide +kernel) rfl ?_
    refine ex_getR (pc := 64) (a := 52) (by decide +kernel) lf_Fair_9 (hF.s (j := 51) rfl) (hF.r (j := 51) (k := 2) rfl rfl) ?_
    refine ex_iload_n (pc := 67) (k := 1) (by decide +kernel) rfl ?_
    refine ex_iload_n (pc := 68) (k := 2) (by decide +kernel) rfl ?_
    obtain ⟨g1, h⟩ := h
    refine ey_iast (pc := 69) (by decide +kernel) (hF.s (j := 52) rfl) g1 rfl ?_
    refine ex_iload_n (pc := 70) (k := 3) (by decide +kernel) rfl ?_
    exact ex_ireturn (pc := 71) (by decide +kernel) rfl rfl h
  · replace h := h.2 hc
    refine ex_aload_n (pc := 24) (k := 0) (by decide +kernel) rfl ?_
    refine ex_getR (pc := 25) (a := 52) (by decide +kernel) lf_Fair_9 (hF.s (j := 51) rfl) (hF.r (j := 51) (k := 2) rfl rfl) ?_
    refine ex_iload_n (pc := 28) (k := 1) (by decide +kernel) rfl ?_
    refine ex_iconst (pc := 29) (k := 1) (v := nI 1) (by decide +kernel) (by decide) ?_
    refine ex_iload (pc := 30) (k := 4) (by decide +kernel) rfl ?_
    refine ex_ishl (pc := 32) (by decide +kernel) ?_
    obtain ⟨g2, h⟩ := h
    refine ey_iast (pc := 33) (by decide +kernel) (hF.s (j := 52) rfl) g2 rfl ?_
    refine ex_aload_n (pc := 34) (k := 0) (by decide +kernel) rfl ?_
    refine ex_iload_n (pc := 35) (k := 1) (by decide +kernel) rfl ?_
    refine ex_callV (pc := 36) (as := [.int l1]) (by decide +kernel) F_Fair_barsItself (in_t3 (i := 228) rfl rfl) (hF.s (j := 51) rfl) rfl (by decide) rfl rfl (Nat.le_of_ble_eq_true rfl) (Nat.lt_succ_self _) ⟨Nat.zero_le _, Nat.zero_le _⟩ (KC_B (Con.mono h ?_))
    intro o M1 ⟨r1, e9, hF1, h⟩
    refine ⟨r1, e9, ?_⟩
    refine ey_ifneB (pc := 39) (off := 18) (tgt := 57) (by decide +kernel) (by decide) (fun hc => ?_) (fun hc => ?_)
    · replace h := h.1 hc
      refine ex_iinc (pc := 57) (i := 4) (k := 1) (v := l4 + nI 1) (lo2 := [some (.ref 51), some (.int l1), some (.int l2), some (.int l3), some (.int (l4 + nI 1))]) (by decide +kernel) (by decide) rfl rfl rfl ?_
      refine ex_goto (pc := 60) (off := -48) (tgt := 12) (by decide +kernel) (by decide) ?_
      exact h
    · replace h := h.2 hc
      refine ex_aload_n (pc := 42) (k := 0) (by decide +kernel) rfl ?_
      refine ex_iload_n (pc := 43) (k := 1) (by decide +kernel) rfl ?_
      refine ex_callV (pc := 44) (as := [.int l1]) (by decide +kernel) F_Fair_barsAny (in_t4 (i := 167) rfl rfl) (hF1.s (j := 51) rfl) rfl (by decide) rfl rfl (Nat.le_of_ble_eq_true rfl) (Nat.lt_succ_self _) ⟨Nat.zero_le _, Nat.zero_le _⟩ (KC_B (Con.mono h ?_))
      intro o M2 ⟨r2, e9, hF2, h⟩
      refine ⟨r2, e9, ?_⟩
      refine ey_ifneB (pc := 47) (off := 10) (tgt := 57) (by decide +kernel) (by decide) (fun hc => ?_) (fun hc => ?_)
      · replace h := h.1 hc
        refine ex_iinc (pc := 57) (i := 4) (k := 1) (v := l4 + nI 1) (lo2 := [some (.ref 51), some (.int l1), some (.int l2), some (.int l3), some (.int (l4 + nI 1))]) (by decide +kernel) (by decide) rfl rfl rfl ?_
        refine ex_goto (pc := 60) (off := -48) (tgt := 12) (by decide +kernel) (by decide) ?_
        exact h
      · replace h := h.2 hc
        refine ex_iload_n (pc := 50) (k := 3) (by decide +kernel) rfl ?_
        refine ex_iconst (pc := 51) (k := 1) (v := nI 1) (by decide +kernel) (by decide) ?_
        refine ex_iload (pc := 52) (k := 4) (by decide +kernel) rfl ?_
        refine ex_ishl (pc := 54) (by decide +kernel) ?_
        refine ex_ior (pc := 55) (by decide +kernel) ?_
        refine ex_istore_n (pc := 56) (k := 3) (lo2 := [some (.ref 51), some (.int l1), some (.int l2), some (.int (l3 ||| ((nI 1) <<< (l4 &&& 31)))), some (.int l4)]) (by decide +kernel) (by decide) rfl ?_
        refine ex_iinc (pc := 57) (i := 4) (k := 1) (v := l4 + nI 1) (lo2 := [some (.ref 51), some (.int l1), some (.int l2), some (.int (l3 ||| ((nI 1) <<< (l4 &&& 31)))), some (.int (l4 + nI 1))]) (by decide +kernel) (by decide) rfl rfl rfl ?_
        refine ex_goto (pc := 60) (off := -48) (tgt := 12) (by decide +kernel) (by decide) ?_
        exact h
theorem k_Fair_barsAny_0 {d bc bs : Nat} {l1 : Int32} {M : Mem} {Φ : Option Value → Mem → Prop} (hF : Fx M) (h : Ex (d + 1) m_Fair_barsAny bc bs 2 [some (.ref 51), some (.int l1), some (.int (nI 0))] [] M Φ) : Ex (d + 1) m_Fair_barsAny bc bs 0 [some (.ref 51), some (.int l1), none] [] M Φ := by
  refine ex_iconst (pc := 0) (k := 0) (v := nI 0) (by decide +kernel) (by decide) ?_
  refine ex_istore_n (pc := 1) (k := 2) (lo2 := [some (.ref 51), some (.int l1), some (.int (nI 0))]) (by decide +kernel) (by decide) rfl ?_
  exact h
theorem k_Fair_barsAny_2 {d bc bs : Nat} {l1 : Int32} {l2 : Int32} {M : Mem} {Φ : Option Value → Mem → Prop} (hF : Fx M) (h : ((mi M 1 8) ≤ l2 → Φ (some (.int (b2i false))) M) ∧ (¬ (mi M 1 8) ≤ l2 → (l2 = l1 → Ex (d + 1) m_Fair_barsAny bc bs 2 [some (.ref 51), some (.int l1), some (.int (l2 + nI 1))] [] M Φ) ∧ (¬ l2 = l1 → Con d m_Fair_bars 0 0 [.ref 51, .int (if l2 < l1 then l2 else l1), .int (if l1 < l2 then l2 else l1)] M (PB fun r1 M1 => Fx M1 ∧ (r1 = false → Ex (d + 1) m_Fair_barsAny bc bs 2 [some (.ref 51), some (.int l1), some (.int (l2 + nI 1))] [] M1 Φ) ∧ (r1 = true → Φ (some (.int (b2i true))) M1))))) : Ex (d + 1) m_Fair_barsAny bc bs 2 [some (.ref 51), some (.int l1), some (.int l2)] [] M Φ := by
  refine ex_iload_n (pc := 2) (k := 2) (by decide +kernel) rfl ?_
  refine ex_aload_n (pc := 3) (k := 0) (by decide +kernel) rfl ?_
  refine ex_getR (pc := 4) (a := 1) (by decide +kernel) lf_Fair_19 (hF.s (j := 51) rfl) (hF.r (j := 51) (k := 0) rfl rfl) ?_
  refine ey_getI (pc := 7) (v := mi M 1 8) (by decide +kernel) lf_Fair_27 (hF.s (j := 1) rfl) rfl ?_
  refine ex_icmp_ge (pc := 10) (off := 33) (tgt := 43) (by decide +kernel) (by decide) (fun hc => ?_) (fun hc => ?_)
  · replace h := h.1 hc
    refine ex_iconst (pc := 43) (k := 0) (v := nI 0) (by decide +kernel) (by decide) ?_
    exact ex_ireturn (pc := 44) (v := b2i false) (by decide +kernel) rfl (b2i_n _) h
  · replace h := h.2 hc
    refine ex_iload_n (pc := 13) (k := 2) (by decide +kernel) rfl ?_
    refine ex_iload_n (pc := 14) (k := 1) (by decide +kernel) rfl ?_
    refine ex_icmp_eq (pc := 15) (off := 22) (tgt := 37) (by decide +kernel) (by decide) (fun hc => ?_) (fun hc => ?_)
    · replace h := h.1 hc
      refine ex_iinc (pc := 37) (i := 2) (k := 1) (v := l2 + nI 1) (lo2 := [some (.ref 51), some (.int l1), some (.int (l2 + nI 1))]) (by decide +kernel) (by decide) rfl rfl rfl ?_
      refine ex_goto (pc := 40) (off := -38) (tgt := 2) (by decide +kernel) (by decide) ?_
      exact h
    · replace h := h.2 hc
      refine ex_aload_n (pc := 18) (k := 0) (by decide +kernel) rfl ?_
      refine ex_iload_n (pc := 19) (k := 1) (by decide +kernel) rfl ?_
      refine ex_iload_n (pc := 20) (k := 2) (by decide +kernel) rfl ?_
      refine ex_min (pc := 21) (by decide +kernel) (in_t4 (i := 31) rfl rfl) (Nat.le_of_ble_eq_true rfl) (Nat.succ_le_succ (Nat.zero_le _)) ?_
      refine ex_iload_n (pc := 24) (k := 1) (by decide +kernel) rfl ?_
      refine ex_iload_n (pc := 25) (k := 2) (by decide +kernel) rfl ?_
      refine ex_max (pc := 26) (by decide +kernel) (in_t4 (i := 171) rfl rfl) (Nat.le_of_ble_eq_true rfl) (Nat.succ_le_succ (Nat.zero_le _)) ?_
      refine ex_callV (pc := 29) (as := [.int (if l2 < l1 then l2 else l1), .int (if l1 < l2 then l2 else l1)]) (by decide +kernel) F_Fair_bars (in_t3 (i := 232) rfl rfl) (hF.s (j := 51) rfl) rfl (by decide) rfl rfl (Nat.le_of_ble_eq_true rfl) (Nat.lt_succ_self _) ⟨Nat.zero_le _, Nat.zero_le _⟩ (KC_B (Con.mono h ?_))
      intro o M1 ⟨r1, e9, hF1, h⟩
      refine ⟨r1, e9, ?_⟩
      refine ey_ifeqB (pc := 32) (off := 5) (tgt := 37) (by decide +kernel) (by decide) (fun hc => ?_) (fun hc => ?_)
      · replace h := h.1 hc
        refine ex_iinc (pc := 37) (i := 2) (k := 1) (v := l2 + nI 1) (lo2 := [some (.ref 51), some (.int l1), some (.int (l2 + nI 1))]) (by decide +kernel) (by decide) rfl rfl rfl ?_
        refine ex_goto (pc := 40) (off := -38) (tgt := 2) (by decide +kernel) (by decide) ?_
        exact h
      · replace h := h.2 hc
        refine ex_iconst (pc := 35) (k := 1) (v := nI 1) (by decide +kernel) (by decide) ?_
        exact ex_ireturn (pc := 36) (v := b2i true) (by decide +kernel) rfl (b2i_n _) h
theorem k_Fair_worthOfAllBut_0 {d bc bs : Nat} {l1 : Int32} {M : Mem} {Φ : Option Value → Mem → Prop} (hF : Fx M) (h : Ex (d + 1) m_Fair_worthOfAllBut bc bs 4 [some (.ref 51), some (.int l1), some (.int (nI 0)), some (.int (nI 0))] [] M Φ) : Ex (d + 1) m_Fair_worthOfAllBut bc bs 0 [some (.ref 51), some (.int l1), none, none] [] M Φ := by
  refine ex_iconst (pc := 0) (k := 0) (v := nI 0) (by decide +kernel) (by decide) ?_
  refine ex_istore_n (pc := 1) (k := 2) (lo2 := [some (.ref 51), some (.int l1), some (.int (nI 0)), none]) (by decide +kernel) (by decide) rfl ?_
  refine ex_iconst (pc := 2) (k := 0) (v := nI 0) (by decide +kernel) (by decide) ?_
  refine ex_istore_n (pc := 3) (k := 3) (lo2 := [some (.ref 51), some (.int l1), some (.int (nI 0)), some (.int (nI 0))]) (by decide +kernel) (by decide) rfl ?_
  exact h
theorem k_Fair_worthOfAllBut_4 {d bc bs : Nat} {l1 : Int32} {l2 : Int32} {l3 : Int32} {M : Mem} {Φ : Option Value → Mem → Prop} (hF : Fx M) (h : ((mi M 1 8) ≤ l3 → Φ (some (.int l2)) M) ∧ (¬ (mi M 1 8) ≤ l3 → (l3 = l1 → Ex (d + 1) m_Fair_worthOfAllBut bc bs 4 [some (.ref 51), some (.int l1), some (.int l2), some (.int (l3 + nI 1))] [] M Φ) ∧ (¬ l3 = l1 → Con d m_Fair_worthOfTown 0 0 [.ref 51, .int l3] M (PI fun r1 M1 => Fx M1 ∧ Ex (d + 1) m_Fair_worthOfAllBut bc bs 4 [some (.ref 51), some (.int l1), some (.int (l2 + r1)), some (.int (l3 + nI 1))] [] M1 Φ)))) : Ex (d + 1) m_Fair_worthOfAllBut bc bs 4 [some (.ref 51), some (.int l1), some (.int l2), some (.int l3)] [] M Φ := by
  refine ex_iload_n (pc := 4) (k := 3) (by decide +kernel) rfl ?_
  refine ex_aload_n (pc := 5) (k := 0) (by decide +kernel) rfl ?_
  refine ex_getR (pc := 6) (a := 1) (by decide +kernel) lf_Fair_19 (hF.s (j := 51) rfl) (hF.r (j := 51) (k := 0) rfl rfl) ?_
  refine ey_getI (pc := 9) (v := mi M 1 8) (by decide +kernel) lf_Fair_27 (hF.s (j := 1) rfl) rfl ?_
  refine ex_icmp_ge (pc := 12) (off := 22) (tgt := 34) (by decide +kernel) (by decide) (fun hc => ?_) (fun hc => ?_)
  · replace h := h.1 hc
    refine ex_iload_n (pc := 34) (k := 2) (by decide +kernel) rfl ?_
    exact ex_ireturn (pc := 35) (by decide +kernel) rfl rfl h
  · replace h := h.2 hc
    refine ex_iload_n (pc := 15) (k := 3) (by decide +kernel) rfl ?_
    refine ex_iload_n (pc := 16) (k := 1) (by decide +kernel) rfl ?_
    refine ex_icmp_eq (pc := 17) (off := 11) (tgt := 28) (by decide +kernel) (by decide) (fun hc => ?_) (fun hc => ?_)
    · replace h := h.1 hc
      refine ex_iinc (pc := 28) (i := 3) (k := 1) (v := l3 + nI 1) (lo2 := [some (.ref 51), some (.int l1), some (.int l2), some (.int (l3 + nI 1))]) (by decide +kernel) (by decide) rfl rfl rfl ?_
      refine ex_goto (pc := 31) (off := -27) (tgt := 4) (by decide +kernel) (by decide) ?_
      exact h
    · replace h := h.2 hc
      refine ex_iload_n (pc := 20) (k := 2) (by decide +kernel) rfl ?_
      refine ex_aload_n (pc := 21) (k := 0) (by decide +kernel) rfl ?_
      refine ex_iload_n (pc := 22) (k := 3) (by decide +kernel) rfl ?_
      refine ex_callV (pc := 23) (as := [.int l3]) (by decide +kernel) F_Fair_worthOfTown (in_t4 (i := 19) rfl rfl) (hF.s (j := 51) rfl) rfl (by decide) rfl rfl (Nat.le_of_ble_eq_true rfl) (Nat.lt_succ_self _) ⟨Nat.zero_le _, Nat.zero_le _⟩ (KC_I (Con.mono h ?_))
      intro o M1 ⟨r1, e9, hF1, h⟩
      refine ⟨r1, e9, ?_⟩
      refine ex_iadd (pc := 26) (by decide +kernel) ?_
      refine ex_istore_n (pc := 27) (k := 2) (lo2 := [some (.ref 51), some (.int l1), some (.int (l2 + r1)), some (.int l3)]) (by decide +kernel) (by decide) rfl ?_
      refine ex_iinc (pc := 28) (i := 3) (k := 1) (v := l3 + nI 1) (lo2 := [some (.ref 51), some (.int l1), some (.int (l2 + r1)), some (.int (l3 + nI 1))]) (by decide +kernel) (by decide) rfl rfl rfl ?_
      refine ex_goto (pc := 31) (off := -27) (tgt := 4) (by decide +kernel) (by decide) ?_
      exact h
theorem k_Fair_worthOfTown_0 {d bc bs : Nat} {l1 : Int32} {M : Mem} {Φ : Option Value → Mem → Prop} (hF : Fx M) (h : (mr M 51 3 = none → Φ (some (.int (nI 0))) M) ∧ (∀ a1 : Nat, mr M 51 3 = some a1 → Ex (d + 1) m_Fair_worthOfTown bc bs 13 [some (.ref 51), some (.int l1), some (.int (nI 0)), some (.int (nI 0))] [] M Φ)) : Ex (d + 1) m_Fair_worthOfTown bc bs 0 [some (.ref 51), some (.int l1), none, none] [] M Φ := by
  refine ex_aload_n (pc := 0) (k := 0) (by decide +kernel) rfl ?_
  cases hr : mr M 51 3 with
  | none =>
    replace h := h.1 hr
    refine ex_getN (pc := 1) (by decide +kernel) lf_Fair_15 (hF.s (j := 51) rfl) hr ?_
    refine ex_ifnonnullN (pc := 4) (off := 5) (by decide +kernel) ?_
    refine ex_iconst (pc := 7) (k := 0) (v := nI 0) (by decide +kernel) (by decide) ?_
    exact ex_ireturn (pc := 8) (by decide +kernel) rfl rfl h
  | some a1 =>
    replace h := h.2 a1 hr
    refine ex_getR (pc := 1) (by decide +kernel) lf_Fair_15 (hF.s (j := 51) rfl) hr ?_
    refine ex_ifnonnull (pc := 4) (off := 5) (tgt := 9) (by decide +kernel) (by decide) ?_
    refine ex_iconst (pc := 9) (k := 0) (v := nI 0) (by decide +kernel) (by decide) ?_
    refine ex_istore_n (pc := 10) (k := 2) (lo2 := [some (.ref 51), some (.int l1), some (.int (nI 0)), none]) (by decide +kernel) (by decide) rfl ?_
    refine ex_iconst (pc := 11) (k := 0) (v := nI 0) (by decide +kernel) (by decide) ?_
    refine ex_istore_n (pc := 12) (k := 3) (lo2 := [some (.ref 51), some (.int l1), some (.int (nI 0)), some (.int (nI 0))]) (by decide +kernel) (by decide) rfl ?_
    exact h
theorem k_Fair_worthOfTown_13 {d bc bs : Nat} {l1 : Int32} {l2 : Int32} {l3 : Int32} {M : Mem} {Φ : Option Value → Mem → Prop} (hF : Fx M) (h : ((mi M 1 9) ≤ l3 → ∃ a1 : Nat, mr M 51 3 = some a1 ∧ vp_in l1 6 ∧ ((mi M 52 l1.toNatClampNeg) = 0 → (sh M)[a1]? = some (3, 2) ∧ Con d m_Giving_worthBy 0 0 [.ref a1, .int l2, .int (nI 0)] M (PI fun r2 M1 => Fx M1 ∧ Φ (some (.int r2)) M1)) ∧ (¬ (mi M 52 l1.toNatClampNeg) = 0 → (sh M)[a1]? = some (3, 2) ∧ Con d m_Giving_worthBy 0 0 [.ref a1, .int l2, .int (nI 1)] M (PI fun r3 M2 => Fx M2 ∧ Φ (some (.int r3)) M2))) ∧ (¬ (mi M 1 9) ≤ l3 → Con d m_Fair_isAt 0 0 [.ref 51, .int l1, .int l3] M (PB fun r4 M3 => Fx M3 ∧ (r4 = false → Ex (d + 1) m_Fair_worthOfTown bc bs 13 [some (.ref 51), some (.int l1), some (.int l2), some (.int (l3 + nI 1))] [] M3 Φ) ∧ (r4 = true → Con d m_MD_dayBefore 0 0 [.int l3, .int (mi M3 1 9)] M3 (PI fun r5 M4 => Fx M4 ∧ Con d m_Fair_hoursToMarket 0 0 [.ref 51, .int l1, .int r5] M4 (PI fun r6 M5 => Fx M5 ∧ Con d m_Fair_othersAt 0 0 [.ref 51, .int l1, .int l3] M5 (PI fun r7 M6 => Fx M6 ∧ Con d m_Law_worthOfDay 0 0 [.ref 46, .int l1, .int l3, .int r6, .int r7] M6 (PI fun r8 M7 => Fx M7 ∧ Ex (d + 1) m_Fair_worthOfTown bc bs 13 [some (.ref 51), some (.int l1), some (.int (l2 + r8)), some (.int (l3 + nI 1))] [] M7 Φ)))))))) : Ex (d + 1) m_Fair_worthOfTown bc bs 13 [some (.ref 51), some (.int l1), some (.int l2), some (.int l3)] [] M Φ := by
  refine ex_iload_n (pc := 13) (k := 3) (by decide +kernel) rfl ?_
  refine ex_aload_n (pc := 14) (k := 0) (by decide +kernel) rfl ?_
  refine ex_getR (pc := 15) (a := 1) (by decide +kernel) lf_Fair_19 (hF.s (j := 51) rfl) (hF.r (j := 51) (k := 0) rfl rfl) ?_
  refine ey_getI (pc := 18) (v := mi M 1 9) (by decide +kernel) lf_Fair_53 (hF.s (j := 1) rfl) rfl ?_
  refine ex_icmp_ge (pc := 21) (off := 52) (tgt := 73) (by decide +kernel) (by decide) (fun hc => ?_) (fun hc => ?_)
  · replace h := h.1 hc
    refine ex_aload_n (pc := 73) (k := 0) (by decide +kernel) rfl ?_
    obtain ⟨a1, g1, h⟩ := h
    refine ex_getR (pc := 74) (a := a1) (by decide +kernel) lf_Fair_15 (hF.s (j := 51) rfl) g1 ?_
    refine ex_iload_n (pc := 77) (k := 2) (by decide +kernel) rfl ?_
    refine ex_aload_n (pc := 78) (k := 0) (by decide +kernel) rfl ?_
    refine ex_getR (pc := 79) (a := 52) (by decide +kernel) lf_Fair_9 (hF.s (j := 51) rfl) (hF.r (j := 51) (k := 2) rfl rfl) ?_
    refine ex_iload_n (pc := 82) (k := 1) (by decide +kernel) rfl ?_
    obtain ⟨g2, h⟩ := h
    refine ey_iald (pc := 83) (v := mi M 52 l1.toNatClampNeg) (by decide +kernel) (hF.s (j := 52) rfl) g2 rfl rfl ?_
    refine ex_if_eq (pc := 84) (off := 7) (tgt := 91) (by decide +kernel) (by decide) (fun hc => ?_) (fun hc => ?_)
    · replace h := h.1 hc
      refine ex_iconst (pc := 91) (k := 0) (v := nI 0) (by decide +kernel) (by decide) ?_
      obtain ⟨g3, h⟩ := h
      refine ex_callV (pc := 92) (as := [.int l2, .int (nI 0)]) (by decide +kernel) F_Giving_worthBy (in_t4 (i := 37) rfl rfl) g3 rfl (by decide) rfl rfl (Nat.le_of_ble_eq_true rfl) (Nat.lt_succ_self _) ⟨Nat.zero_le _, Nat.zero_le _⟩ (KC_I (Con.mono h ?_))
      intro o M1 ⟨r2, e9, hF1, h⟩
      refine ⟨r2, e9, ?_⟩
      exact ex_ireturn (pc := 95) (by decide +kernel) rfl rfl h
    · replace h := h.2 hc
      refine ex_iconst (pc := 87) (k := 1) (v := nI 1) (by decide +kernel) (by decide) ?_
      refine ex_goto (pc := 88) (off := 4) (tgt := 92) (by decide +kernel) (by decide) ?_
      obtain ⟨g4, h⟩ := h
      refine ex_callV (pc := 92) (as := [.int l2, .int (nI 1)]) (by decide +kernel) F_Giving_worthBy (in_t4 (i := 37) rfl rfl) g4 rfl (by decide) rfl rfl (Nat.le_of_ble_eq_true rfl) (Nat.lt_succ_self _) ⟨Nat.zero_le _, Nat.zero_le _⟩ (KC_I (Con.mono h ?_))
      intro o M2 ⟨r3, e9, hF2, h⟩
      refine ⟨r3, e9, ?_⟩
      exact ex_ireturn (pc := 95) (by decide +kernel) rfl rfl h
  · replace h := h.2 hc
    refine ex_aload_n (pc := 24) (k := 0) (by decide +kernel) rfl ?_
    refine ex_iload_n (pc := 25) (k := 1) (by decide +kernel) rfl ?_
    refine ex_iload_n (pc := 26) (k := 3) (by decide +kernel) rfl ?_
    refine ex_callV (pc := 27) (as := [.int l1, .int l3]) (by decide +kernel) F_Fair_isAt (in_t4 (i := 1) rfl rfl) (hF.s (j := 51) rfl) rfl (by decide) rfl rfl (Nat.le_of_ble_eq_true rfl) (Nat.lt_succ_self _) ⟨Nat.zero_le _, Nat.zero_le _⟩ (KC_B (Con.mono h ?_))
    intro o M3 ⟨r4, e9, hF3, h⟩
    refine ⟨r4, e9, ?_⟩
    refine ey_ifeqB (pc := 30) (off := 37) (tgt := 67) (by decide +kernel) (by decide) (fun hc => ?_) (fun hc => ?_)
    · replace h := h.1 hc
      refine ex_iinc (pc := 67) (i := 3) (k := 1) (v := l3 + nI 1) (lo2 := [some (.ref 51), some (.int l1), some (.int l2), some (.int (l3 + nI 1))]) (by decide +kernel) (by decide) rfl rfl rfl ?_
      refine ex_goto (pc := 70) (off := -57) (tgt := 13) (by decide +kernel) (by decide) ?_
      exact h
    · replace h := h.2 hc
      refine ex_iload_n (pc := 33) (k := 2) (by decide +kernel) rfl ?_
      refine ex_aload_n (pc := 34) (k := 0) (by decide +kernel) rfl ?_
      refine ex_getR (pc := 35) (a := 46) (by decide +kernel) lf_Fair_23 (hF3.s (j := 51) rfl) (hF3.r (j := 51) (k := 1) rfl rfl) ?_
      refine ex_iload_n (pc := 38) (k := 1) (by decide +kernel) rfl ?_
      refine ex_iload_n (pc := 39) (k := 3) (by decide +kernel) rfl ?_
      refine ex_aload_n (pc := 40) (k := 0) (by decide +kernel) rfl ?_
      refine ex_iload_n (pc := 41) (k := 1) (by decide +kernel) rfl ?_
      refine ex_iload_n (pc := 42) (k := 3) (by decide +kernel) rfl ?_
      refine ex_aload_n (pc := 43) (k := 0) (by decide +kernel) rfl ?_
      refine ex_getR (pc := 44) (a := 1) (by decide +kernel) lf_Fair_19 (hF3.s (j := 51) rfl) (hF3.r (j := 51) (k := 0) rfl rfl) ?_
      refine ey_getI (pc := 47) (v := mi M3 1 9) (by decide +kernel) lf_Fair_53 (hF3.s (j := 1) rfl) rfl ?_
      refine ex_callSN (pc := 50) (host := "MarketDays") (as := [.int l3, .int (mi M3 1 9)]) (by decide +kernel) F_MD_dayBefore (List.mem_filter.mpr ⟨in_u4 (i := 23) rfl, rfl⟩) rfl rfl (Nat.le_of_ble_eq_true rfl) (Nat.lt_succ_self _) ⟨Nat.zero_le _, Nat.zero_le _⟩ (KC_I (Con.mono h ?_))
      intro o M4 ⟨r5, e9, hF4, h⟩
      refine ⟨r5, e9, ?_⟩
      refine ex_callV (pc := 53) (as := [.int l1, .int r5]) (by decide +kernel) F_Fair_hoursToMarket (in_t4 (i := 26) rfl rfl) (hF4.s (j := 51) rfl) rfl (by decide) rfl rfl (Nat.le_of_ble_eq_true rfl) (Nat.lt_succ_self _) ⟨Nat.zero_le _, Nat.zero_le _⟩ (KC_I (Con.mono h ?_))
      intro o M5 ⟨r6, e9, hF5, h⟩
      refine ⟨r6, e9, ?_⟩
      refine ex_aload_n (pc := 56) (k := 0) (by decide +kernel) rfl ?_
      refine ex_iload_n (pc := 57) (k := 1) (by decide +kernel) rfl ?_
      refine ex_iload_n (pc := 58) (k := 3) (by decide +kernel) rfl ?_
      refine ex_callV (pc := 59) (as := [.int l1, .int l3]) (by decide +kernel) F_Fair_othersAt (in_t4 (i := 32) rfl rfl) (hF5.s (j := 51) rfl) rfl (by decide) rfl rfl (Nat.le_of_ble_eq_true rfl) (Nat.lt_succ_self _) ⟨Nat.zero_le _, Nat.zero_le _⟩ (KC_I (Con.mono h ?_))
      intro o M6 ⟨r7, e9, hF6, h⟩
      refine ⟨r7, e9, ?_⟩
      refine ex_callV (pc := 62) (as := [.int l1, .int l3, .int r6, .int r7]) (by decide +kernel) F_Law_worthOfDay (in_t4 (i := 36) rfl rfl) (hF6.s (j := 46) rfl) rfl (by decide) rfl rfl (Nat.le_of_ble_eq_true rfl) (Nat.lt_succ_self _) ⟨Nat.zero_le _, Nat.zero_le _⟩ (KC_I (Con.mono h ?_))
      intro o M7 ⟨r8, e9, hF7, h⟩
      refine ⟨r8, e9, ?_⟩
      refine ex_iadd (pc := 65) (by decide +kernel) ?_
      refine ex_istore_n (pc := 66) (k := 2) (lo2 := [some (.ref 51), some (.int l1), some (.int (l2 + r8)), some (.int l3)]) (by decide +kernel) (by decide) rfl ?_
      refine ex_iinc (pc := 67) (i := 3) (k := 1) (v := l3 + nI 1) (lo2 := [some (.ref 51), some (.int l1), some (.int (l2 + r8)), some (.int (l3 + nI 1))]) (by decide +kernel) (by decide) rfl rfl rfl ?_
      refine ex_goto (pc := 70) (off := -57) (tgt := 13) (by decide +kernel) (by decide) ?_
      exact h
theorem k_Fair_othersAt_0 {d bc bs : Nat} {l1 : Int32} {l2 : Int32} {M : Mem} {Φ : Option Value → Mem → Prop} (hF : Fx M) (h : Ex (d + 1) m_Fair_othersAt bc bs 5 [some (.ref 51), some (.int l1), some (.int l2), some (.int (nI 0)), some (.int (nI 0))] [] M Φ) : Ex (d + 1) m_Fair_othersAt bc bs 0 [some (.ref 51), some (.int l1), some (.int l2), none, none] [] M Φ := by
  refine ex_iconst (pc := 0) (k := 0) (v := nI 0) (by decide +kernel) (by decide) ?_
  refine ex_istore_n (pc := 1) (k := 3) (lo2 := [some (.ref 51), some (.int l1), some (.int l2), some (.int (nI 0)), none]) (by decide +kernel) (by decide) rfl ?_
  refine ex_iconst (pc := 2) (k := 0) (v := nI 0) (by decide +kernel) (by decide) ?_
  refine ex_istore (pc := 3) (k := 4) (lo2 := [some (.ref 51), some (.int l1), some (.int l2), some (.int (nI 0)), some (.int (nI 0))]) (by decide +kernel) (by decide) rfl ?_
  exact h
theorem k_Fair_othersAt_5 {d bc bs : Nat} {l1 : Int32} {l2 : Int32} {l3 : Int32} {l4 : Int32} {M : Mem} {Φ : Option Value → Mem → Prop} (hF : Fx M) (h : ((mi M 1 8) ≤ l4 → Φ (some (.int l3)) M) ∧ (¬ (mi M 1 8) ≤ l4 → (l4 = l1 → Ex (d + 1) m_Fair_othersAt bc bs 5 [some (.ref 51), some (.int l1), some (.int l2), some (.int l3), some (.int (l4 + nI 1))] [] M Φ) ∧ (¬ l4 = l1 → Con d m_Fair_isAt 0 0 [.ref 51, .int l4, .int l2] M (PB fun r1 M1 => Fx M1 ∧ (r1 = false → Ex (d + 1) m_Fair_othersAt bc bs 5 [some (.ref 51), some (.int l1), some (.int l2), some (.int l3), some (.int (l4 + nI 1))] [] M1 Φ) ∧ (r1 = true → Ex (d + 1) m_Fair_othersAt bc bs 5 [some (.ref 51), some (.int l1), some (.int l2), some (.int (l3 + nI 1)), some (.int (l4 + nI 1))] [] M1 Φ))))) : Ex (d + 1) m_Fair_othersAt bc bs 5 [some (.ref 51), some (.int l1), some (.int l2), some (.int l3), some (.int l4)] [] M Φ := by
  refine ex_iload (pc := 5) (k := 4) (by decide +kernel) rfl ?_
  refine ex_aload_n (pc := 7) (k := 0) (by decide +kernel) rfl ?_
  refine ex_getR (pc := 8) (a := 1) (by decide +kernel) lf_Fair_19 (hF.s (j := 51) rfl) (hF.r (j := 51) (k := 0) rfl rfl) ?_
  refine ey_getI (pc := 11) (v := mi M 1 8) (by decide +kernel) lf_Fair_27 (hF.s (j := 1) rfl) rfl ?_
  refine ex_icmp_ge (pc := 14) (off := 28) (tgt := 42) (by decide +kernel) (by decide) (fun hc => ?_) (fun hc => ?_)
  · replace h := h.1 hc
    refine ex_iload_n (pc := 42) (k := 3) (by decide +kernel) rfl ?_
    exact ex_ireturn (pc := 43) (by decide +kernel) rfl rfl h
  · replace h := h.2 hc
    refine ex_iload (pc := 17) (k := 4) (by decide +kernel) rfl ?_
    refine ex_iload_n (pc := 19) (k := 1) (by decide +kernel) rfl ?_
    refine ex_icmp_eq (pc := 20) (off := 16) (tgt := 36) (by decide +kernel) (by decide) (fun hc => ?_) (fun hc => ?_)
    · replace h := h.1 hc
      refine ex_iinc (pc := 36) (i := 4) (k := 1) (v := l4 + nI 1) (lo2 := [some (.ref 51), some (.int l1), some (.int l2), some (.int l3), some (.int (l4 + nI 1))]) (by decide +kernel) (by decide) rfl rfl rfl ?_
      refine ex_goto (pc := 39) (off := -34) (tgt := 5) (by decide +kernel) (by decide) ?_
      exact h
    · replace h := h.2 hc
      refine ex_aload_n (pc := 23) (k := 0) (by decide +kernel) rfl ?_
      refine ex_iload (pc := 24) (k := 4) (by decide +kernel) rfl ?_
      refine ex_iload_n (pc := 26) (k := 2) (by decide +kernel) rfl ?_
      refine ex_callV (pc := 27) (as := [.int l4, .int l2]) (by decide +kernel) F_Fair_isAt (in_t4 (i := 1) rfl rfl) (hF.s (j := 51) rfl) rfl (by decide) rfl rfl (Nat.le_of_ble_eq_true rfl) (Nat.lt_succ_self _) ⟨Nat.zero_le _, Nat.zero_le _⟩ (KC_B (Con.mono h ?_))
      intro o M1 ⟨r1, e9, hF1, h⟩
      refine ⟨r1, e9, ?_⟩
      refine ey_ifeqB (pc := 30) (off := 6) (tgt := 36) (by decide +kernel) (by decide) (fun hc => ?_) (fun hc => ?_)
      · replace h := h.1 hc
        refine ex_iinc (pc := 36) (i := 4) (k := 1) (v := l4 + nI 1) (lo2 := [some (.ref 51), some (.int l1), some (.int l2), some (.int l3), some (.int (l4 + nI 1))]) (by decide +kernel) (by decide) rfl rfl rfl ?_
        refine ex_goto (pc := 39) (off := -34) (tgt := 5) (by decide +kernel) (by decide) ?_
        exact h
      · replace h := h.2 hc
        refine ex_iinc (pc := 33) (i := 3) (k := 1) (v := l3 + nI 1) (lo2 := [some (.ref 51), some (.int l1), some (.int l2), some (.int (l3 + nI 1)), some (.int l4)]) (by decide +kernel) (by decide) rfl rfl rfl ?_
        refine ex_iinc (pc := 36) (i := 4) (k := 1) (v := l4 + nI 1) (lo2 := [some (.ref 51), some (.int l1), some (.int l2), some (.int (l3 + nI 1)), some (.int (l4 + nI 1))]) (by decide +kernel) (by decide) rfl rfl rfl ?_
        refine ex_goto (pc := 39) (off := -34) (tgt := 5) (by decide +kernel) (by decide) ?_
        exact h
theorem k_Fair_hoursToMarket_0 {d bc bs : Nat} {l1 : Int32} {l2 : Int32} {M : Mem} {Φ : Option Value → Mem → Prop} (hF : Fx M) (h : Ex (d + 1) m_Fair_hoursToMarket bc bs 6 [some (.ref 51), some (.int l1), some (.int l2), some (.int (nI 99)), some (.int (nI 0))] [] M Φ) : Ex (d + 1) m_Fair_hoursToMarket bc bs 0 [some (.ref 51), some (.int l1), some (.int l2), none, none] [] M Φ := by
  refine ex_bipush (pc := 0) (k := 99) (v := nI 99) (by decide +kernel) (by decide) ?_
  refine ex_istore_n (pc := 2) (k := 3) (lo2 := [some (.ref 51), some (.int l1), some (.int l2), some (.int (nI 99)), none]) (by decide +kernel) (by decide) rfl ?_
  refine ex_iconst (pc := 3) (k := 0) (v := nI 0) (by decide +kernel) (by decide) ?_
  refine ex_istore (pc := 4) (k := 4) (lo2 := [some (.ref 51), some (.int l1), some (.int l2), some (.int (nI 99)), some (.int (nI 0))]) (by decide +kernel) (by decide) rfl ?_
  exact h
theorem k_Fair_hoursToMarket_6 {d bc bs : Nat} {l1 : Int32} {l2 : Int32} {l3 : Int32} {l4 : Int32} {M : Mem} {Φ : Option Value → Mem → Prop} (hF : Fx M) (h : ((mi M 1 8) ≤ l4 → Φ (some (.int l3)) M) ∧ (¬ (mi M 1 8) ≤ l4 → (l4 = l1 → Ex (d + 1) m_Fair_hoursToMarket bc bs 6 [some (.ref 51), some (.int l1), some (.int l2), some (.int l3), some (.int (l4 + nI 1))] [] M Φ) ∧ (¬ l4 = l1 → Con d m_Fair_isAt 0 0 [.ref 51, .int l4, .int l2] M (PB fun r1 M1 => Fx M1 ∧ (r1 = false → Ex (d + 1) m_Fair_hoursToMarket bc bs 6 [some (.ref 51), some (.int l1), some (.int l2), some (.int l3), some (.int (l4 + nI 1))] [] M1 Φ) ∧ (r1 = true → Con d m_Land_hoursBetween 0 0 [.ref 1, .int l1, .int l4] M1 (PI fun r2 M2 => Fx M2 ∧ Ex (d + 1) m_Fair_hoursToMarket bc bs 6 [some (.ref 51), some (.int l1), some (.int l2), some (.int (if r2 < l3 then r2 else l3)), some (.int (l4 + nI 1))] [] M2 Φ)))))) : Ex (d + 1) m_Fair_hoursToMarket bc bs 6 [some (.ref 51), some (.int l1), some (.int l2), some (.int l3), some (.int l4)] [] M Φ := by
  refine ex_iload (pc := 6) (k := 4) (by decide +kernel) rfl ?_
  refine ex_aload_n (pc := 8) (k := 0) (by decide +kernel) rfl ?_
  refine ex_getR (pc := 9) (a := 1) (by decide +kernel) lf_Fair_19 (hF.s (j := 51) rfl) (hF.r (j := 51) (k := 0) rfl rfl) ?_
  refine ey_getI (pc := 12) (v := mi M 1 8) (by decide +kernel) lf_Fair_27 (hF.s (j := 1) rfl) rfl ?_
  refine ex_icmp_ge (pc := 15) (off := 40) (tgt := 55) (by decide +kernel) (by decide) (fun hc => ?_) (fun hc => ?_)
  · replace h := h.1 hc
    refine ex_iload_n (pc := 55) (k := 3) (by decide +kernel) rfl ?_
    exact ex_ireturn (pc := 56) (by decide +kernel) rfl rfl h
  · replace h := h.2 hc
    refine ex_iload (pc := 18) (k := 4) (by decide +kernel) rfl ?_
    refine ex_iload_n (pc := 20) (k := 1) (by decide +kernel) rfl ?_
    refine ex_icmp_eq (pc := 21) (off := 28) (tgt := 49) (by decide +kernel) (by decide) (fun hc => ?_) (fun hc => ?_)
    · replace h := h.1 hc
      refine ex_iinc (pc := 49) (i := 4) (k := 1) (v := l4 + nI 1) (lo2 := [some (.ref 51), some (.int l1), some (.int l2), some (.int l3), some (.int (l4 + nI 1))]) (by decide +kernel) (by decide) rfl rfl rfl ?_
      refine ex_goto (pc := 52) (off := -46) (tgt := 6) (by decide +kernel) (by decide) ?_
      exact h
    · replace h := h.2 hc
      refine ex_aload_n (pc := 24) (k := 0) (by decide +kernel) rfl ?_
      refine ex_iload (pc := 25) (k := 4) (by decide +kernel) rfl ?_
      refine ex_iload_n (pc := 27) (k := 2) (by decide +kernel) rfl ?_
      refine ex_callV (pc := 28) (as := [.int l4, .int l2]) (by decide +kernel) F_Fair_isAt (in_t4 (i := 1) rfl rfl) (hF.s (j := 51) rfl) rfl (by decide) rfl rfl (Nat.le_of_ble_eq_true rfl) (Nat.lt_succ_self _) ⟨Nat.zero_le _, Nat.zero_le _⟩ (KC_B (Con.mono h ?_))
      intro o M1 ⟨r1, e9, hF1, h⟩
      refine ⟨r1, e9, ?_⟩
      refine ey_ifeqB (pc := 31) (off := 18) (tgt := 49) (by decide +kernel) (by decide) (fun hc => ?_) (fun hc => ?_)
      · replace h := h.1 hc
        refine ex_iinc (pc := 49) (i := 4) (k := 1) (v := l4 + nI 1) (lo2 := [some (.ref 51), some (.int l1), some (.int l2), some (.int l3), some (.int (l4 + nI 1))]) (by decide +kernel) (by decide) rfl rfl rfl ?_
        refine ex_goto (pc := 52) (off := -46) (tgt := 6) (by decide +kernel) (by decide) ?_
        exact h
      · replace h := h.2 hc
        refine ex_iload_n (pc := 34) (k := 3) (by decide +kernel) rfl ?_
        refine ex_aload_n (pc := 35) (k := 0) (by decide +kernel) rfl ?_
        refine ex_getR (pc := 36) (a := 1) (by decide +kernel) lf_Fair_19 (hF1.s (j := 51) rfl) (hF1.r (j := 51) (k := 0) rfl rfl) ?_
        refine ex_iload_n (pc := 39) (k := 1) (by decide +kernel) rfl ?_
        refine ex_iload (pc := 40) (k := 4) (by decide +kernel) rfl ?_
        refine ex_callV (pc := 42) (as := [.int l1, .int l4]) (by decide +kernel) F_Land_hoursBetween (in_t4 (i := 30) rfl rfl) (hF1.s (j := 1) rfl) rfl (by decide) rfl rfl (Nat.le_of_ble_eq_true rfl) (Nat.lt_succ_self _) ⟨Nat.zero_le _, Nat.zero_le _⟩ (KC_I (Con.mono h ?_))
        intro o M2 ⟨r2, e9, hF2, h⟩
        refine ⟨r2, e9, ?_⟩
        refine ex_min (pc := 45) (by decide +kernel) (in_t4 (i := 31) rfl rfl) (Nat.le_of_ble_eq_true rfl) (Nat.succ_le_succ (Nat.zero_le _)) ?_
        refine ex_istore_n (pc := 48) (k := 3) (lo2 := [some (.ref 51), some (.int l1), some (.int l2), some (.int (if r2 < l3 then r2 else l3)), some (.int l4)]) (by decide +kernel) (by decide) rfl ?_
        refine ex_iinc (pc := 49) (i := 4) (k := 1) (v := l4 + nI 1) (lo2 := [some (.ref 51), some (.int l1), some (.int l2), some (.int (if r2 < l3 then r2 else l3)), some (.int (l4 + nI 1))]) (by decide +kernel) (by decide) rfl rfl rfl ?_
        refine ex_goto (pc := 52) (off := -46) (tgt := 6) (by decide +kernel) (by decide) ?_
        exact h
theorem k_Ways_suppose_0 {d bc bs : Nat} {l1 : Int32} {M : Mem} {Φ : Option Value → Mem → Prop} (hF : Fx M) (h : Con d m_Arrays_fill 0 0 [.ref 59, .int (nI 0)] (wi M 58 2 l1) (PV fun M1 => Fx M1 ∧ Ex (d + 1) m_Ways_suppose bc bs 15 [some (.ref 58), some (.int l1), some (.int (nI 0)), none] [] M1 Φ)) : Ex (d + 1) m_Ways_suppose bc bs 0 [some (.ref 58), some (.int l1), none, none] [] M Φ := by
  refine ex_aload_n (pc := 0) (k := 0) (by decide +kernel) rfl ?_
  refine ex_iload_n (pc := 1) (k := 1) (by decide +kernel) rfl ?_
  refine ex_putI (pc := 2) (index := 9) (ci := 10) (k := 2) (fin := false) (by decide +kernel) ⟨_, _, _, _, cf_Ways, by decide, in_t1 (i := 199) rfl rfl, rfl, (fun h => by cases h), rfl, rfl⟩ rfl (fun h => by cases h) (hF.s (j := 58) rfl) ?_
  refine ex_aload_n (pc := 5) (k := 0) (by decide +kernel) rfl ?_
  refine ex_getR (pc := 6) (a := 59) (by decide +kernel) lf_Ways_15 (hF.s (j := 58) rfl) (hF.r (j := 58) (k := 3) rfl rfl) ?_
  refine ex_iconst (pc := 9) (k := 0) (v := nI 0) (by decide +kernel) (by decide) ?_
  refine ex_callS (pc := 10) (as := [.ref 59, .int (nI 0)]) (by decide +kernel) F_Arrays_fill (in_t4 (i := 59) rfl rfl) rfl rfl (Nat.le_of_ble_eq_true rfl) (Nat.lt_succ_self _) ⟨Nat.zero_le _, Nat.zero_le _⟩ (KC_V (Con.mono h ?_))
  intro o M1 ⟨e9, hF1, h⟩
  refine ⟨e9, ?_⟩
  refine ex_iconst (pc := 13) (k := 0) (v := nI 0) (by decide +kernel) (by decide) ?_
  refine ex_istore_n (pc := 14) (k := 2) (lo2 := [some (.ref 58), some (.int l1), some (.int (nI 0)), none]) (by decide +kernel) (by decide) rfl ?_
  exact h
theorem k_Ways_suppose_15 {d bc bs : Nat} {l1 : Int32} {l2 : Int32} {M : Mem} {Φ : Option Value → Mem → Prop} (hF : Fx M) (h : ((mi M 1 8) ≤ l2 → Φ none M) ∧ (¬ (mi M 1 8) ≤ l2 → Ex (d + 1) m_Ways_suppose bc bs 30 [some (.ref 58), some (.int l1), some (.int l2), some (.int (l2 + (nI 1)))] [] M Φ)) : Ex (d + 1) m_Ways_suppose bc bs 15 [some (.ref 58), some (.int l1), some (.int l2), none] [] M Φ := by
  refine ex_iload_n (pc := 15) (k := 2) (by decide +kernel) rfl ?_
  refine ex_aload_n (pc := 16) (k := 0) (by decide +kernel) rfl ?_
  refine ex_getR (pc := 17) (a := 1) (by decide +kernel) lf_Ways_35 (hF.s (j := 58) rfl) (hF.r (j := 58) (k := 0) rfl rfl) ?_
  refine ey_getI (pc := 20) (v := mi M 1 8) (by decide +kernel) lf_Ways_49 (hF.s (j := 1) rfl) rfl ?_
  refine ex_icmp_ge (pc := 23) (off := 58) (tgt := 81) (by decide +kernel) (by decide) (fun hc => ?_) (fun hc => ?_)
  · replace h := h.1 hc
    exact ex_return (pc := 81) (by decide +kernel) rfl h
  · replace h := h.2 hc
    refine ex_iload_n (pc := 26) (k := 2) (by decide +kernel) rfl ?_
    refine ex_iconst (pc := 27) (k := 1) (v := nI 1) (by decide +kernel) (by decide) ?_
    refine ex_iadd (pc := 28) (by decide +kernel) ?_
    refine ex_istore_n (pc := 29) (k := 3) (lo2 := [some (.ref 58), some (.int l1), some (.int l2), some (.int (l2 + (nI 1)))]) (by decide +kernel) (by decide) rfl ?_
    exact h
theorem k_Ways_suppose_30 {d bc bs : Nat} {l1 : Int32} {l2 : Int32} {l3 : Int32} {M : Mem} {Φ : Option Value → Mem → Prop} (hF : Fx M) (h : ((mi M 1 8) ≤ l3 → Ex (d + 1) m_Ways_suppose bc bs 15 [some (.ref 58), some (.int l1), some (.int (l2 + nI 1)), none] [] M Φ) ∧ (¬ (mi M 1 8) ≤ l3 → Con d m_Law_nearSays 0 0 [.ref 46, .int l2, .int l3, .int (mi M 58 2)] M (PI fun r1 M1 => Fx M1 ∧ (r1 = 0 → Ex (d + 1) m_Ways_suppose bc bs 30 [some (.ref 58), some (.int l1), some (.int l2), some (.int (l3 + nI 1))] [] M1 Φ) ∧ (¬ r1 = 0 → vp_in l3 6 ∧ vp_in l3 6 ∧ Ex (d + 1) m_Ways_suppose bc bs 30 [some (.ref 58), some (.int l1), some (.int l2), some (.int (l3 + nI 1))] [] (wi M1 59 l3.toNatClampNeg ((mi M1 59 l3.toNatClampNeg) ||| ((nI 1) <<< (l2 &&& 31)))) Φ)))) : Ex (d + 1) m_Ways_suppose bc bs 30 [some (.ref 58), some (.int l1), some (.int l2), some (.int l3)] [] M Φ := by
  refine ex_iload_n (pc := 30) (k := 3) (by decide +kernel) rfl ?_
  refine ex_aload_n (pc := 31) (k := 0) (by decide +kernel) rfl ?_
  refine ex_getR (pc := 32) (a := 1) (by decide +kernel) lf_Ways_35 (hF.s (j := 58) rfl) (hF.r (j := 58) (k := 0) rfl rfl) ?_
  refine ey_getI (pc := 35) (v := mi M 1 8) (by decide +kernel) lf_Ways_49 (hF.s (j := 1) rfl) rfl ?_
  refine ex_icmp_ge (pc := 38) (off := 37) (tgt := 75) (by decide +kernel) (by decide) (fun hc => ?_) (fun hc => ?_)
  · replace h := h.1 hc
    refine ex_iinc (pc := 75) (i := 2) (k := 1) (v := l2 + nI 1) (lo2 := [some (.ref 58), some (.int l1), some (.int (l2 + nI 1)), some (.int l3)]) (by decide +kernel) (by decide) rfl rfl rfl ?_
    refine ex_goto (pc := 78) (off := -63) (tgt := 15) (by decide +kernel) (by decide) ?_
    exact Ex.msk [true, true, true, false] h
  · replace h := h.2 hc
    refine ex_aload_n (pc := 41) (k := 0) (by decide +kernel) rfl ?_
    refine ex_getR (pc := 42) (a := 46) (by decide +kernel) lf_Ways_39 (hF.s (j := 58) rfl) (hF.r (j := 58) (k := 1) rfl rfl) ?_
    refine ex_iload_n (pc := 45) (k := 2) (by decide +kernel) rfl ?_
    refine ex_iload_n (pc := 46) (k := 3) (by decide +kernel) rfl ?_
    refine ex_aload_n (pc := 47) (k := 0) (by decide +kernel) rfl ?_
    refine ey_getI (pc := 48) (v := mi M 58 2) (by decide +kernel) lf_Ways_9 (hF.s (j := 58) rfl) rfl ?_
    refine ex_callV (pc := 51) (as := [.int l2, .int l3, .int (mi M 58 2)]) (by decide +kernel) F_Law_nearSays (in_t4 (i := 62) rfl rfl) (hF.s (j := 46) rfl) rfl (by decide) rfl rfl (Nat.le_of_ble_eq_true rfl) (Nat.lt_succ_self _) ⟨Nat.zero_le _, Nat.zero_le _⟩ (KC_I (Con.mono h ?_))
    intro o M1 ⟨r1, e9, hF1, h⟩
    refine ⟨r1, e9, ?_⟩
    refine ex_if_eq (pc := 54) (off := 15) (tgt := 69) (by decide +kernel) (by decide) (fun hc => ?_) (fun hc => ?_)
    · replace h := h.1 hc
      refine ex_iinc (pc := 69) (i := 3) (k := 1) (v := l3 + nI 1) (lo2 := [some (.ref 58), some (.int l1), some (.int l2), some (.int (l3 + nI 1))]) (by decide +kernel) (by decide) rfl rfl rfl ?_
      refine ex_goto (pc := 72) (off := -42) (tgt := 30) (by decide +kernel) (by decide) ?_
      exact h
    · replace h := h.2 hc
      refine ex_aload_n (pc := 57) (k := 0) (by decide +kernel) rfl ?_
      refine ex_getR (pc := 58) (a := 59) (by decide +kernel) lf_Ways_15 (hF1.s (j := 58) rfl) (hF1.r (j := 58) (k := 3) rfl rfl) ?_
      refine ex_iload_n (pc := 61) (k := 3) (by decide +kernel) rfl ?_
      refine ex_dup2 (pc := 62) (by decide +kernel) rfl rfl ?_
      obtain ⟨g1, h⟩ := h
      refine ey_iald (pc := 63) (v := mi M1 59 l3.toNatClampNeg) (by decide +kernel) (hF1.s (j := 59) rfl) g1 rfl rfl ?_
      refine ex_iconst (pc := 64) (k := 1) (v := nI 1) (by decide +kernel) (by decide) ?_
      refine ex_iload_n (pc := 65) (k := 2) (by decide +kernel) rfl ?_
      refine ex_ishl (pc := 66) (by decide +kernel) ?_
      refine ex_ior (pc := 67) (by decide +kernel) ?_
      obtain ⟨g2, h⟩ := h
      refine ey_iast (pc := 68) (by decide +kernel) (hF1.s (j := 59) rfl) g2 rfl ?_
      refine ex_iinc (pc := 69) (i := 3) (k := 1) (v := l3 + nI 1) (lo2 := [some (.ref 58), some (.int l1), some (.int l2), some (.int (l3 + nI 1))]) (by decide +kernel) (by decide) rfl rfl rfl ?_
      refine ex_goto (pc := 72) (off := -42) (tgt := 30) (by decide +kernel) (by decide) ?_
      exact h
theorem k_Ways_begin_0 {d bc bs : Nat} {l1 : Int32} {M : Mem} {Φ : Option Value → Mem → Prop} (hF : Fx M) (h : Ex (d + 1) m_Ways_begin bc bs 7 [some (.ref 58), some (.int l1), some (.int (nI 0))] [] (wi M 58 5 (nI 0)) Φ) : Ex (d + 1) m_Ways_begin bc bs 0 [some (.ref 58), some (.int l1), none] [] M Φ := by
  refine ex_aload_n (pc := 0) (k := 0) (by decide +kernel) rfl ?_
  refine ex_iconst (pc := 1) (k := 0) (v := nI 0) (by decide +kernel) (by decide) ?_
  refine ex_putI (pc := 2) (index := 22) (ci := 10) (k := 5) (fin := false) (by decide +kernel) ⟨_, _, _, _, cf_Ways, by decide, in_t1 (i := 202) rfl rfl, rfl, (fun h => by cases h), rfl, rfl⟩ rfl (fun h => by cases h) (hF.s (j := 58) rfl) ?_
  refine ex_iconst (pc := 5) (k := 0) (v := nI 0) (by decide +kernel) (by decide) ?_
  refine ex_istore_n (pc := 6) (k := 2) (lo2 := [some (.ref 58), some (.int l1), some (.int (nI 0))]) (by decide +kernel) (by decide) rfl ?_
  exact h
theorem k_Ways_begin_7 {d bc bs : Nat} {l1 : Int32} {l2 : Int32} {M : Mem} {Φ : Option Value → Mem → Prop} (hF : Fx M) (h : ((mi M 1 8) ≤ l2 → Φ none (wi M 58 8 (nI 0))) ∧ (¬ (mi M 1 8) ≤ l2 → Con d m_MD_hasBit 0 0 [.int l1, .int l2] M (PB fun r1 M1 => Fx M1 ∧ (r1 = false → Ex (d + 1) m_Ways_begin bc bs 7 [some (.ref 58), some (.int l1), some (.int (l2 + nI 1))] [] M1 Φ) ∧ (r1 = true → vp_in (mi M1 58 5) 6 ∧ Ex (d + 1) m_Ways_begin bc bs 7 [some (.ref 58), some (.int l1), some (.int (l2 + nI 1))] [] (wi (wi M1 60 ((mi M1 58 5).toNatClampNeg) l2) 58 5 ((mi M1 58 5) + (nI 1))) Φ)))) : Ex (d + 1) m_Ways_begin bc bs 7 [some (.ref 58), some (.int l1), some (.int l2)] [] M Φ := by
  refine ex_iload_n (pc := 7) (k := 2) (by decide +kernel) rfl ?_
  refine ex_aload_n (pc := 8) (k := 0) (by decide +kernel) rfl ?_
  refine ex_getR (pc := 9) (a := 1) (by decide +kernel) lf_Ways_35 (hF.s (j := 58) rfl) (hF.r (j := 58) (k := 0) rfl rfl) ?_
  refine ey_getI (pc := 12) (v := mi M 1 8) (by decide +kernel) lf_Ways_49 (hF.s (j := 1) rfl) rfl ?_
  refine ex_icmp_ge (pc := 15) (off := 37) (tgt := 52) (by decide +kernel) (by decide) (fun hc => ?_) (fun hc => ?_)
  · replace h := h.1 hc
    refine ex_aload_n (pc := 52) (k := 0) (by decide +kernel) rfl ?_
    refine ex_iconst (pc := 53) (k := 0) (v := nI 0) (by decide +kernel) (by decide) ?_
    refine ex_putI (pc := 54) (index := 31) (ci := 10) (k := 8) (fin := false) (by decide +kernel) ⟨_, _, _, _, cf_Ways, by decide, in_t1 (i := 206) rfl rfl, rfl, (fun h => by cases h), by decide, rfl⟩ rfl (fun h => by cases h) (hF.s (j := 58) rfl) ?_
    exact ex_return (pc := 57) (by decide +kernel) rfl h
  · replace h := h.2 hc
    refine ex_iload_n (pc := 18) (k := 1) (by decide +kernel) rfl ?_
    refine ex_iload_n (pc := 19) (k := 2) (by decide +kernel) rfl ?_
    refine ex_callSN (pc := 20) (host := "MarketDays") (as := [.int l1, .int l2]) (by decide +kernel) F_MD_hasBit (List.mem_filter.mpr ⟨in_u4 (i := 67) rfl, rfl⟩) rfl rfl (Nat.le_of_ble_eq_true rfl) (Nat.lt_succ_self _) ⟨Nat.zero_le _, Nat.zero_le _⟩ (KC_B (Con.mono h ?_))
    intro o M1 ⟨r1, e9, hF1, h⟩
    refine ⟨r1, e9, ?_⟩
    refine ey_ifeqB (pc := 23) (off := 23) (tgt := 46) (by decide +kernel) (by decide) (fun hc => ?_) (fun hc => ?_)
    · replace h := h.1 hc
      refine ex_iinc (pc := 46) (i := 2) (k := 1) (v := l2 + nI 1) (lo2 := [some (.ref 58), some (.int l1), some (.int (l2 + nI 1))]) (by decide +kernel) (by decide) rfl rfl rfl ?_
      refine ex_goto (pc := 49) (off := -42) (tgt := 7) (by decide +kernel) (by decide) ?_
      exact h
    · replace h := h.2 hc
      refine ex_aload_n (pc := 26) (k := 0) (by decide +kernel) rfl ?_
      refine ex_getR (pc := 27) (a := 60) (by decide +kernel) lf_Ways_19 (hF1.s (j := 58) rfl) (hF1.r (j := 58) (k := 4) rfl rfl) ?_
      refine ex_aload_n (pc := 30) (k := 0) (by decide +kernel) rfl ?_
      refine ey_getI (pc := 31) (v := mi M1 58 5) (by decide +kernel) lf_Ways_22 (hF1.s (j := 58) rfl) rfl ?_
      refine ex_iload_n (pc := 34) (k := 2) (by decide +kernel) rfl ?_
      obtain ⟨g1, h⟩ := h
      refine ey_iast (pc := 35) (by decide +kernel) (hF1.s (j := 60) rfl) g1 rfl ?_
      refine ex_aload_n (pc := 36) (k := 0) (by decide +kernel) rfl ?_
      refine ex_dup (pc := 37) (by decide +kernel) rfl ?_
      refine ey_getI (pc := 38) (v := mi M1 58 5) (by decide +kernel) lf_Ways_22 (hF1.s (j := 58) rfl) rfl ?_
      refine ex_iconst (pc := 41) (k := 1) (v := nI 1) (by decide +kernel) (by decide) ?_
      refine ex_iadd (pc := 42) (by decide +kernel) ?_
      refine ex_putI (pc := 43) (index := 22) (ci := 10) (k := 5) (fin := false) (by decide +kernel) ⟨_, _, _, _, cf_Ways, by decide, in_t1 (i := 202) rfl rfl, rfl, (fun h => by cases h), rfl, rfl⟩ rfl (fun h => by cases h) (hF1.s (j := 58) rfl) ?_
      refine ex_iinc (pc := 46) (i := 2) (k := 1) (v := l2 + nI 1) (lo2 := [some (.ref 58), some (.int l1), some (.int (l2 + nI 1))]) (by decide +kernel) (by decide) rfl rfl rfl ?_
      refine ex_goto (pc := 49) (off := -42) (tgt := 7) (by decide +kernel) (by decide) ?_
      exact h
theorem k_Ways_next_0 {d bc bs : Nat}  {M : Mem} {Φ : Option Value → Mem → Prop} (hF : Fx M) (h : ((mi M 58 8) = 0 → (¬ (mi M 58 8) = 0 → Ex (d + 1) m_Ways_next bc bs 43 [some (.ref 58), some (.int (nI 0)), none, none] [] M Φ) ∧ ((mi M 58 8) = 0 → ((mi M 58 5) ≤ 0 → Ex (d + 1) m_Ways_next bc bs 43 [some (.ref 58), some (.int (nI 0)), none, none] [] M Φ) ∧ (¬ (mi M 58 5) ≤ 0 → Con d m_Ways_openDays 0 0 [.ref 58, .int (nI 0)] M (PI fun r1 M1 => Fx M1 ∧ Ex (d + 1) m_Ways_next bc bs 43 [some (.ref 58), some (.int (nI 0)), none, none] [] (wi M1 61 0 r1) Φ)))) ∧ (¬ (mi M 58 8) = 0 → (¬ (mi M 58 8) = 0 → Ex (d + 1) m_Ways_next bc bs 43 [some (.ref 58), some (.int ((mi M 58 5) - (nI 1))), none, none] [] M Φ) ∧ ((mi M 58 8) = 0 → ((mi M 58 5) ≤ 0 → Ex (d + 1) m_Ways_next bc bs 43 [some (.ref 58), some (.int ((mi M 58 5) - (nI 1))), none, none] [] M Φ) ∧ (¬ (mi M 58 5) ≤ 0 → Con d m_Ways_openDays 0 0 [.ref 58, .int (nI 0)] M (PI fun r2 M2 => Fx M2 ∧ Ex (d + 1) m_Ways_next bc bs 43 [some (.ref 58), some (.int ((mi M 58 5) - (nI 1))), none, none] [] (wi M2 61 0 r2) Φ))))) : Ex (d + 1) m_Ways_next bc bs 0 [some (.ref 58), none, none, none] [] M Φ := by
  refine ex_aload_n (pc := 0) (k := 0) (by decide +kernel) rfl ?_
  refine ey_getI (pc := 1) (v := mi M 58 8) (by decide +kernel) lf_Ways_31 (hF.s (j := 58) rfl) rfl ?_
  refine ex_if_eq (pc := 4) (off := 12) (tgt := 16) (by decide +kernel) (by decide) (fun hc => ?_) (fun hc => ?_)
  · replace h := h.1 hc
    refine ex_iconst (pc := 16) (k := 0) (v := nI 0) (by decide +kernel) (by decide) ?_
    refine ex_istore_n (pc := 17) (k := 1) (lo2 := [some (.ref 58), some (.int (nI 0)), none, none]) (by decide +kernel) (by decide) rfl ?_
    refine ex_aload_n (pc := 18) (k := 0) (by decide +kernel) rfl ?_
    refine ey_getI (pc := 19) (v := mi M 58 8) (by decide +kernel) lf_Ways_31 (hF.s (j := 58) rfl) rfl ?_
    refine ex_if_ne (pc := 22) (off := 21) (tgt := 43) (by decide +kernel) (by decide) (fun hc => ?_) (fun hc => ?_)
    · replace h := h.1 hc
      exact h
    · replace h := h.2 hc
      refine ex_aload_n (pc := 25) (k := 0) (by decide +kernel) rfl ?_
      refine ey_getI (pc := 26) (v := mi M 58 5) (by decide +kernel) lf_Ways_22 (hF.s (j := 58) rfl) rfl ?_
      refine ex_if_le (pc := 29) (off := 14) (tgt := 43) (by decide +kernel) (by decide) (fun hc => ?_) (fun hc => ?_)
      · replace h := h.1 hc
        exact h
      · replace h := h.2 hc
        refine ex_aload_n (pc := 32) (k := 0) (by decide +kernel) rfl ?_
        refine ex_getR (pc := 33) (a := 61) (by decide +kernel) lf_Ways_25 (hF.s (j := 58) rfl) (hF.r (j := 58) (k := 6) rfl rfl) ?_
        refine ex_iconst (pc := 36) (k := 0) (v := nI 0) (by decide +kernel) (by decide) ?_
        refine ex_aload_n (pc := 37) (k := 0) (by decide +kernel) rfl ?_
        refine ex_iconst (pc := 38) (k := 0) (v := nI 0) (by decide +kernel) (by decide) ?_
        refine ex_callV (pc := 39) (as := [.int (nI 0)]) (by decide +kernel) F_Ways_openDays (in_t4 (i := 73) rfl rfl) (hF.s (j := 58) rfl) rfl (by decide) rfl rfl (Nat.le_of_ble_eq_true rfl) (Nat.lt_succ_self _) ⟨Nat.zero_le _, Nat.zero_le _⟩ (KC_I (Con.mono h ?_))
        intro o M1 ⟨r1, e9, hF1, h⟩
        refine ⟨r1, e9, ?_⟩
        refine ey_iast (pc := 42) (by decide +kernel) (hF1.s (j := 61) rfl) (vp_in_nI (by decide) (by decide)) (nI_clamp (by decide)) ?_
        exact h
  · replace h := h.2 hc
    refine ex_aload_n (pc := 7) (k := 0) (by decide +kernel) rfl ?_
    refine ey_getI (pc := 8) (v := mi M 58 5) (by decide +kernel) lf_Ways_22 (hF.s (j := 58) rfl) rfl ?_
    refine ex_iconst (pc := 11) (k := 1) (v := nI 1) (by decide +kernel) (by decide) ?_
    refine ex_isub (pc := 12) (by decide +kernel) ?_
    refine ex_goto (pc := 13) (off := 4) (tgt := 17) (by decide +kernel) (by decide) ?_
    refine ex_istore_n (pc := 17) (k := 1) (lo2 := [some (.ref 58), some (.int ((mi M 58 5) - (nI 1))), none, none]) (by decide +kernel) (by decide) rfl ?_
    refine ex_aload_n (pc := 18) (k := 0) (by decide +kernel) rfl ?_
    refine ey_getI (pc := 19) (v := mi M 58 8) (by decide +kernel) lf_Ways_31 (hF.s (j := 58) rfl) rfl ?_
    refine ex_if_ne (pc := 22) (off := 21) (tgt := 43) (by decide +kernel) (by decide) (fun hc => ?_) (fun hc => ?_)
    · replace h := h.1 hc
      exact h
    · replace h := h.2 hc
      refine ex_aload_n (pc := 25) (k := 0) (by decide +kernel) rfl ?_
      refine ey_getI (pc := 26) (v := mi M 58 5) (by decide +kernel) lf_Ways_22 (hF.s (j := 58) rfl) rfl ?_
      refine ex_if_le (pc := 29) (off := 14) (tgt := 43) (by decide +kernel) (by decide) (fun hc => ?_) (fun hc => ?_)
      · replace h := h.1 hc
        exact h
      · replace h := h.2 hc
        refine ex_aload_n (pc := 32) (k := 0) (by decide +kernel) rfl ?_
        refine ex_getR (pc := 33) (a := 61) (by decide +kernel) lf_Ways_25 (hF.s (j := 58) rfl) (hF.r (j := 58) (k := 6) rfl rfl) ?_
        refine ex_iconst (pc := 36) (k := 0) (v := nI 0) (by decide +kernel) (by decide) ?_
        refine ex_aload_n (pc := 37) (k := 0) (by decide +kernel) rfl ?_
        refine ex_iconst (pc := 38) (k := 0) (v := nI 0) (by decide +kernel) (by decide) ?_
        refine ex_callV (pc := 39) (as := [.int (nI 0)]) (by decide +kernel) F_Ways_openDays (in_t4 (i := 73) rfl rfl) (hF.s (j := 58) rfl) rfl (by decide) rfl rfl (Nat.le_of_ble_eq_true rfl) (Nat.lt_succ_self _) ⟨Nat.zero_le _, Nat.zero_le _⟩ (KC_I (Con.mono h ?_))
        intro o M2 ⟨r2, e9, hF2, h⟩
        refine ⟨r2, e9, ?_⟩
        refine ey_iast (pc := 42) (by decide +kernel) (hF2.s (j := 61) rfl) (vp_in_nI (by decide) (by decide)) (nI_clamp (by decide)) ?_
        exact h
theorem k_Ways_next_43 {d bc bs : Nat} {l1 : Int32} {M : Mem} {Φ : Option Value → Mem → Prop} (hF : Fx M) (h : Ex (d + 1) m_Ways_next bc bs 50 [some (.ref 58), some (.int l1), some (.int (nI 0)), none] [] (wi M 58 8 (nI 1)) Φ) : Ex (d + 1) m_Ways_next bc bs 43 [some (.ref 58), some (.int l1), none, none] [] M Φ := by
  refine ex_aload_n (pc := 43) (k := 0) (by decide +kernel) rfl ?_
  refine ex_iconst (pc := 44) (k := 1) (v := nI 1) (by decide +kernel) (by decide) ?_
  refine ex_putI (pc := 45) (index := 31) (ci := 10) (k := 8) (fin := false) (by decide +kernel) ⟨_, _, _, _, cf_Ways, by decide, in_t1 (i := 206) rfl rfl, rfl, (fun h => by cases h), by decide, rfl⟩ rfl (fun h => by cases h) (hF.s (j := 58) rfl) ?_
  refine ex_iconst (pc := 48) (k := 0) (v := nI 0) (by decide +kernel) (by decide) ?_
  refine ex_istore_n (pc := 49) (k := 2) (lo2 := [some (.ref 58), some (.int l1), some (.int (nI 0)), none]) (by decide +kernel) (by decide) rfl ?_
  exact h
theorem k_Ways_next_50 {d bc bs : Nat} {l1 : Int32} {l2 : Int32} {M : Mem} {Φ : Option Value → Mem → Prop} (hF : Fx M) (h : ((nI 1000000) ≤ l2 → Ex (d + 1) m_Ways_next bc bs 153 [some (.ref 58), some (.int l1), some (.int l2), none] [] M Φ) ∧ (¬ (nI 1000000) ≤ l2 → (l1 < 0 → Ex (d + 1) m_Ways_next bc bs 153 [some (.ref 58), some (.int l1), some (.int l2), none] [] M Φ) ∧ (¬ l1 < 0 → ((mi M 58 5) ≤ l1 → Ex (d + 1) m_Ways_next bc bs 153 [some (.ref 58), some (.int l1), some (.int l2), none] [] M Φ) ∧ (¬ (mi M 58 5) ≤ l1 → vp_in l1 6 ∧ (¬ (mi M 61 l1.toNatClampNeg) = 0 → vp_in l1 6 ∧ vp_in l1 6 ∧ vp_in l1 6 ∧ vp_in l1 6 ∧ vp_in l1 6 ∧ Con d m_Integer_bitCount 0 0 [.int (((mi M 61 l1.toNatClampNeg) &&& (-(mi M 61 l1.toNatClampNeg))) - (nI 1))] (wi M 61 l1.toNatClampNeg ((mi M 61 l1.toNatClampNeg) - ((mi M 61 l1.toNatClampNeg) &&& (-(mi M 61 l1.toNatClampNeg))))) (PI fun r1 M1 => Fx M1 ∧ vp_in (mi M 60 l1.toNatClampNeg) 6 ∧ ((mi M1 58 5) ≤ (l1 + nI 1) → Ex (d + 1) m_Ways_next bc bs 50 [some (.ref 58), some (.int (l1 + nI 1)), some (.int (l2 + nI 1)), none] [] (wi M1 62 ((mi M 60 l1.toNatClampNeg).toNatClampNeg) r1) Φ) ∧ (¬ (mi M1 58 5) ≤ (l1 + nI 1) → Con d m_Ways_openDays 0 0 [.ref 58, .int (l1 + nI 1)] (wi M1 62 ((mi M 60 l1.toNatClampNeg).toNatClampNeg) r1) (PI fun r2 M2 => Fx M2 ∧ vp_in (l1 + nI 1) 6 ∧ Ex (d + 1) m_Ways_next bc bs 50 [some (.ref 58), some (.int (l1 + nI 1)), some (.int (l2 + nI 1)), none] [] (wi M2 61 ((l1 + nI 1).toNatClampNeg) r2) Φ)))) ∧ ((mi M 61 l1.toNatClampNeg) = 0 → Ex (d + 1) m_Ways_next bc bs 50 [some (.ref 58), some (.int (l1 + (-1))), some (.int (l2 + nI 1)), none] [] M Φ))))) : Ex (d + 1) m_Ways_next bc bs 50 [some (.ref 58), some (.int l1), some (.int l2), none] [] M Φ := by
  refine ex_iload_n (pc := 50) (k := 2) (by decide +kernel) rfl ?_
  refine ex_ldc (pc := 51) (v := nI 1000000) (by decide +kernel) (in_t4 (i := 79) rfl rfl) ?_
  refine ex_icmp_ge (pc := 53) (off := 100) (tgt := 153) (by decide +kernel) (by decide) (fun hc => ?_) (fun hc => ?_)
  · replace h := h.1 hc
    exact h
  · replace h := h.2 hc
    refine ex_iload_n (pc := 56) (k := 1) (by decide +kernel) rfl ?_
    refine ex_if_lt (pc := 57) (off := 96) (tgt := 153) (by decide +kernel) (by decide) (fun hc => ?_) (fun hc => ?_)
    · replace h := h.1 hc
      exact h
    · replace h := h.2 hc
      refine ex_iload_n (pc := 60) (k := 1) (by decide +kernel) rfl ?_
      refine ex_aload_n (pc := 61) (k := 0) (by decide +kernel) rfl ?_
      refine ey_getI (pc := 62) (v := mi M 58 5) (by decide +kernel) lf_Ways_22 (hF.s (j := 58) rfl) rfl ?_
      refine ex_icmp_ge (pc := 65) (off := 88) (tgt := 153) (by decide +kernel) (by decide) (fun hc => ?_) (fun hc => ?_)
      · replace h := h.1 hc
        exact h
      · replace h := h.2 hc
        refine ex_aload_n (pc := 68) (k := 0) (by decide +kernel) rfl ?_
        refine ex_getR (pc := 69) (a := 61) (by decide +kernel) lf_Ways_25 (hF.s (j := 58) rfl) (hF.r (j := 58) (k := 6) rfl rfl) ?_
        refine ex_iload_n (pc := 72) (k := 1) (by decide +kernel) rfl ?_
        obtain ⟨g1, h⟩ := h
        refine ey_iald (pc := 73) (v := mi M 61 l1.toNatClampNeg) (by decide +kernel) (hF.s (j := 61) rfl) g1 rfl rfl ?_
        refine ex_if_ne (pc := 74) (off := 9) (tgt := 83) (by decide +kernel) (by decide) (fun hc => ?_) (fun hc => ?_)
        · replace h := h.1 hc
          refine ex_aload_n (pc := 83) (k := 0) (by decide +kernel) rfl ?_
          refine ex_getR (pc := 84) (a := 61) (by decide +kernel) lf_Ways_25 (hF.s (j := 58) rfl) (hF.r (j := 58) (k := 6) rfl rfl) ?_
          refine ex_iload_n (pc := 87) (k := 1) (by decide +kernel) rfl ?_
          obtain ⟨g2, h⟩ := h
          refine ey_iald (pc := 88) (v := mi M 61 l1.toNatClampNeg) (by decide +kernel) (hF.s (j := 61) rfl) g2 rfl rfl ?_
          refine ex_aload_n (pc := 89) (k := 0) (by decide +kernel) rfl ?_
          refine ex_getR (pc := 90) (a := 61) (by decide +kernel) lf_Ways_25 (hF.s (j := 58) rfl) (hF.r (j := 58) (k := 6) rfl rfl) ?_
          refine ex_iload_n (pc := 93) (k := 1) (by decide +kernel) rfl ?_
          obtain ⟨g3, h⟩ := h
          refine ey_iald (pc := 94) (v := mi M 61 l1.toNatClampNeg) (by decide +kernel) (hF.s (j := 61) rfl) g3 rfl rfl ?_
          refine ex_ineg (pc := 95) (by decide +kernel) ?_
          refine ex_iand (pc := 96) (by decide +kernel) ?_
          refine ex_istore_n (pc := 97) (k := 3) (lo2 := [some (.ref 58), some (.int l1), some (.int l2), some (.int ((mi M 61 l1.toNatClampNeg) &&& (-(mi M 61 l1.toNatClampNeg))))]) (by decide +kernel) (by decide) rfl ?_
          refine ex_aload_n (pc := 98) (k := 0) (by decide +kernel) rfl ?_
          refine ex_getR (pc := 99) (a := 61) (by decide +kernel) lf_Ways_25 (hF.s (j := 58) rfl) (hF.r (j := 58) (k := 6) rfl rfl) ?_
          refine ex_iload_n (pc := 102) (k := 1) (by decide +kernel) rfl ?_
          refine ex_dup2 (pc := 103) (by decide +kernel) rfl rfl ?_
          obtain ⟨g4, h⟩ := h
          refine ey_iald (pc := 104) (v := mi M 61 l1.toNatClampNeg) (by decide +kernel) (hF.s (j := 61) rfl) g4 rfl rfl ?_
          refine ex_iload_n (pc := 105) (k := 3) (by decide +kernel) rfl ?_
          refine ex_isub (pc := 106) (by decide +kernel) ?_
          obtain ⟨g5, h⟩ := h
          refine ey_iast (pc := 107) (by decide +kernel) (hF.s (j := 61) rfl) g5 rfl ?_
          refine ex_aload_n (pc := 108) (k := 0) (by decide +kernel) rfl ?_
          refine ex_getR (pc := 109) (a := 62) (by decide +kernel) lf_Ways_28 (hF.s (j := 58) rfl) (hF.r (j := 58) (k := 7) rfl rfl) ?_
          refine ex_aload_n (pc := 112) (k := 0) (by decide +kernel) rfl ?_
          refine ex_getR (pc := 113) (a := 60) (by decide +kernel) lf_Ways_19 (hF.s (j := 58) rfl) (hF.r (j := 58) (k := 4) rfl rfl) ?_
          refine ex_iload_n (pc := 116) (k := 1) (by decide +kernel) rfl ?_
          obtain ⟨g6, h⟩ := h
          refine ey_iald (pc := 117) (v := mi M 60 l1.toNatClampNeg) (by decide +kernel) (hF.s (j := 60) rfl) g6 rfl rfl ?_
          refine ex_iload_n (pc := 118) (k := 3) (by decide +kernel) rfl ?_
          refine ex_iconst (pc := 119) (k := 1) (v := nI 1) (by decide +kernel) (by decide) ?_
          refine ex_isub (pc := 120) (by decide +kernel) ?_
          refine ex_callS (pc := 121) (as := [.int (((mi M 61 l1.toNatClampNeg) &&& (-(mi M 61 l1.toNatClampNeg))) - (nI 1))]) (by decide +kernel) F_Integer_bitCount (in_t4 (i := 80) rfl rfl) rfl rfl (Nat.le_of_ble_eq_true rfl) (Nat.lt_succ_self _) ⟨Nat.zero_le _, Nat.zero_le _⟩ (KC_I (Con.mono h ?_))
          intro o M1 ⟨r1, e9, hF1, h⟩
          refine ⟨r1, e9, ?_⟩
          obtain ⟨g7, h⟩ := h
          refine ey_iast (pc := 124) (by decide +kernel) (hF1.s (j := 62) rfl) g7 rfl ?_
          refine ex_iinc (pc := 125) (i := 1) (k := 1) (v := l1 + nI 1) (lo2 := [some (.ref 58), some (.int (l1 + nI 1)), some (.int l2), some (.int ((mi M 61 l1.toNatClampNeg) &&& (-(mi M 61 l1.toNatClampNeg))))]) (by decide +kernel) (by decide) rfl rfl rfl ?_
          refine ex_iload_n (pc := 128) (k := 1) (by decide +kernel) rfl ?_
          refine ex_aload_n (pc := 129) (k := 0) (by decide +kernel) rfl ?_
          refine ey_getI (pc := 130) (v := mi M1 58 5) (by decide +kernel) lf_Ways_22 (hF1.s (j := 58) rfl) rfl ?_
          refine ex_icmp_ge (pc := 133) (off := 14) (tgt := 147) (by decide +kernel) (by decide) (fun hc => ?_) (fun hc => ?_)
          · replace h := h.1 hc
            refine ex_iinc (pc := 147) (i := 2) (k := 1) (v := l2 + nI 1) (lo2 := [some (.ref 58), some (.int (l1 + nI 1)), some (.int (l2 + nI 1)), some (.int ((mi M 61 l1.toNatClampNeg) &&& (-(mi M 61 l1.toNatClampNeg))))]) (by decide +kernel) (by decide) rfl rfl rfl ?_
            refine ex_goto (pc := 150) (off := -100) (tgt := 50) (by decide +kernel) (by decide) ?_
            exact Ex.msk [true, true, true, false] h
          · replace h := h.2 hc
            refine ex_aload_n (pc := 136) (k := 0) (by decide +kernel) rfl ?_
            refine ex_getR (pc := 137) (a := 61) (by decide +kernel) lf_Ways_25 (hF1.s (j := 58) rfl) (hF1.r (j := 58) (k := 6) rfl rfl) ?_
            refine ex_iload_n (pc := 140) (k := 1) (by decide +kernel) rfl ?_
            refine ex_aload_n (pc := 141) (k := 0) (by decide +kernel) rfl ?_
            refine ex_iload_n (pc := 142) (k := 1) (by decide +kernel) rfl ?_
            refine ex_callV (pc := 143) (as := [.int (l1 + nI 1)]) (by decide +kernel) F_Ways_openDays (in_t4 (i := 73) rfl rfl) (hF1.s (j := 58) rfl) rfl (by decide) rfl rfl (Nat.le_of_ble_eq_true rfl) (Nat.lt_succ_self _) ⟨Nat.zero_le _, Nat.zero_le _⟩ (KC_I (Con.mono h ?_))
            intro o M2 ⟨r2, e9, hF2, h⟩
            refine ⟨r2, e9, ?_⟩
            obtain ⟨g8, h⟩ := h
            refine ey_iast (pc := 146) (by decide +kernel) (hF2.s (j := 61) rfl) g8 rfl ?_
            refine ex_iinc (pc := 147) (i := 2) (k := 1) (v := l2 + nI 1) (lo2 := [some (.ref 58), some (.int (l1 + nI 1)), some (.int (l2 + nI 1)), some (.int ((mi M 61 l1.toNatClampNeg) &&& (-(mi M 61 l1.toNatClampNeg))))]) (by decide +kernel) (by decide) rfl rfl rfl ?_
            refine ex_goto (pc := 150) (off := -100) (tgt := 50) (by decide +kernel) (by decide) ?_
            exact Ex.msk [true, true, true, false] h
        · replace h := h.2 hc
          refine ex_iinc (pc := 77) (i := 1) (k := -1) (v := l1 + (-1)) (lo2 := [some (.ref 58), some (.int (l1 + (-1))), some (.int l2), none]) (by decide +kernel) (by decide) rfl rfl rfl ?_
          refine ex_goto (pc := 80) (off := 67) (tgt := 147) (by decide +kernel) (by decide) ?_
          refine ex_iinc (pc := 147) (i := 2) (k := 1) (v := l2 + nI 1) (lo2 := [some (.ref 58), some (.int (l1 + (-1))), some (.int (l2 + nI 1)), none]) (by decide +kernel) (by decide) rfl rfl rfl ?_
          refine ex_goto (pc := 150) (off := -100) (tgt := 50) (by decide +kernel) (by decide) ?_
          exact h
theorem k_Ways_next_153 {d bc bs : Nat} {l1 : Int32} {l2 : Int32} {M : Mem} {Φ : Option Value → Mem → Prop} (hF : Fx M) (h : (¬ l1 = (mi M 58 5) → Φ (some (.int (b2i false))) M) ∧ (l1 = (mi M 58 5) → Φ (some (.int (b2i true))) M)) : Ex (d + 1) m_Ways_next bc bs 153 [some (.ref 58), some (.int l1), some (.int l2), none] [] M Φ := by
  refine ex_iload_n (pc := 153) (k := 1) (by decide +kernel) rfl ?_
  refine ex_aload_n (pc := 154) (k := 0) (by decide +kernel) rfl ?_
  refine ey_getI (pc := 155) (v := mi M 58 5) (by decide +kernel) lf_Ways_22 (hF.s (j := 58) rfl) rfl ?_
  refine ex_icmp_ne (pc := 158) (off := 7) (tgt := 165) (by decide +kernel) (by decide) (fun hc => ?_) (fun hc => ?_)
  · replace h := h.1 hc
    refine ex_iconst (pc := 165) (k := 0) (v := nI 0) (by decide +kernel) (by decide) ?_
    exact ex_ireturn (pc := 166) (v := b2i false) (by decide +kernel) rfl (b2i_n _) h
  · replace h := h.2 hc
    refine ex_iconst (pc := 161) (k := 1) (v := nI 1) (by decide +kernel) (by decide) ?_
    refine ex_goto (pc := 162) (off := 4) (tgt := 166) (by decide +kernel) (by decide) ?_
    exact ex_ireturn (pc := 166) (v := b2i true) (by decide +kernel) rfl (b2i_n _) h
theorem k_Ways_openDays_0 {d bc bs : Nat} {l1 : Int32} {M : Mem} {Φ : Option Value → Mem → Prop} (hF : Fx M) (h : vp_in l1 6 ∧ vp_in (mi M 60 l1.toNatClampNeg) 6 ∧ Ex (d + 1) m_Ways_openDays bc bs 29 [some (.ref 58), some (.int l1), some (.int (mi M 60 l1.toNatClampNeg)), some (.int ((mi M 3 ((mi M 60 l1.toNatClampNeg).toNatClampNeg)) &&& (((nI 1) <<< ((mi M 58 2) &&& 31)) - (nI 1)))), some (.int (nI 0)), none, none] [] M Φ) : Ex (d + 1) m_Ways_openDays bc bs 0 [some (.ref 58), some (.int l1), none, none, none, none, none] [] M Φ := by
  refine ex_aload_n (pc := 0) (k := 0) (by decide +kernel) rfl ?_
  refine ex_getR (pc := 1) (a := 60) (by decide +kernel) lf_Ways_19 (hF.s (j := 58) rfl) (hF.r (j := 58) (k := 4) rfl rfl) ?_
  refine ex_iload_n (pc := 4) (k := 1) (by decide +kernel) rfl ?_
  obtain ⟨g1, h⟩ := h
  refine ey_iald (pc := 5) (v := mi M 60 l1.toNatClampNeg) (by decide +kernel) (hF.s (j := 60) rfl) g1 rfl rfl ?_
  refine ex_istore_n (pc := 6) (k := 2) (lo2 := [some (.ref 58), some (.int l1), some (.int (mi M 60 l1.toNatClampNeg)), none, none, none, none]) (by decide +kernel) (by decide) rfl ?_
  refine ex_aload_n (pc := 7) (k := 0) (by decide +kernel) rfl ?_
  refine ex_getR (pc := 8) (a := 1) (by decide +kernel) lf_Ways_35 (hF.s (j := 58) rfl) (hF.r (j := 58) (k := 0) rfl rfl) ?_
  refine ex_getR (pc := 11) (a := 3) (by decide +kernel) lf_Ways_74 (hF.s (j := 1) rfl) (hF.r (j := 1) (k := 1) rfl rfl) ?_
  refine ex_iload_n (pc := 14) (k := 2) (by decide +kernel) rfl ?_
  obtain ⟨g2, h⟩ := h
  refine ey_iald (pc := 15) (v := mi M 3 ((mi M 60 l1.toNatClampNeg).toNatClampNeg)) (by decide +kernel) (hF.s (j := 3) rfl) g2 rfl rfl ?_
  refine ex_iconst (pc := 16) (k := 1) (v := nI 1) (by decide +kernel) (by decide) ?_
  refine ex_aload_n (pc := 17) (k := 0) (by decide +kernel) rfl ?_
  refine ey_getI (pc := 18) (v := mi M 58 2) (by decide +kernel) lf_Ways_9 (hF.s (j := 58) rfl) rfl ?_
  refine ex_ishl (pc := 21) (by decide +kernel) ?_
  refine ex_iconst (pc := 22) (k := 1) (v := nI 1) (by decide +kernel) (by decide) ?_
  refine ex_isub (pc := 23) (by decide +kernel) ?_
  refine ex_iand (pc := 24) (by decide +kernel) ?_
  refine ex_istore_n (pc := 25) (k := 3) (lo2 := [some (.ref 58), some (.int l1), some (.int (mi M 60 l1.toNatClampNeg)), some (.int ((mi M 3 ((mi M 60 l1.toNatClampNeg).toNatClampNeg)) &&& (((nI 1) <<< ((mi M 58 2) &&& 31)) - (nI 1)))), none, none, none]) (by decide +kernel) (by decide) rfl ?_
  refine ex_iconst (pc := 26) (k := 0) (v := nI 0) (by decide +kernel) (by decide) ?_
  refine ex_istore (pc := 27) (k := 4) (lo2 := [some (.ref 58), some (.int l1), some (.int (mi M 60 l1.toNatClampNeg)), some (.int ((mi M 3 ((mi M 60 l1.toNatClampNeg).toNatClampNeg)) &&& (((nI 1) <<< ((mi M 58 2) &&& 31)) - (nI 1)))), some (.int (nI 0)), none, none]) (by decide +kernel) (by decide) rfl ?_
  exact h
theorem k_Ways_openDays_29 {d bc bs : Nat} {l1 : Int32} {l2 : Int32} {l3 : Int32} {l4 : Int32} {M : Mem} {Φ : Option Value → Mem → Prop} (hF : Fx M) (h : (l1 ≤ l4 → Φ (some (.int l3)) M) ∧ (¬ l1 ≤ l4 → vp_in l4 6 ∧ vp_in (mi M 60 l4.toNatClampNeg) 6 ∧ vp_in l2 6 ∧ Con d m_MD_hasBit 0 0 [.int (mi M 59 l2.toNatClampNeg), .int (mi M 60 l4.toNatClampNeg)] M (PB fun r1 M1 => Fx M1 ∧ (r1 = false → Ex (d + 1) m_Ways_openDays bc bs 76 [some (.ref 58), some (.int l1), some (.int l2), some (.int l3), some (.int l4), some (.int (mi M 60 l4.toNatClampNeg)), some (.int (mi M 62 ((mi M 60 l4.toNatClampNeg).toNatClampNeg)))] [] M1 Φ) ∧ (r1 = true → Ex (d + 1) m_Ways_openDays bc bs 76 [some (.ref 58), some (.int l1), some (.int l2), some (.int (l3 &&& (((nI 1) <<< ((mi M 62 ((mi M 60 l4.toNatClampNeg).toNatClampNeg)) &&& 31)) ^^^ (-1)))), some (.int l4), some (.int (mi M 60 l4.toNatClampNeg)), some (.int (mi M 62 ((mi M 60 l4.toNatClampNeg).toNatClampNeg)))] [] M1 Φ)))) : Ex (d + 1) m_Ways_openDays bc bs 29 [some (.ref 58), some (.int l1), some (.int l2), some (.int l3), some (.int l4), none, none] [] M Φ := by
  refine ex_iload (pc := 29) (k := 4) (by decide +kernel) rfl ?_
  refine ex_iload_n (pc := 31) (k := 1) (by decide +kernel) rfl ?_
  refine ex_icmp_ge (pc := 32) (off := 106) (tgt := 138) (by decide +kernel) (by decide) (fun hc => ?_) (fun hc => ?_)
  · replace h := h.1 hc
    refine ex_iload_n (pc := 138) (k := 3) (by decide +kernel) rfl ?_
    exact ex_ireturn (pc := 139) (by decide +kernel) rfl rfl h
  · replace h := h.2 hc
    refine ex_aload_n (pc := 35) (k := 0) (by decide +kernel) rfl ?_
    refine ex_getR (pc := 36) (a := 60) (by decide +kernel) lf_Ways_19 (hF.s (j := 58) rfl) (hF.r (j := 58) (k := 4) rfl rfl) ?_
    refine ex_iload (pc := 39) (k := 4) (by decide +kernel) rfl ?_
    obtain ⟨g1, h⟩ := h
    refine ey_iald (pc := 41) (v := mi M 60 l4.toNatClampNeg) (by decide +kernel) (hF.s (j := 60) rfl) g1 rfl rfl ?_
    refine ex_istore (pc := 42) (k := 5) (lo2 := [some (.ref 58), some (.int l1), some (.int l2), some (.int l3), some (.int l4), some (.int (mi M 60 l4.toNatClampNeg)), none]) (by decide +kernel) (by decide) rfl ?_
    refine ex_aload_n (pc := 44) (k := 0) (by decide +kernel) rfl ?_
    refine ex_getR (pc := 45) (a := 62) (by decide +kernel) lf_Ways_28 (hF.s (j := 58) rfl) (hF.r (j := 58) (k := 7) rfl rfl) ?_
    refine ex_iload (pc := 48) (k := 5) (by decide +kernel) rfl ?_
    obtain ⟨g2, h⟩ := h
    refine ey_iald (pc := 50) (v := mi M 62 ((mi M 60 l4.toNatClampNeg).toNatClampNeg)) (by decide +kernel) (hF.s (j := 62) rfl) g2 rfl rfl ?_
    refine ex_istore (pc := 51) (k := 6) (lo2 := [some (.ref 58), some (.int l1), some (.int l2), some (.int l3), some (.int l4), some (.int (mi M 60 l4.toNatClampNeg)), some (.int (mi M 62 ((mi M 60 l4.toNatClampNeg).toNatClampNeg)))]) (by decide +kernel) (by decide) rfl ?_
    refine ex_aload_n (pc := 53) (k := 0) (by decide +kernel) rfl ?_
    refine ex_getR (pc := 54) (a := 59) (by decide +kernel) lf_Ways_15 (hF.s (j := 58) rfl) (hF.r (j := 58) (k := 3) rfl rfl) ?_
    refine ex_iload_n (pc := 57) (k := 2) (by decide +kernel) rfl ?_
    obtain ⟨g3, h⟩ := h
    refine ey_iald (pc := 58) (v := mi M 59 l2.toNatClampNeg) (by decide +kernel) (hF.s (j := 59) rfl) g3 rfl rfl ?_
    refine ex_iload (pc := 59) (k := 5) (by decide +kernel) rfl ?_
    refine ex_callSN (pc := 61) (host := "MarketDays") (as := [.int (mi M 59 l2.toNatClampNeg), .int (mi M 60 l4.toNatClampNeg)]) (by decide +kernel) F_MD_hasBit (List.mem_filter.mpr ⟨in_u4 (i := 67) rfl, rfl⟩) rfl rfl (Nat.le_of_ble_eq_true rfl) (Nat.lt_succ_self _) ⟨Nat.zero_le _, Nat.zero_le _⟩ (KC_B (Con.mono h ?_))
    intro o M1 ⟨r1, e9, hF1, h⟩
    refine ⟨r1, e9, ?_⟩
    refine ey_ifeqB (pc := 64) (off := 12) (tgt := 76) (by decide +kernel) (by decide) (fun hc => ?_) (fun hc => ?_)
    · replace h := h.1 hc
      exact h
    · replace h := h.2 hc
      refine ex_iload_n (pc := 67) (k := 3) (by decide +kernel) rfl ?_
      refine ex_iconst (pc := 68) (k := 1) (v := nI 1) (by decide +kernel) (by decide) ?_
      refine ex_iload (pc := 69) (k := 6) (by decide +kernel) rfl ?_
      refine ex_ishl (pc := 71) (by decide +kernel) ?_
      refine ex_iconst (pc := 72) (k := -1) (v := -1) (by decide +kernel) (by decide) ?_
      refine ex_ixor (pc := 73) (by decide +kernel) ?_
      refine ex_iand (pc := 74) (by decide +kernel) ?_
      refine ex_istore_n (pc := 75) (k := 3) (lo2 := [some (.ref 58), some (.int l1), some (.int l2), some (.int (l3 &&& (((nI 1) <<< ((mi M 62 ((mi M 60 l4.toNatClampNeg).toNatClampNeg)) &&& 31)) ^^^ (-1)))), some (.int l4), some (.int (mi M 60 l4.toNatClampNeg)), some (.int (mi M 62 ((mi M 60 l4.toNatClampNeg).toNatClampNeg)))]) (by decide +kernel) (by decide) rfl ?_
      exact h
theorem k_Ways_openDays_76 {d bc bs : Nat} {l1 : Int32} {l2 : Int32} {l3 : Int32} {l4 : Int32} {l5 : Int32} {l6 : Int32} {M : Mem} {Φ : Option Value → Mem → Prop} (hF : Fx M) (h : vp_in l2 6 ∧ (¬ (mi M 5 l2.toNatClampNeg) = l5 → Ex (d + 1) m_Ways_openDays bc bs 104 [some (.ref 58), some (.int l1), some (.int l2), some (.int l3), some (.int l4), some (.int l5), some (.int l6)] [] M Φ) ∧ ((mi M 5 l2.toNatClampNeg) = l5 → Con d m_MD_dayAfter 0 0 [.int l6, .int (mi M 58 2)] M (PI fun r1 M1 => Fx M1 ∧ Ex (d + 1) m_Ways_openDays bc bs 104 [some (.ref 58), some (.int l1), some (.int l2), some (.int (l3 &&& ((nI 1) <<< (r1 &&& 31)))), some (.int l4), some (.int l5), some (.int l6)] [] M1 Φ))) : Ex (d + 1) m_Ways_openDays bc bs 76 [some (.ref 58), some (.int l1), some (.int l2), some (.int l3), some (.int l4), some (.int l5), some (.int l6)] [] M Φ := by
  refine ex_aload_n (pc := 76) (k := 0) (by decide +kernel) rfl ?_
  refine ex_getR (pc := 77) (a := 1) (by decide +kernel) lf_Ways_35 (hF.s (j := 58) rfl) (hF.r (j := 58) (k := 0) rfl rfl) ?_
  refine ex_getR (pc := 80) (a := 5) (by decide +kernel) lf_Ways_77 (hF.s (j := 1) rfl) (hF.r (j := 1) (k := 3) rfl rfl) ?_
  refine ex_iload_n (pc := 83) (k := 2) (by decide +kernel) rfl ?_
  obtain ⟨g1, h⟩ := h
  refine ey_iald (pc := 84) (v := mi M 5 l2.toNatClampNeg) (by decide +kernel) (hF.s (j := 5) rfl) g1 rfl rfl ?_
  refine ex_iload (pc := 85) (k := 5) (by decide +kernel) rfl ?_
  refine ex_icmp_ne (pc := 87) (off := 17) (tgt := 104) (by decide +kernel) (by decide) (fun hc => ?_) (fun hc => ?_)
  · replace h := h.1 hc
    exact h
  · replace h := h.2 hc
    refine ex_iload_n (pc := 90) (k := 3) (by decide +kernel) rfl ?_
    refine ex_iconst (pc := 91) (k := 1) (v := nI 1) (by decide +kernel) (by decide) ?_
    refine ex_iload (pc := 92) (k := 6) (by decide +kernel) rfl ?_
    refine ex_aload_n (pc := 94) (k := 0) (by decide +kernel) rfl ?_
    refine ey_getI (pc := 95) (v := mi M 58 2) (by decide +kernel) lf_Ways_9 (hF.s (j := 58) rfl) rfl ?_
    refine ex_callSN (pc := 98) (host := "MarketDays") (as := [.int l6, .int (mi M 58 2)]) (by decide +kernel) F_MD_dayAfter (List.mem_filter.mpr ⟨in_u4 (i := 77) rfl, rfl⟩) rfl rfl (Nat.le_of_ble_eq_true rfl) (Nat.lt_succ_self _) ⟨Nat.zero_le _, Nat.zero_le _⟩ (KC_I (Con.mono h ?_))
    intro o M1 ⟨r1, e9, hF1, h⟩
    refine ⟨r1, e9, ?_⟩
    refine ex_ishl (pc := 101) (by decide +kernel) ?_
    refine ex_iand (pc := 102) (by decide +kernel) ?_
    refine ex_istore_n (pc := 103) (k := 3) (lo2 := [some (.ref 58), some (.int l1), some (.int l2), some (.int (l3 &&& ((nI 1) <<< (r1 &&& 31)))), some (.int l4), some (.int l5), some (.int l6)]) (by decide +kernel) (by decide) rfl ?_
    exact h
theorem k_Ways_openDays_104 {d bc bs : Nat} {l1 : Int32} {l2 : Int32} {l3 : Int32} {l4 : Int32} {l5 : Int32} {l6 : Int32} {M : Mem} {Φ : Option Value → Mem → Prop} (hF : Fx M) (h : vp_in l5 6 ∧ (¬ (mi M 5 l5.toNatClampNeg) = l2 → Ex (d + 1) m_Ways_openDays bc bs 29 [some (.ref 58), some (.int l1), some (.int l2), some (.int l3), some (.int (l4 + nI 1)), none, none] [] M Φ) ∧ ((mi M 5 l5.toNatClampNeg) = l2 → Con d m_MD_dayBefore 0 0 [.int l6, .int (mi M 58 2)] M (PI fun r1 M1 => Fx M1 ∧ Ex (d + 1) m_Ways_openDays bc bs 29 [some (.ref 58), some (.int l1), some (.int l2), some (.int (l3 &&& ((nI 1) <<< (r1 &&& 31)))), some (.int (l4 + nI 1)), none, none] [] M1 Φ))) : Ex (d + 1) m_Ways_openDays bc bs 104 [some (.ref 58), some (.int l1), some (.int l2), some (.int l3), some (.int l4), some (.int l5), some (.int l6)] [] M Φ := by
  refine ex_aload_n (pc := 104) (k := 0) (by decide +kernel) rfl ?_
  refine ex_getR (pc := 105) (a := 1) (by decide +kernel) lf_Ways_35 (hF.s (j := 58) rfl) (hF.r (j := 58) (k := 0) rfl rfl) ?_
  refine ex_getR (pc := 108) (a := 5) (by decide +kernel) lf_Ways_77 (hF.s (j := 1) rfl) (hF.r (j := 1) (k := 3) rfl rfl) ?_
  refine ex_iload (pc := 111) (k := 5) (by decide +kernel) rfl ?_
  obtain ⟨g1, h⟩ := h
  refine ey_iald (pc := 113) (v := mi M 5 l5.toNatClampNeg) (by decide +kernel) (hF.s (j := 5) rfl) g1 rfl rfl ?_
  refine ex_iload_n (pc := 114) (k := 2) (by decide +kernel) rfl ?_
  refine ex_icmp_ne (pc := 115) (off := 17) (tgt := 132) (by decide +kernel) (by decide) (fun hc => ?_) (fun hc => ?_)
  · replace h := h.1 hc
    refine ex_iinc (pc := 132) (i := 4) (k := 1) (v := l4 + nI 1) (lo2 := [some (.ref 58), some (.int l1), some (.int l2), some (.int l3), some (.int (l4 + nI 1)), some (.int l5), some (.int l6)]) (by decide +kernel) (by decide) rfl rfl rfl ?_
    refine ex_goto (pc := 135) (off := -106) (tgt := 29) (by decide +kernel) (by decide) ?_
    exact Ex.msk [true, true, true, true, true, false, false] h
  · replace h := h.2 hc
    refine ex_iload_n (pc := 118) (k := 3) (by decide +kernel) rfl ?_
    refine ex_iconst (pc := 119) (k := 1) (v := nI 1) (by decide +kernel) (by decide) ?_
    refine ex_iload (pc := 120) (k := 6) (by decide +kernel) rfl ?_
    refine ex_aload_n (pc := 122) (k := 0) (by decide +kernel) rfl ?_
    refine ey_getI (pc := 123) (v := mi M 58 2) (by decide +kernel) lf_Ways_9 (hF.s (j := 58) rfl) rfl ?_
    refine ex_callSN (pc := 126) (host := "MarketDays") (as := [.int l6, .int (mi M 58 2)]) (by decide +kernel) F_MD_dayBefore (List.mem_filter.mpr ⟨in_u4 (i := 78) rfl, rfl⟩) rfl rfl (Nat.le_of_ble_eq_true rfl) (Nat.lt_succ_self _) ⟨Nat.zero_le _, Nat.zero_le _⟩ (KC_I (Con.mono h ?_))
    intro o M1 ⟨r1, e9, hF1, h⟩
    refine ⟨r1, e9, ?_⟩
    refine ex_ishl (pc := 129) (by decide +kernel) ?_
    refine ex_iand (pc := 130) (by decide +kernel) ?_
    refine ex_istore_n (pc := 131) (k := 3) (lo2 := [some (.ref 58), some (.int l1), some (.int l2), some (.int (l3 &&& ((nI 1) <<< (r1 &&& 31)))), some (.int l4), some (.int l5), some (.int l6)]) (by decide +kernel) (by decide) rfl ?_
    refine ex_iinc (pc := 132) (i := 4) (k := 1) (v := l4 + nI 1) (lo2 := [some (.ref 58), some (.int l1), some (.int l2), some (.int (l3 &&& ((nI 1) <<< (r1 &&& 31)))), some (.int (l4 + nI 1)), some (.int l5), some (.int l6)]) (by decide +kernel) (by decide) rfl rfl rfl ?_
    refine ex_goto (pc := 135) (off := -106) (tgt := 29) (by decide +kernel) (by decide) ?_
    exact Ex.msk [true, true, true, true, true, false, false] h
