/-! printed blocks: MarketDays$Land, MarketDays$Law -/
theorem k_Land_hasTown_0 {d bc bs : Nat} {l1 : Int32} {M : Mem} {Φ : Option Value → Mem → Prop} (hF : Fx M) (h : (l1 < 0 → Φ (some (.int (b2i false))) M) ∧ (¬ l1 < 0 → ((mi M 1 8) ≤ l1 → Φ (some (.int (b2i false))) M) ∧ (¬ (mi M 1 8) ≤ l1 → Φ (some (.int (b2i true))) M))) : Ex (d + 1) m_Land_hasTown bc bs 0 [some (.ref 1), some (.int l1)] [] M Φ := by
  refine ex_iload_n (pc := 0) (k := 1) (by decide +kernel) rfl ?_
  refine ex_if_lt (pc := 1) (off := 15) (tgt := 16) (by decide +kernel) (by decide) (fun hc => ?_) (fun hc => ?_)
  · replace h := h.1 hc
    refine ex_iconst (pc := 16) (k := 0) (v := nI 0) (by decide +kernel) (by decide) ?_
    exact ex_ireturn (pc := 17) (v := b2i false) (by decide +kernel) rfl (b2i_n _) h
  · replace h := h.2 hc
    refine ex_iload_n (pc := 4) (k := 1) (by decide +kernel) rfl ?_
    refine ex_aload_n (pc := 5) (k := 0) (by decide +kernel) rfl ?_
    refine ey_getI (pc := 6) (v := mi M 1 8) (by decide +kernel) lf_Land_38 (hF.s (j := 1) rfl) rfl ?_
    refine ex_icmp_ge (pc := 9) (off := 7) (tgt := 16) (by decide +kernel) (by decide) (fun hc => ?_) (fun hc => ?_)
    · replace h := h.1 hc
      refine ex_iconst (pc := 16) (k := 0) (v := nI 0) (by decide +kernel) (by decide) ?_
      exact ex_ireturn (pc := 17) (v := b2i false) (by decide +kernel) rfl (b2i_n _) h
    · replace h := h.2 hc
      refine ex_iconst (pc := 12) (k := 1) (v := nI 1) (by decide +kernel) (by decide) ?_
      refine ex_goto (pc := 13) (off := 4) (tgt := 17) (by decide +kernel) (by decide) ?_
      exact ex_ireturn (pc := 17) (v := b2i true) (by decide +kernel) rfl (b2i_n _) h
theorem k_Land_settle_0 {d bc bs : Nat} {l1 : Int32} {M : Mem} {Φ : Option Value → Mem → Prop} (hF : Fx M) (h : ((mi M 1 8) < (nI 6) → vp_in (mi M 1 8) 6 ∧ vp_in (mi M 1 8) 6 ∧ vp_in (mi M 1 8) 6 ∧ vp_in (mi M 1 8) 6 ∧ Con d m_Land_measure 0 0 [.ref 1] (wi (wi (wi (wi (wi M 2 ((mi M 1 8).toNatClampNeg) l1) 3 ((mi M 1 8).toNatClampNeg) (nI 127)) 4 ((mi M 1 8).toNatClampNeg) (-1)) 5 ((mi M 1 8).toNatClampNeg) (-1)) 1 8 ((mi M 1 8) + (nI 1))) (PV fun M1 => Fx M1 ∧ Φ (some (.int (b2i true))) M1)) ∧ (¬ (mi M 1 8) < (nI 6) → Φ (some (.int (b2i false))) M)) : Ex (d + 1) m_Land_settle bc bs 0 [some (.ref 1), some (.int l1)] [] M Φ := by
  refine ex_aload_n (pc := 0) (k := 0) (by decide +kernel) rfl ?_
  refine ey_getI (pc := 1) (v := mi M 1 8) (by decide +kernel) lf_Land_38 (hF.s (j := 1) rfl) rfl ?_
  refine ex_bipush (pc := 4) (k := 6) (v := nI 6) (by decide +kernel) (by decide) ?_
  refine ex_icmp_lt (pc := 6) (off := 5) (tgt := 11) (by decide +kernel) (by decide) (fun hc => ?_) (fun hc => ?_)
  · replace h := h.1 hc
    refine ex_aload_n (pc := 11) (k := 0) (by decide +kernel) rfl ?_
    refine ex_getR (pc := 12) (a := 2) (by decide +kernel) lf_Land_9 (hF.s (j := 1) rfl) (hF.r (j := 1) (k := 0) rfl rfl) ?_
    refine ex_aload_n (pc := 15) (k := 0) (by decide +kernel) rfl ?_
    refine ey_getI (pc := 16) (v := mi M 1 8) (by decide +kernel) lf_Land_38 (hF.s (j := 1) rfl) rfl ?_
    refine ex_iload_n (pc := 19) (k := 1) (by decide +kernel) rfl ?_
    obtain ⟨g1, h⟩ := h
    refine ey_iast (pc := 20) (by decide +kernel) (hF.s (j := 2) rfl) g1 rfl ?_
    refine ex_aload_n (pc := 21) (k := 0) (by decide +kernel) rfl ?_
    refine ex_getR (pc := 22) (a := 3) (by decide +kernel) lf_Land_15 (hF.s (j := 1) rfl) (hF.r (j := 1) (k := 1) rfl rfl) ?_
    refine ex_aload_n (pc := 25) (k := 0) (by decide +kernel) rfl ?_
    refine ey_getI (pc := 26) (v := mi M 1 8) (by decide +kernel) lf_Land_38 (hF.s (j := 1) rfl) rfl ?_
    refine ex_bipush (pc := 29) (k := 127) (v := nI 127) (by decide +kernel) (by decide) ?_
    obtain ⟨g2, h⟩ := h
    refine ey_iast (pc := 31) (by decide +kernel) (hF.s (j := 3) rfl) g2 rfl ?_
    refine ex_aload_n (pc := 32) (k := 0) (by decide +kernel) rfl ?_
    refine ex_getR (pc := 33) (a := 4) (by decide +kernel) lf_Land_18 (hF.s (j := 1) rfl) (hF.r (j := 1) (k := 2) rfl rfl) ?_
    refine ex_aload_n (pc := 36) (k := 0) (by decide +kernel) rfl ?_
    refine ey_getI (pc := 37) (v := mi M 1 8) (by decide +kernel) lf_Land_38 (hF.s (j := 1) rfl) rfl ?_
    refine ex_iconst (pc := 40) (k := -1) (v := -1) (by decide +kernel) (by decide) ?_
    obtain ⟨g3, h⟩ := h
    refine ey_iast (pc := 41) (by decide +kernel) (hF.s (j := 4) rfl) g3 rfl ?_
    refine ex_aload_n (pc := 42) (k := 0) (by decide +kernel) rfl ?_
    refine ex_getR (pc := 43) (a := 5) (by decide +kernel) lf_Land_21 (hF.s (j := 1) rfl) (hF.r (j := 1) (k := 3) rfl rfl) ?_
    refine ex_aload_n (pc := 46) (k := 0) (by decide +kernel) rfl ?_
    refine ey_getI (pc := 47) (v := mi M 1 8) (by decide +kernel) lf_Land_38 (hF.s (j := 1) rfl) rfl ?_
    refine ex_iconst (pc := 50) (k := -1) (v := -1) (by decide +kernel) (by decide) ?_
    obtain ⟨g4, h⟩ := h
    refine ey_iast (pc := 51) (by decide +kernel) (hF.s (j := 5) rfl) g4 rfl ?_
    refine ex_aload_n (pc := 52) (k := 0) (by decide +kernel) rfl ?_
    refine ex_dup (pc := 53) (by decide +kernel) rfl ?_
    refine ey_getI (pc := 54) (v := mi M 1 8) (by decide +kernel) lf_Land_38 (hF.s (j := 1) rfl) rfl ?_
    refine ex_iconst (pc := 57) (k := 1) (v := nI 1) (by decide +kernel) (by decide) ?_
    refine ex_iadd (pc := 58) (by decide +kernel) ?_
    refine ex_putI (pc := 59) (index := 38) (ci := 4) (k := 8) (fin := false) (by decide +kernel) ⟨_, _, _, _, cf_Land, by decide, in_t1 (i := 56) rfl rfl, rfl, (fun h => by cases h), rfl, rfl⟩ rfl (fun h => by cases h) (hF.s (j := 1) rfl) ?_
    refine ex_aload_n (pc := 62) (k := 0) (by decide +kernel) rfl ?_
    refine ex_callV (pc := 63) (as := []) (by decide +kernel) F_Land_measure (in_t3 (i := 38) rfl rfl) (hF.s (j := 1) rfl) rfl (by decide) rfl rfl (Nat.le_of_ble_eq_true rfl) (Nat.lt_succ_self _) ⟨Nat.zero_le _, Nat.zero_le _⟩ (KC_V (Con.mono h ?_))
    intro o M1 ⟨e9, hF1, h⟩
    refine ⟨e9, ?_⟩
    refine ex_iconst (pc := 66) (k := 1) (v := nI 1) (by decide +kernel) (by decide) ?_
    exact ex_ireturn (pc := 67) (v := b2i true) (by decide +kernel) rfl (b2i_n _) h
  · replace h := h.2 hc
    refine ex_iconst (pc := 9) (k := 0) (v := nI 0) (by decide +kernel) (by decide) ?_
    exact ex_ireturn (pc := 10) (v := b2i false) (by decide +kernel) rfl (b2i_n _) h
theorem k_Land_lay_0 {d bc bs : Nat} {l1 : Int32} {l2 : Int32} {l3 : Int32} {M : Mem} {Φ : Option Value → Mem → Prop} (hF : Fx M) (h : vp_in l1 6 ∧ ∃ a1 : Nat, mr M 6 l1.toNatClampNeg = some a1 ∧ ∃ N2 : Nat, (sh M)[a1]? = some (100, N2) ∧ vp_in l2 N2 ∧ vp_in l1 6 ∧ ∃ a3 : Nat, mr M 6 l1.toNatClampNeg = some a3 ∧ ∃ N4 : Nat, (sh M)[a3]? = some (100, N4) ∧ vp_in l2 N4 ∧ vp_in l2 6 ∧ ∃ a5 : Nat, mr M 6 l2.toNatClampNeg = some a5 ∧ ∃ N6 : Nat, (sh (wi M a3 l2.toNatClampNeg l3))[a5]? = some (100, N6) ∧ vp_in l1 N6 ∧ Con d m_Land_measure 0 0 [.ref 1] (wi (wi M a3 l2.toNatClampNeg l3) a5 l1.toNatClampNeg l3) (PV fun M1 => Fx M1 ∧ Φ (some (.int (mi M a1 l2.toNatClampNeg))) M1)) : Ex (d + 1) m_Land_lay bc bs 0 [some (.ref 1), some (.int l1), some (.int l2), some (.int l3), none] [] M Φ := by
  refine ex_aload_n (pc := 0) (k := 0) (by decide +kernel) rfl ?_
  refine ex_getR (pc := 1) (a := 6) (by decide +kernel) lf_Land_26 (hF.s (j := 1) rfl) (hF.r (j := 1) (k := 4) rfl rfl) ?_
  refine ex_iload_n (pc := 4) (k := 1) (by decide +kernel) rfl ?_
  obtain ⟨g1, h⟩ := h
  obtain ⟨a1, g2, h⟩ := h
  refine ey_aald (pc := 5) (r := some a1) (by decide +kernel) (hF.s (j := 6) rfl) (by decide) g1 rfl g2 ?_
  refine ex_iload_n (pc := 6) (k := 2) (by decide +kernel) rfl ?_
  obtain ⟨N2, g3, h⟩ := h
  obtain ⟨g4, h⟩ := h
  refine ey_iald (pc := 7) (v := mi M a1 l2.toNatClampNeg) (by decide +kernel) g3 g4 rfl rfl ?_
  refine ex_istore (pc := 8) (k := 4) (lo2 := [some (.ref 1), some (.int l1), some (.int l2), some (.int l3), some (.int (mi M a1 l2.toNatClampNeg))]) (by decide +kernel) (by decide) rfl ?_
  refine ex_aload_n (pc := 10) (k := 0) (by decide +kernel) rfl ?_
  refine ex_getR (pc := 11) (a := 6) (by decide +kernel) lf_Land_26 (hF.s (j := 1) rfl) (hF.r (j := 1) (k := 4) rfl rfl) ?_
  refine ex_iload_n (pc := 14) (k := 1) (by decide +kernel) rfl ?_
  obtain ⟨g5, h⟩ := h
  obtain ⟨a3, g6, h⟩ := h
  refine ey_aald (pc := 15) (r := some a3) (by decide +kernel) (hF.s (j := 6) rfl) (by decide) g5 rfl g6 ?_
  refine ex_iload_n (pc := 16) (k := 2) (by decide +kernel) rfl ?_
  refine ex_iload_n (pc := 17) (k := 3) (by decide +kernel) rfl ?_
  obtain ⟨N4, g7, h⟩ := h
  obtain ⟨g8, h⟩ := h
  refine ey_iast (pc := 18) (by decide +kernel) g7 g8 rfl ?_
  refine ex_aload_n (pc := 19) (k := 0) (by decide +kernel) rfl ?_
  refine ex_getR (pc := 20) (a := 6) (by decide +kernel) lf_Land_26 (hF.s (j := 1) rfl) (hF.r (j := 1) (k := 4) rfl rfl) ?_
  refine ex_iload_n (pc := 23) (k := 2) (by decide +kernel) rfl ?_
  obtain ⟨g9, h⟩ := h
  obtain ⟨a5, g10, h⟩ := h
  refine ey_aald (pc := 24) (r := some a5) (by decide +kernel) (hF.s (j := 6) rfl) (by decide) g9 rfl g10 ?_
  refine ex_iload_n (pc := 25) (k := 1) (by decide +kernel) rfl ?_
  refine ex_iload_n (pc := 26) (k := 3) (by decide +kernel) rfl ?_
  obtain ⟨N6, g11, h⟩ := h
  obtain ⟨g12, h⟩ := h
  refine ey_iast (pc := 27) (by decide +kernel) g11 g12 rfl ?_
  refine ex_aload_n (pc := 28) (k := 0) (by decide +kernel) rfl ?_
  refine ex_callV (pc := 29) (as := []) (by decide +kernel) F_Land_measure (in_t3 (i := 38) rfl rfl) (hF.s (j := 1) rfl) rfl (by decide) rfl rfl (Nat.le_of_ble_eq_true rfl) (Nat.lt_succ_self _) ⟨Nat.zero_le _, Nat.zero_le _⟩ (KC_V (Con.mono h ?_))
  intro o M1 ⟨e9, hF1, h⟩
  refine ⟨e9, ?_⟩
  refine ex_iload (pc := 32) (k := 4) (by decide +kernel) rfl ?_
  exact ex_ireturn (pc := 34) (by decide +kernel) rfl rfl h
theorem k_Land_hoursBetween_0 {d bc bs : Nat} {l1 : Int32} {l2 : Int32} {M : Mem} {Φ : Option Value → Mem → Prop} (hF : Fx M) (h : vp_in l1 6 ∧ ∃ a1 : Nat, mr M 13 l1.toNatClampNeg = some a1 ∧ ∃ N2 : Nat, (sh M)[a1]? = some (100, N2) ∧ vp_in l2 N2 ∧ Φ (some (.int (mi M a1 l2.toNatClampNeg))) M) : Ex (d + 1) m_Land_hoursBetween bc bs 0 [some (.ref 1), some (.int l1), some (.int l2)] [] M Φ := by
  refine ex_aload_n (pc := 0) (k := 0) (by decide +kernel) rfl ?_
  refine ex_getR (pc := 1) (a := 13) (by decide +kernel) lf_Land_29 (hF.s (j := 1) rfl) (hF.r (j := 1) (k := 5) rfl rfl) ?_
  refine ex_iload_n (pc := 4) (k := 1) (by decide +kernel) rfl ?_
  obtain ⟨g1, h⟩ := h
  obtain ⟨a1, g2, h⟩ := h
  refine ey_aald (pc := 5) (r := some a1) (by decide +kernel) (hF.s (j := 13) rfl) (by decide) g1 rfl g2 ?_
  refine ex_iload_n (pc := 6) (k := 2) (by decide +kernel) rfl ?_
  obtain ⟨N2, g3, h⟩ := h
  obtain ⟨g4, h⟩ := h
  refine ey_iald (pc := 7) (v := mi M a1 l2.toNatClampNeg) (by decide +kernel) g3 g4 rfl rfl ?_
  exact ex_ireturn (pc := 8) (by decide +kernel) rfl rfl h
theorem k_Land_hold_0 {d bc bs : Nat} {l1 : Int32} {l2 : Int32} {M : Mem} {Φ : Option Value → Mem → Prop} (hF : Fx M) (h : ((mi M 1 10) < (nI 10) → vp_in (mi M 1 10) 10 ∧ vp_in (mi M 1 10) 10 ∧ Φ (some (.int (b2i true))) (wi (wi (wi M 20 ((mi M 1 10).toNatClampNeg) l1) 21 ((mi M 1 10).toNatClampNeg) l2) 1 10 ((mi M 1 10) + (nI 1)))) ∧ (¬ (mi M 1 10) < (nI 10) → Φ (some (.int (b2i false))) M)) : Ex (d + 1) m_Land_hold bc bs 0 [some (.ref 1), some (.int l1), some (.int l2)] [] M Φ := by
  refine ex_aload_n (pc := 0) (k := 0) (by decide +kernel) rfl ?_
  refine ey_getI (pc := 1) (v := mi M 1 10) (by decide +kernel) lf_Land_45 (hF.s (j := 1) rfl) rfl ?_
  refine ex_bipush (pc := 4) (k := 10) (v := nI 10) (by decide +kernel) (by decide) ?_
  refine ex_icmp_lt (pc := 6) (off := 5) (tgt := 11) (by decide +kernel) (by decide) (fun hc => ?_) (fun hc => ?_)
  · replace h := h.1 hc
    refine ex_aload_n (pc := 11) (k := 0) (by decide +kernel) rfl ?_
    refine ex_getR (pc := 12) (a := 20) (by decide +kernel) lf_Land_32 (hF.s (j := 1) rfl) (hF.r (j := 1) (k := 6) rfl rfl) ?_
    refine ex_aload_n (pc := 15) (k := 0) (by decide +kernel) rfl ?_
    refine ey_getI (pc := 16) (v := mi M 1 10) (by decide +kernel) lf_Land_45 (hF.s (j := 1) rfl) rfl ?_
    refine ex_iload_n (pc := 19) (k := 1) (by decide +kernel) rfl ?_
    obtain ⟨g1, h⟩ := h
    refine ey_iast (pc := 20) (by decide +kernel) (hF.s (j := 20) rfl) g1 rfl ?_
    refine ex_aload_n (pc := 21) (k := 0) (by decide +kernel) rfl ?_
    refine ex_getR (pc := 22) (a := 21) (by decide +kernel) lf_Land_35 (hF.s (j := 1) rfl) (hF.r (j := 1) (k := 7) rfl rfl) ?_
    refine ex_aload_n (pc := 25) (k := 0) (by decide +kernel) rfl ?_
    refine ey_getI (pc := 26) (v := mi M 1 10) (by decide +kernel) lf_Land_45 (hF.s (j := 1) rfl) rfl ?_
    refine ex_iload_n (pc := 29) (k := 2) (by decide +kernel) rfl ?_
    obtain ⟨g2, h⟩ := h
    refine ey_iast (pc := 30) (by decide +kernel) (hF.s (j := 21) rfl) g2 rfl ?_
    refine ex_aload_n (pc := 31) (k := 0) (by decide +kernel) rfl ?_
    refine ex_dup (pc := 32) (by decide +kernel) rfl ?_
    refine ey_getI (pc := 33) (v := mi M 1 10) (by decide +kernel) lf_Land_45 (hF.s (j := 1) rfl) rfl ?_
    refine ex_iconst (pc := 36) (k := 1) (v := nI 1) (by decide +kernel) (by decide) ?_
    refine ex_iadd (pc := 37) (by decide +kernel) ?_
    refine ex_putI (pc := 38) (index := 45) (ci := 4) (k := 10) (fin := false) (by decide +kernel) ⟨_, _, _, _, cf_Land, by decide, in_t1 (i := 69) rfl rfl, rfl, (fun h => by cases h), rfl, rfl⟩ rfl (fun h => by cases h) (hF.s (j := 1) rfl) ?_
    refine ex_iconst (pc := 41) (k := 1) (v := nI 1) (by decide +kernel) (by decide) ?_
    exact ex_ireturn (pc := 42) (v := b2i true) (by decide +kernel) rfl (b2i_n _) h
  · replace h := h.2 hc
    refine ex_iconst (pc := 9) (k := 0) (v := nI 0) (by decide +kernel) (by decide) ?_
    exact ex_ireturn (pc := 10) (v := b2i false) (by decide +kernel) rfl (b2i_n _) h
theorem k_Land_movedByFeasts_0 {d bc bs : Nat} {l1 : Int32} {l2 : Int32} {M : Mem} {Φ : Option Value → Mem → Prop} (hF : Fx M) (h : Ex (d + 1) m_Land_movedByFeasts bc bs 5 [some (.ref 1), some (.int l1), some (.int l2), some (.int l1), some (.int (nI 0)), none] [] M Φ) : Ex (d + 1) m_Land_movedByFeasts bc bs 0 [some (.ref 1), some (.int l1), some (.int l2), none, none, none] [] M Φ := by
  refine ex_iload_n (pc := 0) (k := 1) (by decide +kernel) rfl ?_
  refine ex_istore_n (pc := 1) (k := 3) (lo2 := [some (.ref 1), some (.int l1), some (.int l2), some (.int l1), none, none]) (by decide +kernel) (by decide) rfl ?_
  refine ex_iconst (pc := 2) (k := 0) (v := nI 0) (by decide +kernel) (by decide) ?_
  refine ex_istore (pc := 3) (k := 4) (lo2 := [some (.ref 1), some (.int l1), some (.int l2), some (.int l1), some (.int (nI 0)), none]) (by decide +kernel) (by decide) rfl ?_
  exact h
theorem k_Land_movedByFeasts_5 {d bc bs : Nat} {l1 : Int32} {l2 : Int32} {l3 : Int32} {l4 : Int32} {M : Mem} {Φ : Option Value → Mem → Prop} (hF : Fx M) (h : ((mi M 1 10) ≤ l4 → Φ (some (.int l3)) M) ∧ (¬ (mi M 1 10) ≤ l4 → vp_in l4 10 ∧ vp_in l4 10 ∧ (¬ (mi M 20 l4.toNatClampNeg) = l2 → Ex (d + 1) m_Land_movedByFeasts bc bs 5 [some (.ref 1), some (.int l1), some (.int l2), some (.int l3), some (.int (l4 + nI 1)), none] [] M Φ) ∧ ((mi M 20 l4.toNatClampNeg) = l2 → ((mi M 1 9) ≤ (mi M 21 l4.toNatClampNeg) → Ex (d + 1) m_Land_movedByFeasts bc bs 5 [some (.ref 1), some (.int l1), some (.int l2), some (.int l3), some (.int (l4 + nI 1)), none] [] M Φ) ∧ (¬ (mi M 1 9) ≤ (mi M 21 l4.toNatClampNeg) → Con d m_MD_hasBit 0 0 [.int l3, .int (mi M 21 l4.toNatClampNeg)] M (PB fun r1 M1 => Fx M1 ∧ (r1 = false → Ex (d + 1) m_Land_movedByFeasts bc bs 5 [some (.ref 1), some (.int l1), some (.int l2), some (.int l3), some (.int (l4 + nI 1)), none] [] M1 Φ) ∧ (r1 = true → Con d m_MD_dayAfter 0 0 [.int (mi M 21 l4.toNatClampNeg), .int (mi M1 1 9)] M1 (PI fun r2 M2 => Fx M2 ∧ Ex (d + 1) m_Land_movedByFeasts bc bs 5 [some (.ref 1), some (.int l1), some (.int l2), some (.int ((l3 &&& (((nI 1) <<< ((mi M 21 l4.toNatClampNeg) &&& 31)) ^^^ (-1))) ||| ((nI 1) <<< (r2 &&& 31)))), some (.int (l4 + nI 1)), none] [] M2 Φ))))))) : Ex (d + 1) m_Land_movedByFeasts bc bs 5 [some (.ref 1), some (.int l1), some (.int l2), some (.int l3), some (.int l4), none] [] M Φ := by
  refine ex_iload (pc := 5) (k := 4) (by decide +kernel) rfl ?_
  refine ex_aload_n (pc := 7) (k := 0) (by decide +kernel) rfl ?_
  refine ey_getI (pc := 8) (v := mi M 1 10) (by decide +kernel) lf_Land_45 (hF.s (j := 1) rfl) rfl ?_
  refine ex_icmp_ge (pc := 11) (off := 68) (tgt := 79) (by decide +kernel) (by decide) (fun hc => ?_) (fun hc => ?_)
  · replace h := h.1 hc
    refine ex_iload_n (pc := 79) (k := 3) (by decide +kernel) rfl ?_
    exact ex_ireturn (pc := 80) (by decide +kernel) rfl rfl h
  · replace h := h.2 hc
    refine ex_aload_n (pc := 14) (k := 0) (by decide +kernel) rfl ?_
    refine ex_getR (pc := 15) (a := 21) (by decide +kernel) lf_Land_35 (hF.s (j := 1) rfl) (hF.r (j := 1) (k := 7) rfl rfl) ?_
    refine ex_iload (pc := 18) (k := 4) (by decide +kernel) rfl ?_
    obtain ⟨g1, h⟩ := h
    refine ey_iald (pc := 20) (v := mi M 21 l4.toNatClampNeg) (by decide +kernel) (hF.s (j := 21) rfl) g1 rfl rfl ?_
    refine ex_istore (pc := 21) (k := 5) (lo2 := [some (.ref 1), some (.int l1), some (.int l2), some (.int l3), some (.int l4), some (.int (mi M 21 l4.toNatClampNeg))]) (by decide +kernel) (by decide) rfl ?_
    refine ex_aload_n (pc := 23) (k := 0) (by decide +kernel) rfl ?_
    refine ex_getR (pc := 24) (a := 20) (by decide +kernel) lf_Land_32 (hF.s (j := 1) rfl) (hF.r (j := 1) (k := 6) rfl rfl) ?_
    refine ex_iload (pc := 27) (k := 4) (by decide +kernel) rfl ?_
    obtain ⟨g2, h⟩ := h
    refine ey_iald (pc := 29) (v := mi M 20 l4.toNatClampNeg) (by decide +kernel) (hF.s (j := 20) rfl) g2 rfl rfl ?_
    refine ex_iload_n (pc := 30) (k := 2) (by decide +kernel) rfl ?_
    refine ex_icmp_ne (pc := 31) (off := 42) (tgt := 73) (by decide +kernel) (by decide) (fun hc => ?_) (fun hc => ?_)
    · replace h := h.1 hc
      refine ex_iinc (pc := 73) (i := 4) (k := 1) (v := l4 + nI 1) (lo2 := [some (.ref 1), some (.int l1), some (.int l2), some (.int l3), some (.int (l4 + nI 1)), some (.int (mi M 21 l4.toNatClampNeg))]) (by decide +kernel) (by decide) rfl rfl rfl ?_
      refine ex_goto (pc := 76) (off := -71) (tgt := 5) (by decide +kernel) (by decide) ?_
      exact Ex.msk [true, true, true, true, true, false] h
    · replace h := h.2 hc
      refine ex_iload (pc := 34) (k := 5) (by decide +kernel) rfl ?_
      refine ex_aload_n (pc := 36) (k := 0) (by decide +kernel) rfl ?_
      refine ey_getI (pc := 37) (v := mi M 1 9) (by decide +kernel) lf_Land_42 (hF.s (j := 1) rfl) rfl ?_
      refine ex_icmp_ge (pc := 40) (off := 33) (tgt := 73) (by decide +kernel) (by decide) (fun hc => ?_) (fun hc => ?_)
      · replace h := h.1 hc
        refine ex_iinc (pc := 73) (i := 4) (k := 1) (v := l4 + nI 1) (lo2 := [some (.ref 1), some (.int l1), some (.int l2), some (.int l3), some (.int (l4 + nI 1)), some (.int (mi M 21 l4.toNatClampNeg))]) (by decide +kernel) (by decide) rfl rfl rfl ?_
        refine ex_goto (pc := 76) (off := -71) (tgt := 5) (by decide +kernel) (by decide) ?_
        exact Ex.msk [true, true, true, true, true, false] h
      · replace h := h.2 hc
        refine ex_iload_n (pc := 43) (k := 3) (by decide +kernel) rfl ?_
        refine ex_iload (pc := 44) (k := 5) (by decide +kernel) rfl ?_
        refine ex_callSN (pc := 46) (host := "MarketDays") (as := [.int l3, .int (mi M 21 l4.toNatClampNeg)]) (by decide +kernel) F_MD_hasBit (List.mem_filter.mpr ⟨in_u3 (i := 209) rfl, rfl⟩) rfl rfl (Nat.le_of_ble_eq_true rfl) (Nat.lt_succ_self _) ⟨Nat.zero_le _, Nat.zero_le _⟩ (KC_B (Con.mono h ?_))
        intro o M1 ⟨r1, e9, hF1, h⟩
        refine ⟨r1, e9, ?_⟩
        refine ey_ifeqB (pc := 49) (off := 24) (tgt := 73) (by decide +kernel) (by decide) (fun hc => ?_) (fun hc => ?_)
        · replace h := h.1 hc
          refine ex_iinc (pc := 73) (i := 4) (k := 1) (v := l4 + nI 1) (lo2 := [some (.ref 1), some (.int l1), some (.int l2), some (.int l3), some (.int (l4 + nI 1)), some (.int (mi M 21 l4.toNatClampNeg))]) (by decide +kernel) (by decide) rfl rfl rfl ?_
          refine ex_goto (pc := 76) (off := -71) (tgt := 5) (by decide +kernel) (by decide) ?_
          exact Ex.msk [true, true, true, true, true, false] h
        · replace h := h.2 hc
          refine ex_iload_n (pc := 52) (k := 3) (by decide +kernel) rfl ?_
          refine ex_iconst (pc := 53) (k := 1) (v := nI 1) (by decide +kernel) (by decide) ?_
          refine ex_iload (pc := 54) (k := 5) (by decide +kernel) rfl ?_
          refine ex_ishl (pc := 56) (by decide +kernel) ?_
          refine ex_iconst (pc := 57) (k := -1) (v := -1) (by decide +kernel) (by decide) ?_
          refine ex_ixor (pc := 58) (by decide +kernel) ?_
          refine ex_iand (pc := 59) (by decide +kernel) ?_
          refine ex_iconst (pc := 60) (k := 1) (v := nI 1) (by decide +kernel) (by decide) ?_
          refine ex_iload (pc := 61) (k := 5) (by decide +kernel) rfl ?_
          refine ex_aload_n (pc := 63) (k := 0) (by decide +kernel) rfl ?_
          refine ey_getI (pc := 64) (v := mi M1 1 9) (by decide +kernel) lf_Land_42 (hF1.s (j := 1) rfl) rfl ?_
          refine ex_callSN (pc := 67) (host := "MarketDays") (as := [.int (mi M 21 l4.toNatClampNeg), .int (mi M1 1 9)]) (by decide +kernel) F_MD_dayAfter (List.mem_filter.mpr ⟨in_u3 (i := 212) rfl, rfl⟩) rfl rfl (Nat.le_of_ble_eq_true rfl) (Nat.lt_succ_self _) ⟨Nat.zero_le _, Nat.zero_le _⟩ (KC_I (Con.mono h ?_))
          intro o M2 ⟨r2, e9, hF2, h⟩
          refine ⟨r2, e9, ?_⟩
          refine ex_ishl (pc := 70) (by decide +kernel) ?_
          refine ex_ior (pc := 71) (by decide +kernel) ?_
          refine ex_istore_n (pc := 72) (k := 3) (lo2 := [some (.ref 1), some (.int l1), some (.int l2), some (.int ((l3 &&& (((nI 1) <<< ((mi M 21 l4.toNatClampNeg) &&& 31)) ^^^ (-1))) ||| ((nI 1) <<< (r2 &&& 31)))), some (.int l4), some (.int (mi M 21 l4.toNatClampNeg))]) (by decide +kernel) (by decide) rfl ?_
          refine ex_iinc (pc := 73) (i := 4) (k := 1) (v := l4 + nI 1) (lo2 := [some (.ref 1), some (.int l1), some (.int l2), some (.int ((l3 &&& (((nI 1) <<< ((mi M 21 l4.toNatClampNeg) &&& 31)) ^^^ (-1))) ||| ((nI 1) <<< (r2 &&& 31)))), some (.int (l4 + nI 1)), some (.int (mi M 21 l4.toNatClampNeg))]) (by decide +kernel) (by decide) rfl rfl rfl ?_
          refine ex_goto (pc := 76) (off := -71) (tgt := 5) (by decide +kernel) (by decide) ?_
          exact Ex.msk [true, true, true, true, true, false] h
theorem k_Land_daysOn_0 {d bc bs : Nat} {l1 : Int32} {l2 : Int32} {M : Mem} {Φ : Option Value → Mem → Prop} (hF : Fx M) (h : ((mi M 1 9) ≤ 0 → Φ (some (.int (nI 0))) M) ∧ (¬ (mi M 1 9) ≤ 0 → ¬ (mi M 1 9) = 0 ∧ Φ (some (.int ((l1 + l2) % (mi M 1 9)))) M)) : Ex (d + 1) m_Land_daysOn bc bs 0 [some (.ref 1), some (.int l1), some (.int l2)] [] M Φ := by
  refine ex_aload_n (pc := 0) (k := 0) (by decide +kernel) rfl ?_
  refine ey_getI (pc := 1) (v := mi M 1 9) (by decide +kernel) lf_Land_42 (hF.s (j := 1) rfl) rfl ?_
  refine ex_if_le (pc := 4) (off := 14) (tgt := 18) (by decide +kernel) (by decide) (fun hc => ?_) (fun hc => ?_)
  · replace h := h.1 hc
    refine ex_iconst (pc := 18) (k := 0) (v := nI 0) (by decide +kernel) (by decide) ?_
    exact ex_ireturn (pc := 19) (by decide +kernel) rfl rfl h
  · replace h := h.2 hc
    refine ex_iload_n (pc := 7) (k := 1) (by decide +kernel) rfl ?_
    refine ex_iload_n (pc := 8) (k := 2) (by decide +kernel) rfl ?_
    refine ex_iadd (pc := 9) (by decide +kernel) ?_
    refine ex_aload_n (pc := 10) (k := 0) (by decide +kernel) rfl ?_
    refine ey_getI (pc := 11) (v := mi M 1 9) (by decide +kernel) lf_Land_42 (hF.s (j := 1) rfl) rfl ?_
    obtain ⟨g1, h⟩ := h
    refine ex_irem (pc := 14) (by decide +kernel) g1 ?_
    refine ex_goto (pc := 15) (off := 4) (tgt := 19) (by decide +kernel) (by decide) ?_
    exact ex_ireturn (pc := 19) (by decide +kernel) rfl rfl h
theorem k_Land_become_k_0 {d bc bs : Nat}  {M : Mem} {Φ : Option Value → Mem → Prop} (hF : Fx M) (h : Ex (d + 1) m_Land_become bc bs 2 [some (.ref 22), some (.ref 1), some (.int (nI 0)), none, none] [] M Φ) : Ex (d + 1) m_Land_become bc bs 0 [some (.ref 22), some (.ref 1), none, none, none] [] M Φ := by
  refine ex_iconst (pc := 0) (k := 0) (v := nI 0) (by decide +kernel) (by decide) ?_
  refine ex_istore_n (pc := 1) (k := 2) (lo2 := [some (.ref 22), some (.ref 1), some (.int (nI 0)), none, none]) (by decide +kernel) (by decide) rfl ?_
  exact h
theorem k_Land_become_k_2 {d bc bs : Nat} {l2 : Int32} {M : Mem} {Φ : Option Value → Mem → Prop} (hF : Fx M) (h : ((mi M 1 8) ≤ l2 → Ex (d + 1) m_Land_become bc bs 110 [some (.ref 22), some (.ref 1), some (.int (nI 0)), none, none] [] M Φ) ∧ (¬ (mi M 1 8) ≤ l2 → vp_in l2 6 ∧ vp_in l2 6 ∧ vp_in l2 6 ∧ vp_in l2 6 ∧ vp_in l2 6 ∧ vp_in l2 6 ∧ Ex (d + 1) m_Land_become bc bs 48 [some (.ref 22), some (.ref 1), some (.int l2), some (.int (nI 0)), none] [] (wi (wi (wi M 24 l2.toNatClampNeg (mi M 3 l2.toNatClampNeg)) 25 l2.toNatClampNeg (mi M 4 l2.toNatClampNeg)) 26 l2.toNatClampNeg (mi M 5 l2.toNatClampNeg)) Φ)) : Ex (d + 1) m_Land_become bc bs 2 [some (.ref 22), some (.ref 1), some (.int l2), none, none] [] M Φ := by
  refine ex_iload_n (pc := 2) (k := 2) (by decide +kernel) rfl ?_
  refine ex_aload_n (pc := 3) (k := 1) (by decide +kernel) rfl ?_
  refine ey_getI (pc := 4) (v := mi M 1 8) (by decide +kernel) lf_Land_38 (hF.s (j := 1) rfl) rfl ?_
  refine ex_icmp_ge (pc := 7) (off := 101) (tgt := 108) (by decide +kernel) (by decide) (fun hc => ?_) (fun hc => ?_)
  · replace h := h.1 hc
    refine ex_iconst (pc := 108) (k := 0) (v := nI 0) (by decide +kernel) (by decide) ?_
    refine ex_istore_n (pc := 109) (k := 2) (lo2 := [some (.ref 22), some (.ref 1), some (.int (nI 0)), none, none]) (by decide +kernel) (by decide) rfl ?_
    exact h
  · replace h := h.2 hc
    refine ex_aload_n (pc := 10) (k := 0) (by decide +kernel) rfl ?_
    refine ex_getR (pc := 11) (a := 24) (by decide +kernel) lf_Land_15 (hF.s (j := 22) rfl) (hF.r (j := 22) (k := 1) rfl rfl) ?_
    refine ex_iload_n (pc := 14) (k := 2) (by decide +kernel) rfl ?_
    refine ex_aload_n (pc := 15) (k := 1) (by decide +kernel) rfl ?_
    refine ex_getR (pc := 16) (a := 3) (by decide +kernel) lf_Land_15 (hF.s (j := 1) rfl) (hF.r (j := 1) (k := 1) rfl rfl) ?_
    refine ex_iload_n (pc := 19) (k := 2) (by decide +kernel) rfl ?_
    obtain ⟨g1, h⟩ := h
    refine ey_iald (pc := 20) (v := mi M 3 l2.toNatClampNeg) (by decide +kernel) (hF.s (j := 3) rfl) g1 rfl rfl ?_
    obtain ⟨g2, h⟩ := h
    refine ey_iast (pc := 21) (by decide +kernel) (hF.s (j := 24) rfl) g2 rfl ?_
    refine ex_aload_n (pc := 22) (k := 0) (by decide +kernel) rfl ?_
    refine ex_getR (pc := 23) (a := 25) (by decide +kernel) lf_Land_18 (hF.s (j := 22) rfl) (hF.r (j := 22) (k := 2) rfl rfl) ?_
    refine ex_iload_n (pc := 26) (k := 2) (by decide +kernel) rfl ?_
    refine ex_aload_n (pc := 27) (k := 1) (by decide +kernel) rfl ?_
    refine ex_getR (pc := 28) (a := 4) (by decide +kernel) lf_Land_18 (hF.s (j := 1) rfl) (hF.r (j := 1) (k := 2) rfl rfl) ?_
    refine ex_iload_n (pc := 31) (k := 2) (by decide +kernel) rfl ?_
    obtain ⟨g3, h⟩ := h
    refine ey_iald (pc := 32) (v := mi M 4 l2.toNatClampNeg) (by decide +kernel) (hF.s (j := 4) rfl) g3 rfl rfl ?_
    obtain ⟨g4, h⟩ := h
    refine ey_iast (pc := 33) (by decide +kernel) (hF.s (j := 25) rfl) g4 rfl ?_
    refine ex_aload_n (pc := 34) (k := 0) (by decide +kernel) rfl ?_
    refine ex_getR (pc := 35) (a := 26) (by decide +kernel) lf_Land_21 (hF.s (j := 22) rfl) (hF.r (j := 22) (k := 3) rfl rfl) ?_
    refine ex_iload_n (pc := 38) (k := 2) (by decide +kernel) rfl ?_
    refine ex_aload_n (pc := 39) (k := 1) (by decide +kernel) rfl ?_
    refine ex_getR (pc := 40) (a := 5) (by decide +kernel) lf_Land_21 (hF.s (j := 1) rfl) (hF.r (j := 1) (k := 3) rfl rfl) ?_
    refine ex_iload_n (pc := 43) (k := 2) (by decide +kernel) rfl ?_
    obtain ⟨g5, h⟩ := h
    refine ey_iald (pc := 44) (v := mi M 5 l2.toNatClampNeg) (by decide +kernel) (hF.s (j := 5) rfl) g5 rfl rfl ?_
    obtain ⟨g6, h⟩ := h
    refine ey_iast (pc := 45) (by decide +kernel) (hF.s (j := 26) rfl) g6 rfl ?_
    refine ex_iconst (pc := 46) (k := 0) (v := nI 0) (by decide +kernel) (by decide) ?_
    refine ex_istore_n (pc := 47) (k := 3) (lo2 := [some (.ref 22), some (.ref 1), some (.int l2), some (.int (nI 0)), none]) (by decide +kernel) (by decide) rfl ?_
    exact h
theorem k_Land_become_k_48 {d bc bs : Nat} {l2 : Int32} {l3 : Int32} {M : Mem} {Φ : Option Value → Mem → Prop} (hF : Fx M) (h : ((nI 6) ≤ l3 → Ex (d + 1) m_Land_become bc bs 2 [some (.ref 22), some (.ref 1), some (.int (l2 + nI 1)), none, none] [] M Φ) ∧ (¬ (nI 6) ≤ l3 → ((mi M 1 8) ≤ l3 → vp_in l2 6 ∧ ∃ a1 : Nat, mr M 27 l2.toNatClampNeg = some a1 ∧ ∃ N2 : Nat, (sh M)[a1]? = some (100, N2) ∧ vp_in l3 N2 ∧ vp_in l3 6 ∧ ∃ a3 : Nat, mr M 27 l3.toNatClampNeg = some a3 ∧ ∃ N4 : Nat, (sh (wi M a1 l3.toNatClampNeg (nI 0)))[a3]? = some (100, N4) ∧ vp_in l2 N4 ∧ Ex (d + 1) m_Land_become bc bs 48 [some (.ref 22), some (.ref 1), some (.int l2), some (.int (l3 + nI 1)), none] [] (wi (wi M a1 l3.toNatClampNeg (nI 0)) a3 l2.toNatClampNeg (nI 0)) Φ) ∧ (¬ (mi M 1 8) ≤ l3 → vp_in l2 6 ∧ ∃ a5 : Nat, mr M 6 l2.toNatClampNeg = some a5 ∧ ∃ N6 : Nat, (sh M)[a5]? = some (100, N6) ∧ vp_in l3 N6 ∧ vp_in l2 6 ∧ ∃ a7 : Nat, mr M 27 l2.toNatClampNeg = some a7 ∧ ∃ N8 : Nat, (sh M)[a7]? = some (100, N8) ∧ vp_in l3 N8 ∧ vp_in l3 6 ∧ ∃ a9 : Nat, mr M 27 l3.toNatClampNeg = some a9 ∧ ∃ N10 : Nat, (sh (wi M a7 l3.toNatClampNeg (mi M a5 l3.toNatClampNeg)))[a9]? = some (100, N10) ∧ vp_in l2 N10 ∧ Ex (d + 1) m_Land_become bc bs 48 [some (.ref 22), some (.ref 1), some (.int l2), some (.int (l3 + nI 1)), none] [] (wi (wi M a7 l3.toNatClampNeg (mi M a5 l3.toNatClampNeg)) a9 l2.toNatClampNeg (mi M a5 l3.toNatClampNeg)) Φ))) : Ex (d + 1) m_Land_become bc bs 48 [some (.ref 22), some (.ref 1), some (.int l2), some (.int l3), none] [] M Φ := by
  refine ex_iload_n (pc := 48) (k := 3) (by decide +kernel) rfl ?_
  refine ex_bipush (pc := 49) (k := 6) (v := nI 6) (by decide +kernel) (by decide) ?_
  refine ex_icmp_ge (pc := 51) (off := 51) (tgt := 102) (by decide +kernel) (by decide) (fun hc => ?_) (fun hc => ?_)
  · replace h := h.1 hc
    refine ex_iinc (pc := 102) (i := 2) (k := 1) (v := l2 + nI 1) (lo2 := [some (.ref 22), some (.ref 1), some (.int (l2 + nI 1)), some (.int l3), none]) (by decide +kernel) (by decide) rfl rfl rfl ?_
    refine ex_goto (pc := 105) (off := -103) (tgt := 2) (by decide +kernel) (by decide) ?_
    exact Ex.msk [true, true, true, false, true] h
  · replace h := h.2 hc
    refine ex_iload_n (pc := 54) (k := 3) (by decide +kernel) rfl ?_
    refine ex_aload_n (pc := 55) (k := 1) (by decide +kernel) rfl ?_
    refine ey_getI (pc := 56) (v := mi M 1 8) (by decide +kernel) lf_Land_38 (hF.s (j := 1) rfl) rfl ?_
    refine ex_icmp_ge (pc := 59) (off := 14) (tgt := 73) (by decide +kernel) (by decide) (fun hc => ?_) (fun hc => ?_)
    · replace h := h.1 hc
      refine ex_iconst (pc := 73) (k := 0) (v := nI 0) (by decide +kernel) (by decide) ?_
      refine ex_istore (pc := 74) (k := 4) (lo2 := [some (.ref 22), some (.ref 1), some (.int l2), some (.int l3), some (.int (nI 0))]) (by decide +kernel) (by decide) rfl ?_
      refine ex_aload_n (pc := 76) (k := 0) (by decide +kernel) rfl ?_
      refine ex_getR (pc := 77) (a := 27) (by decide +kernel) lf_Land_26 (hF.s (j := 22) rfl) (hF.r (j := 22) (k := 4) rfl rfl) ?_
      refine ex_iload_n (pc := 80) (k := 2) (by decide +kernel) rfl ?_
      obtain ⟨g1, h⟩ := h
      obtain ⟨a1, g2, h⟩ := h
      refine ey_aald (pc := 81) (r := some a1) (by decide +kernel) (hF.s (j := 27) rfl) (by decide) g1 rfl g2 ?_
      refine ex_iload_n (pc := 82) (k := 3) (by decide +kernel) rfl ?_
      refine ex_iload (pc := 83) (k := 4) (by decide +kernel) rfl ?_
      obtain ⟨N2, g3, h⟩ := h
      obtain ⟨g4, h⟩ := h
      refine ey_iast (pc := 85) (by decide +kernel) g3 g4 rfl ?_
      refine ex_aload_n (pc := 86) (k := 0) (by decide +kernel) rfl ?_
      refine ex_getR (pc := 87) (a := 27) (by decide +kernel) lf_Land_26 (hF.s (j := 22) rfl) (hF.r (j := 22) (k := 4) rfl rfl) ?_
      refine ex_iload_n (pc := 90) (k := 3) (by decide +kernel) rfl ?_
      obtain ⟨g5, h⟩ := h
      obtain ⟨a3, g6, h⟩ := h
      refine ey_aald (pc := 91) (r := some a3) (by decide +kernel) (hF.s (j := 27) rfl) (by decide) g5 rfl g6 ?_
      refine ex_iload_n (pc := 92) (k := 2) (by decide +kernel) rfl ?_
      refine ex_iload (pc := 93) (k := 4) (by decide +kernel) rfl ?_
      obtain ⟨N4, g7, h⟩ := h
      obtain ⟨g8, h⟩ := h
      refine ey_iast (pc := 95) (by decide +kernel) g7 g8 rfl ?_
      refine ex_iinc (pc := 96) (i := 3) (k := 1) (v := l3 + nI 1) (lo2 := [some (.ref 22), some (.ref 1), some (.int l2), some (.int (l3 + nI 1)), some (.int (nI 0))]) (by decide +kernel) (by decide) rfl rfl rfl ?_
      refine ex_goto (pc := 99) (off := -51) (tgt := 48) (by decide +kernel) (by decide) ?_
      exact Ex.msk [true, true, true, true, false] h
    · replace h := h.2 hc
      refine ex_aload_n (pc := 62) (k := 1) (by decide +kernel) rfl ?_
      refine ex_getR (pc := 63) (a := 6) (by decide +kernel) lf_Land_26 (hF.s (j := 1) rfl) (hF.r (j := 1) (k := 4) rfl rfl) ?_
      refine ex_iload_n (pc := 66) (k := 2) (by decide +kernel) rfl ?_
      obtain ⟨g9, h⟩ := h
      obtain ⟨a5, g10, h⟩ := h
      refine ey_aald (pc := 67) (r := some a5) (by decide +kernel) (hF.s (j := 6) rfl) (by decide) g9 rfl g10 ?_
      refine ex_iload_n (pc := 68) (k := 3) (by decide +kernel) rfl ?_
      obtain ⟨N6, g11, h⟩ := h
      obtain ⟨g12, h⟩ := h
      refine ey_iald (pc := 69) (v := mi M a5 l3.toNatClampNeg) (by decide +kernel) g11 g12 rfl rfl ?_
      refine ex_goto (pc := 70) (off := 4) (tgt := 74) (by decide +kernel) (by decide) ?_
      refine ex_istore (pc := 74) (k := 4) (lo2 := [some (.ref 22), some (.ref 1), some (.int l2), some (.int l3), some (.int (mi M a5 l3.toNatClampNeg))]) (by decide +kernel) (by decide) rfl ?_
      refine ex_aload_n (pc := 76) (k := 0) (by decide +kernel) rfl ?_
      refine ex_getR (pc := 77) (a := 27) (by decide +kernel) lf_Land_26 (hF.s (j := 22) rfl) (hF.r (j := 22) (k := 4) rfl rfl) ?_
      refine ex_iload_n (pc := 80) (k := 2) (by decide +kernel) rfl ?_
      obtain ⟨g13, h⟩ := h
      obtain ⟨a7, g14, h⟩ := h
      refine ey_aald (pc := 81) (r := some a7) (by decide +kernel) (hF.s (j := 27) rfl) (by decide) g13 rfl g14 ?_
      refine ex_iload_n (pc := 82) (k := 3) (by decide +kernel) rfl ?_
      refine ex_iload (pc := 83) (k := 4) (by decide +kernel) rfl ?_
      obtain ⟨N8, g15, h⟩ := h
      obtain ⟨g16, h⟩ := h
      refine ey_iast (pc := 85) (by decide +kernel) g15 g16 rfl ?_
      refine ex_aload_n (pc := 86) (k := 0) (by decide +kernel) rfl ?_
      refine ex_getR (pc := 87) (a := 27) (by decide +kernel) lf_Land_26 (hF.s (j := 22) rfl) (hF.r (j := 22) (k := 4) rfl rfl) ?_
      refine ex_iload_n (pc := 90) (k := 3) (by decide +kernel) rfl ?_
      obtain ⟨g17, h⟩ := h
      obtain ⟨a9, g18, h⟩ := h
      refine ey_aald (pc := 91) (r := some a9) (by decide +kernel) (hF.s (j := 27) rfl) (by decide) g17 rfl g18 ?_
      refine ex_iload_n (pc := 92) (k := 2) (by decide +kernel) rfl ?_
      refine ex_iload (pc := 93) (k := 4) (by decide +kernel) rfl ?_
      obtain ⟨N10, g19, h⟩ := h
      obtain ⟨g20, h⟩ := h
      refine ey_iast (pc := 95) (by decide +kernel) g19 g20 rfl ?_
      refine ex_iinc (pc := 96) (i := 3) (k := 1) (v := l3 + nI 1) (lo2 := [some (.ref 22), some (.ref 1), some (.int l2), some (.int (l3 + nI 1)), some (.int (mi M a5 l3.toNatClampNeg))]) (by decide +kernel) (by decide) rfl rfl rfl ?_
      refine ex_goto (pc := 99) (off := -51) (tgt := 48) (by decide +kernel) (by decide) ?_
      exact Ex.msk [true, true, true, true, false] h
theorem k_Land_become_k_110 {d bc bs : Nat} {l2 : Int32} {M : Mem} {Φ : Option Value → Mem → Prop} (hF : Fx M) (h : ((mi M 1 10) ≤ l2 → Con d m_Land_measure 0 0 [.ref 22] (wi (wi (wi (wi M 22 8 (if (mi M 22 8) < (mi M 1 8) then (mi M 1 8) else (mi M 22 8))) 22 9 (mi M 1 9)) 22 10 (mi M 1 10)) 22 11 (mi M 1 11)) (PV fun M1 => Fx M1 ∧ Φ none M1)) ∧ (¬ (mi M 1 10) ≤ l2 → vp_in l2 10 ∧ vp_in l2 10 ∧ vp_in l2 10 ∧ vp_in l2 10 ∧ Ex (d + 1) m_Land_become bc bs 110 [some (.ref 22), some (.ref 1), some (.int (l2 + nI 1)), none, none] [] (wi (wi M 41 l2.toNatClampNeg (mi M 20 l2.toNatClampNeg)) 42 l2.toNatClampNeg (mi M 21 l2.toNatClampNeg)) Φ)) : Ex (d + 1) m_Land_become bc bs 110 [some (.ref 22), some (.ref 1), some (.int l2), none, none] [] M Φ := by
  refine ex_iload_n (pc := 110) (k := 2) (by decide +kernel) rfl ?_
  refine ex_aload_n (pc := 111) (k := 1) (by decide +kernel) rfl ?_
  refine ey_getI (pc := 112) (v := mi M 1 10) (by decide +kernel) lf_Land_45 (hF.s (j := 1) rfl) rfl ?_
  refine ex_icmp_ge (pc := 115) (off := 33) (tgt := 148) (by decide +kernel) (by decide) (fun hc => ?_) (fun hc => ?_)
  · replace h := h.1 hc
    refine ex_aload_n (pc := 148) (k := 0) (by decide +kernel) rfl ?_
    refine ex_aload_n (pc := 149) (k := 0) (by decide +kernel) rfl ?_
    refine ey_getI (pc := 150) (v := mi M 22 8) (by decide +kernel) lf_Land_38 (hF.s (j := 22) rfl) rfl ?_
    refine ex_aload_n (pc := 153) (k := 1) (by decide +kernel) rfl ?_
    refine ey_getI (pc := 154) (v := mi M 1 8) (by decide +kernel) lf_Land_38 (hF.s (j := 1) rfl) rfl ?_
    refine ex_max (pc := 157) (by decide +kernel) (in_t5 (i := 0) rfl rfl) (Nat.le_of_ble_eq_true rfl) (Nat.succ_le_succ (Nat.zero_le _)) ?_
    refine ex_putI (pc := 160) (index := 38) (ci := 4) (k := 8) (fin := false) (by decide +kernel) ⟨_, _, _, _, cf_Land, by decide, in_t1 (i := 56) rfl rfl, rfl, (fun h => by cases h), rfl, rfl⟩ rfl (fun h => by cases h) (hF.s (j := 22) rfl) ?_
    refine ex_aload_n (pc := 163) (k := 0) (by decide +kernel) rfl ?_
    refine ex_aload_n (pc := 164) (k := 1) (by decide +kernel) rfl ?_
    refine ey_getI (pc := 165) (v := mi M 1 9) (by decide +kernel) lf_Land_42 (hF.s (j := 1) rfl) rfl ?_
    refine ex_putI (pc := 168) (index := 42) (ci := 4) (k := 9) (fin := false) (by decide +kernel) ⟨_, _, _, _, cf_Land, by decide, in_t1 (i := 62) rfl rfl, rfl, (fun h => by cases h), rfl, rfl⟩ rfl (fun h => by cases h) (hF.s (j := 22) rfl) ?_
    refine ex_aload_n (pc := 171) (k := 0) (by decide +kernel) rfl ?_
    refine ex_aload_n (pc := 172) (k := 1) (by decide +kernel) rfl ?_
    refine ey_getI (pc := 173) (v := mi M 1 10) (by decide +kernel) lf_Land_45 (hF.s (j := 1) rfl) rfl ?_
    refine ex_putI (pc := 176) (index := 45) (ci := 4) (k := 10) (fin := false) (by decide +kernel) ⟨_, _, _, _, cf_Land, by decide, in_t1 (i := 69) rfl rfl, rfl, (fun h => by cases h), rfl, rfl⟩ rfl (fun h => by cases h) (hF.s (j := 22) rfl) ?_
    refine ex_aload_n (pc := 179) (k := 0) (by decide +kernel) rfl ?_
    refine ex_aload_n (pc := 180) (k := 1) (by decide +kernel) rfl ?_
    refine ey_getI (pc := 181) (v := mi M 1 11) (by decide +kernel) lf_Land_48 (hF.s (j := 1) rfl) rfl ?_
    refine ex_putI (pc := 184) (index := 48) (ci := 4) (k := 11) (fin := false) (by decide +kernel) ⟨_, _, _, _, cf_Land, by decide, in_t1 (i := 71) rfl rfl, rfl, (fun h => by cases h), rfl, rfl⟩ rfl (fun h => by cases h) (hF.s (j := 22) rfl) ?_
    refine ex_aload_n (pc := 187) (k := 0) (by decide +kernel) rfl ?_
    refine ex_callV (pc := 188) (as := []) (by decide +kernel) F_Land_measure (in_t3 (i := 38) rfl rfl) (hF.s (j := 22) rfl) rfl (by decide) rfl rfl (Nat.le_of_ble_eq_true rfl) (Nat.lt_succ_self _) ⟨Nat.zero_le _, Nat.zero_le _⟩ (KC_V (Con.mono h ?_))
    intro o M1 ⟨e9, hF1, h⟩
    refine ⟨e9, ?_⟩
    exact ex_return (pc := 191) (by decide +kernel) rfl h
  · replace h := h.2 hc
    refine ex_aload_n (pc := 118) (k := 0) (by decide +kernel) rfl ?_
    refine ex_getR (pc := 119) (a := 41) (by decide +kernel) lf_Land_32 (hF.s (j := 22) rfl) (hF.r (j := 22) (k := 6) rfl rfl) ?_
    refine ex_iload_n (pc := 122) (k := 2) (by decide +kernel) rfl ?_
    refine ex_aload_n (pc := 123) (k := 1) (by decide +kernel) rfl ?_
    refine ex_getR (pc := 124) (a := 20) (by decide +kernel) lf_Land_32 (hF.s (j := 1) rfl) (hF.r (j := 1) (k := 6) rfl rfl) ?_
    refine ex_iload_n (pc := 127) (k := 2) (by decide +kernel) rfl ?_
    obtain ⟨g1, h⟩ := h
    refine ey_iald (pc := 128) (v := mi M 20 l2.toNatClampNeg) (by decide +kernel) (hF.s (j := 20) rfl) g1 rfl rfl ?_
    obtain ⟨g2, h⟩ := h
    refine ey_iast (pc := 129) (by decide +kernel) (hF.s (j := 41) rfl) g2 rfl ?_
    refine ex_aload_n (pc := 130) (k := 0) (by decide +kernel) rfl ?_
    refine ex_getR (pc := 131) (a := 42) (by decide +kernel) lf_Land_35 (hF.s (j := 22) rfl) (hF.r (j := 22) (k := 7) rfl rfl) ?_
    refine ex_iload_n (pc := 134) (k := 2) (by decide +kernel) rfl ?_
    refine ex_aload_n (pc := 135) (k := 1) (by decide +kernel) rfl ?_
    refine ex_getR (pc := 136) (a := 21) (by decide +kernel) lf_Land_35 (hF.s (j := 1) rfl) (hF.r (j := 1) (k := 7) rfl rfl) ?_
    refine ex_iload_n (pc := 139) (k := 2) (by decide +kernel) rfl ?_
    obtain ⟨g3, h⟩ := h
    refine ey_iald (pc := 140) (v := mi M 21 l2.toNatClampNeg) (by decide +kernel) (hF.s (j := 21) rfl) g3 rfl rfl ?_
    obtain ⟨g4, h⟩ := h
    refine ey_iast (pc := 141) (by decide +kernel) (hF.s (j := 42) rfl) g4 rfl ?_
    refine ex_iinc (pc := 142) (i := 2) (k := 1) (v := l2 + nI 1) (lo2 := [some (.ref 22), some (.ref 1), some (.int (l2 + nI 1)), none, none]) (by decide +kernel) (by decide) rfl rfl rfl ?_
    refine ex_goto (pc := 145) (off := -35) (tgt := 110) (by decide +kernel) (by decide) ?_
    exact h
theorem k_Land_become_b_0 {d bc bs : Nat}  {M : Mem} {Φ : Option Value → Mem → Prop} (hF : Fx M) (h : Ex (d + 1) m_Land_become bc bs 2 [some (.ref 1), some (.ref 22), some (.int (nI 0)), none, none] [] M Φ) : Ex (d + 1) m_Land_become bc bs 0 [some (.ref 1), some (.ref 22), none, none, none] [] M Φ := by
  refine ex_iconst (pc := 0) (k := 0) (v := nI 0) (by decide +kernel) (by decide) ?_
  refine ex_istore_n (pc := 1) (k := 2) (lo2 := [some (.ref 1), some (.ref 22), some (.int (nI 0)), none, none]) (by decide +kernel) (by decide) rfl ?_
  exact h
theorem k_Land_become_b_2 {d bc bs : Nat} {l2 : Int32} {M : Mem} {Φ : Option Value → Mem → Prop} (hF : Fx M) (h : ((mi M 22 8) ≤ l2 → Ex (d + 1) m_Land_become bc bs 110 [some (.ref 1), some (.ref 22), some (.int (nI 0)), none, none] [] M Φ) ∧ (¬ (mi M 22 8) ≤ l2 → vp_in l2 6 ∧ vp_in l2 6 ∧ vp_in l2 6 ∧ vp_in l2 6 ∧ vp_in l2 6 ∧ vp_in l2 6 ∧ Ex (d + 1) m_Land_become bc bs 48 [some (.ref 1), some (.ref 22), some (.int l2), some (.int (nI 0)), none] [] (wi (wi (wi M 3 l2.toNatClampNeg (mi M 24 l2.toNatClampNeg)) 4 l2.toNatClampNeg (mi M 25 l2.toNatClampNeg)) 5 l2.toNatClampNeg (mi M 26 l2.toNatClampNeg)) Φ)) : Ex (d + 1) m_Land_become bc bs 2 [some (.ref 1), some (.ref 22), some (.int l2), none, none] [] M Φ := by
  refine ex_iload_n (pc := 2) (k := 2) (by decide +kernel) rfl ?_
  refine ex_aload_n (pc := 3) (k := 1) (by decide +kernel) rfl ?_
  refine ey_getI (pc := 4) (v := mi M 22 8) (by decide +kernel) lf_Land_38 (hF.s (j := 22) rfl) rfl ?_
  refine ex_icmp_ge (pc := 7) (off := 101) (tgt := 108) (by decide +kernel) (by decide) (fun hc => ?_) (fun hc => ?_)
  · replace h := h.1 hc
    refine ex_iconst (pc := 108) (k := 0) (v := nI 0) (by decide +kernel) (by decide) ?_
    refine ex_istore_n (pc := 109) (k := 2) (lo2 := [some (.ref 1), some (.ref 22), some (.int (nI 0)), none, none]) (by decide +kernel) (by decide) rfl ?_
    exact h
  · replace h := h.2 hc
    refine ex_aload_n (pc := 10) (k := 0) (by decide +kernel) rfl ?_
    refine ex_getR (pc := 11) (a := 3) (by decide +kernel) lf_Land_15 (hF.s (j := 1) rfl) (hF.r (j := 1) (k := 1) rfl rfl) ?_
    refine ex_iload_n (pc := 14) (k := 2) (by decide +kernel) rfl ?_
    refine ex_aload_n (pc := 15) (k := 1) (by decide +kernel) rfl ?_
    refine ex_getR (pc := 16) (a := 24) (by decide +kernel) lf_Land_15 (hF.s (j := 22) rfl) (hF.r (j := 22) (k := 1) rfl rfl) ?_
    refine ex_iload_n (pc := 19) (k := 2) (by decide +kernel) rfl ?_
    obtain ⟨g1, h⟩ := h
    refine ey_iald (pc := 20) (v := mi M 24 l2.toNatClampNeg) (by decide +kernel) (hF.s (j := 24) rfl) g1 rfl rfl ?_
    obtain ⟨g2, h⟩ := h
    refine ey_iast (pc := 21) (by decide +kernel) (hF.s (j := 3) rfl) g2 rfl ?_
    refine ex_aload_n (pc := 22) (k := 0) (by decide +kernel) rfl ?_
    refine ex_getR (pc := 23) (a := 4) (by decide +kernel) lf_Land_18 (hF.s (j := 1) rfl) (hF.r (j := 1) (k := 2) rfl rfl) ?_
    refine ex_iload_n (pc := 26) (k := 2) (by decide +kernel) rfl ?_
    refine ex_aload_n (pc := 27) (k := 1) (by decide +kernel) rfl ?_
    refine ex_getR (pc := 28) (a := 25) (by decide +kernel) lf_Land_18 (hF.s (j := 22) rfl) (hF.r (j := 22) (k := 2) rfl rfl) ?_
    refine ex_iload_n (pc := 31) (k := 2) (by decide +kernel) rfl ?_
    obtain ⟨g3, h⟩ := h
    refine ey_iald (pc := 32) (v := mi M 25 l2.toNatClampNeg) (by decide +kernel) (hF.s (j := 25) rfl) g3 rfl rfl ?_
    obtain ⟨g4, h⟩ := h
    refine ey_iast (pc := 33) (by decide +kernel) (hF.s (j := 4) rfl) g4 rfl ?_
    refine ex_aload_n (pc := 34) (k := 0) (by decide +kernel) rfl ?_
    refine ex_getR (pc := 35) (a := 5) (by decide +kernel) lf_Land_21 (hF.s (j := 1) rfl) (hF.r (j := 1) (k := 3) rfl rfl) ?_
    refine ex_iload_n (pc := 38) (k := 2) (by decide +kernel) rfl ?_
    refine ex_aload_n (pc := 39) (k := 1) (by decide +kernel) rfl ?_
    refine ex_getR (pc := 40) (a := 26) (by decide +kernel) lf_Land_21 (hF.s (j := 22) rfl) (hF.r (j := 22) (k := 3) rfl rfl) ?_
    refine ex_iload_n (pc := 43) (k := 2) (by decide +kernel) rfl ?_
    obtain ⟨g5, h⟩ := h
    refine ey_iald (pc := 44) (v := mi M 26 l2.toNatClampNeg) (by decide +kernel) (hF.s (j := 26) rfl) g5 rfl rfl ?_
    obtain ⟨g6, h⟩ := h
    refine ey_iast (pc := 45) (by decide +kernel) (hF.s (j := 5) rfl) g6 rfl ?_
    refine ex_iconst (pc := 46) (k := 0) (v := nI 0) (by decide +kernel) (by decide) ?_
    refine ex_istore_n (pc := 47) (k := 3) (lo2 := [some (.ref 1), some (.ref 22), some (.int l2), some (.int (nI 0)), none]) (by decide +kernel) (by decide) rfl ?_
    exact h
theorem k_Land_become_b_48 {d bc bs : Nat} {l2 : Int32} {l3 : Int32} {M : Mem} {Φ : Option Value → Mem → Prop} (hF : Fx M) (h : ((nI 6) ≤ l3 → Ex (d + 1) m_Land_become bc bs 2 [some (.ref 1), some (.ref 22), some (.int (l2 + nI 1)), none, none] [] M Φ) ∧ (¬ (nI 6) ≤ l3 → ((mi M 22 8) ≤ l3 → vp_in l2 6 ∧ ∃ a1 : Nat, mr M 6 l2.toNatClampNeg = some a1 ∧ ∃ N2 : Nat, (sh M)[a1]? = some (100, N2) ∧ vp_in l3 N2 ∧ vp_in l3 6 ∧ ∃ a3 : Nat, mr M 6 l3.toNatClampNeg = some a3 ∧ ∃ N4 : Nat, (sh (wi M a1 l3.toNatClampNeg (nI 0)))[a3]? = some (100, N4) ∧ vp_in l2 N4 ∧ Ex (d + 1) m_Land_become bc bs 48 [some (.ref 1), some (.ref 22), some (.int l2), some (.int (l3 + nI 1)), none] [] (wi (wi M a1 l3.toNatClampNeg (nI 0)) a3 l2.toNatClampNeg (nI 0)) Φ) ∧ (¬ (mi M 22 8) ≤ l3 → vp_in l2 6 ∧ ∃ a5 : Nat, mr M 27 l2.toNatClampNeg = some a5 ∧ ∃ N6 : Nat, (sh M)[a5]? = some (100, N6) ∧ vp_in l3 N6 ∧ vp_in l2 6 ∧ ∃ a7 : Nat, mr M 6 l2.toNatClampNeg = some a7 ∧ ∃ N8 : Nat, (sh M)[a7]? = some (100, N8) ∧ vp_in l3 N8 ∧ vp_in l3 6 ∧ ∃ a9 : Nat, mr M 6 l3.toNatClampNeg = some a9 ∧ ∃ N10 : Nat, (sh (wi M a7 l3.toNatClampNeg (mi M a5 l3.toNatClampNeg)))[a9]? = some (100, N10) ∧ vp_in l2 N10 ∧ Ex (d + 1) m_Land_become bc bs 48 [some (.ref 1), some (.ref 22), some (.int l2), some (.int (l3 + nI 1)), none] [] (wi (wi M a7 l3.toNatClampNeg (mi M a5 l3.toNatClampNeg)) a9 l2.toNatClampNeg (mi M a5 l3.toNatClampNeg)) Φ))) : Ex (d + 1) m_Land_become bc bs 48 [some (.ref 1), some (.ref 22), some (.int l2), some (.int l3), none] [] M Φ := by
  refine ex_iload_n (pc := 48) (k := 3) (by decide +kernel) rfl ?_
  refine ex_bipush (pc := 49) (k := 6) (v := nI 6) (by decide +kernel) (by decide) ?_
  refine ex_icmp_ge (pc := 51) (off := 51) (tgt := 102) (by decide +kernel) (by decide) (fun hc => ?_) (fun hc => ?_)
  · replace h := h.1 hc
    refine ex_iinc (pc := 102) (i := 2) (k := 1) (v := l2 + nI 1) (lo2 := [some (.ref 1), some (.ref 22), some (.int (l2 + nI 1)), some (.int l3), none]) (by decide +kernel) (by decide) rfl rfl rfl ?_
    refine ex_goto (pc := 105) (off := -103) (tgt := 2) (by decide +kernel) (by decide) ?_
    exact Ex.msk [true, true, true, false, true] h
  · replace h := h.2 hc
    refine ex_iload_n (pc := 54) (k := 3) (by decide +kernel) rfl ?_
    refine ex_aload_n (pc := 55) (k := 1) (by decide +kernel) rfl ?_
    refine ey_getI (pc := 56) (v := mi M 22 8) (by decide +kernel) lf_Land_38 (hF.s (j := 22) rfl) rfl ?_
    refine ex_icmp_ge (pc := 59) (off := 14) (tgt := 73) (by decide +kernel) (by decide) (fun hc => ?_) (fun hc => ?_)
    · replace h := h.1 hc
      refine ex_iconst (pc := 73) (k := 0) (v := nI 0) (by decide +kernel) (by decide) ?_
      refine ex_istore (pc := 74) (k := 4) (lo2 := [some (.ref 1), some (.ref 22), some (.int l2), some (.int l3), some (.int (nI 0))]) (by decide +kernel) (by decide) rfl ?_
      refine ex_aload_n (pc := 76) (k := 0) (by decide +kernel) rfl ?_
      refine ex_getR (pc := 77) (a := 6) (by decide +kernel) lf_Land_26 (hF.s (j := 1) rfl) (hF.r (j := 1) (k := 4) rfl rfl) ?_
      refine ex_iload_n (pc := 80) (k := 2) (by decide +kernel) rfl ?_
      obtain ⟨g1, h⟩ := h
      obtain ⟨a1, g2, h⟩ := h
      refine ey_aald (pc := 81) (r := some a1) (by decide +kernel) (hF.s (j := 6) rfl) (by decide) g1 rfl g2 ?_
      refine ex_iload_n (pc := 82) (k := 3) (by decide +kernel) rfl ?_
      refine ex_iload (pc := 83) (k := 4) (by decide +kernel) rfl ?_
      obtain ⟨N2, g3, h⟩ := h
      obtain ⟨g4, h⟩ := h
      refine ey_iast (pc := 85) (by decide +kernel) g3 g4 rfl ?_
      refine ex_aload_n (pc := 86) (k := 0) (by decide +kernel) rfl ?_
      refine ex_getR (pc := 87) (a := 6) (by decide +kernel) lf_Land_26 (hF.s (j := 1) rfl) (hF.r (j := 1) (k := 4) rfl rfl) ?_
      refine ex_iload_n (pc := 90) (k := 3) (by decide +kernel) rfl ?_
      obtain ⟨g5, h⟩ := h
      obtain ⟨a3, g6, h⟩ := h
      refine ey_aald (pc := 91) (r := some a3) (by decide +kernel) (hF.s (j := 6) rfl) (by decide) g5 rfl g6 ?_
      refine ex_iload_n (pc := 92) (k := 2) (by decide +kernel) rfl ?_
      refine ex_iload (pc := 93) (k := 4) (by decide +kernel) rfl ?_
      obtain ⟨N4, g7, h⟩ := h
      obtain ⟨g8, h⟩ := h
      refine ey_iast (pc := 95) (by decide +kernel) g7 g8 rfl ?_
      refine ex_iinc (pc := 96) (i := 3) (k := 1) (v := l3 + nI 1) (lo2 := [some (.ref 1), some (.ref 22), some (.int l2), some (.int (l3 + nI 1)), some (.int (nI 0))]) (by decide +kernel) (by decide) rfl rfl rfl ?_
      refine ex_goto (pc := 99) (off := -51) (tgt := 48) (by decide +kernel) (by decide) ?_
      exact Ex.msk [true, true, true, true, false] h
    · replace h := h.2 hc
      refine ex_aload_n (pc := 62) (k := 1) (by decide +kernel) rfl ?_
      refine ex_getR (pc := 63) (a := 27) (by decide +kernel) lf_Land_26 (hF.s (j := 22) rfl) (hF.r (j := 22) (k := 4) rfl rfl) ?_
      refine ex_iload_n (pc := 66) (k := 2) (by decide +kernel) rfl ?_
      obtain ⟨g9, h⟩ := h
      obtain ⟨a5, g10, h⟩ := h
      refine ey_aald (pc := 67) (r := some a5) (by decide +kernel) (hF.s (j := 27) rfl) (by decide) g9 rfl g10 ?_
      refine ex_iload_n (pc := 68) (k := 3) (by decide +kernel) rfl ?_
      obtain ⟨N6, g11, h⟩ := h
      obtain ⟨g12, h⟩ := h
      refine ey_iald (pc := 69) (v := mi M a5 l3.toNatClampNeg) (by decide +kernel) g11 g12 rfl rfl ?_
      refine ex_goto (pc := 70) (off := 4) (tgt := 74) (by decide +kernel) (by decide) ?_
      refine ex_istore (pc := 74) (k := 4) (lo2 := [some (.ref 1), some (.ref 22), some (.int l2), some (.int l3), some (.int (mi M a5 l3.toNatClampNeg))]) (by decide +kernel) (by decide) rfl ?_
      refine ex_aload_n (pc := 76) (k := 0) (by decide +kernel) rfl ?_
      refine ex_getR (pc := 77) (a := 6) (by decide +kernel) lf_Land_26 (hF.s (j := 1) rfl) (hF.r (j := 1) (k := 4) rfl rfl) ?_
      refine ex_iload_n (pc := 80) (k := 2) (by decide +kernel) rfl ?_
      obtain ⟨g13, h⟩ := h
      obtain ⟨a7, g14, h⟩ := h
      refine ey_aald (pc := 81) (r := some a7) (by decide +kernel) (hF.s (j := 6) rfl) (by decide) g13 rfl g14 ?_
      refine ex_iload_n (pc := 82) (k := 3) (by decide +kernel) rfl ?_
      refine ex_iload (pc := 83) (k := 4) (by decide +kernel) rfl ?_
      obtain ⟨N8, g15, h⟩ := h
      obtain ⟨g16, h⟩ := h
      refine ey_iast (pc := 85) (by decide +kernel) g15 g16 rfl ?_
      refine ex_aload_n (pc := 86) (k := 0) (by decide +kernel) rfl ?_
      refine ex_getR (pc := 87) (a := 6) (by decide +kernel) lf_Land_26 (hF.s (j := 1) rfl) (hF.r (j := 1) (k := 4) rfl rfl) ?_
      refine ex_iload_n (pc := 90) (k := 3) (by decide +kernel) rfl ?_
      obtain ⟨g17, h⟩ := h
      obtain ⟨a9, g18, h⟩ := h
      refine ey_aald (pc := 91) (r := some a9) (by decide +kernel) (hF.s (j := 6) rfl) (by decide) g17 rfl g18 ?_
      refine ex_iload_n (pc := 92) (k := 2) (by decide +kernel) rfl ?_
      refine ex_iload (pc := 93) (k := 4) (by decide +kernel) rfl ?_
      obtain ⟨N10, g19, h⟩ := h
      obtain ⟨g20, h⟩ := h
      refine ey_iast (pc := 95) (by decide +kernel) g19 g20 rfl ?_
      refine ex_iinc (pc := 96) (i := 3) (k := 1) (v := l3 + nI 1) (lo2 := [some (.ref 1), some (.ref 22), some (.int l2), some (.int (l3 + nI 1)), some (.int (mi M a5 l3.toNatClampNeg))]) (by decide +kernel) (by decide) rfl rfl rfl ?_
      refine ex_goto (pc := 99) (off := -51) (tgt := 48) (by decide +kernel) (by decide) ?_
      exact Ex.msk [true, true, true, true, false] h
theorem k_Land_become_b_110 {d bc bs : Nat} {l2 : Int32} {M : Mem} {Φ : Option Value → Mem → Prop} (hF : Fx M) (h : ((mi M 22 10) ≤ l2 → Con d m_Land_measure 0 0 [.ref 1] (wi (wi (wi (wi M 1 8 (if (mi M 1 8) < (mi M 22 8) then (mi M 22 8) else (mi M 1 8))) 1 9 (mi M 22 9)) 1 10 (mi M 22 10)) 1 11 (mi M 22 11)) (PV fun M1 => Fx M1 ∧ Φ none M1)) ∧ (¬ (mi M 22 10) ≤ l2 → vp_in l2 10 ∧ vp_in l2 10 ∧ vp_in l2 10 ∧ vp_in l2 10 ∧ Ex (d + 1) m_Land_become bc bs 110 [some (.ref 1), some (.ref 22), some (.int (l2 + nI 1)), none, none] [] (wi (wi M 20 l2.toNatClampNeg (mi M 41 l2.toNatClampNeg)) 21 l2.toNatClampNeg (mi M 42 l2.toNatClampNeg)) Φ)) : Ex (d + 1) m_Land_become bc bs 110 [some (.ref 1), some (.ref 22), some (.int l2), none, none] [] M Φ := by
  refine ex_iload_n (pc := 110) (k := 2) (by decide +kernel) rfl ?_
  refine ex_aload_n (pc := 111) (k := 1) (by decide +kernel) rfl ?_
  refine ey_getI (pc := 112) (v := mi M 22 10) (by decide +kernel) lf_Land_45 (hF.s (j := 22) rfl) rfl ?_
  refine ex_icmp_ge (pc := 115) (off := 33) (tgt := 148) (by decide +kernel) (by decide) (fun hc => ?_) (fun hc => ?_)
  · replace h := h.1 hc
    refine ex_aload_n (pc := 148) (k := 0) (by decide +kernel) rfl ?_
    refine ex_aload_n (pc := 149) (k := 0) (by decide +kernel) rfl ?_
    refine ey_getI (pc := 150) (v := mi M 1 8) (by decide +kernel) lf_Land_38 (hF.s (j := 1) rfl) rfl ?_
    refine ex_aload_n (pc := 153) (k := 1) (by decide +kernel) rfl ?_
    refine ey_getI (pc := 154) (v := mi M 22 8) (by decide +kernel) lf_Land_38 (hF.s (j := 22) rfl) rfl ?_
    refine ex_max (pc := 157) (by decide +kernel) (in_t5 (i := 0) rfl rfl) (Nat.le_of_ble_eq_true rfl) (Nat.succ_le_succ (Nat.zero_le _)) ?_
    refine ex_putI (pc := 160) (index := 38) (ci := 4) (k := 8) (fin := false) (by decide +kernel) ⟨_, _, _, _, cf_Land, by decide, in_t1 (i := 56) rfl rfl, rfl, (fun h => by cases h), rfl, rfl⟩ rfl (fun h => by cases h) (hF.s (j := 1) rfl) ?_
    refine ex_aload_n (pc := 163) (k := 0) (by decide +kernel) rfl ?_
    refine ex_aload_n (pc := 164) (k := 1) (by decide +kernel) rfl ?_
    refine ey_getI (pc := 165) (v := mi M 22 9) (by decide +kernel) lf_Land_42 (hF.s (j := 22) rfl) rfl ?_
    refine ex_putI (pc := 168) (index := 42) (ci := 4) (k := 9) (fin := false) (by decide +kernel) ⟨_, _, _, _, cf_Land, by decide, in_t1 (i := 62) rfl rfl, rfl, (fun h => by cases h), rfl, rfl⟩ rfl (fun h => by cases h) (hF.s (j := 1) rfl) ?_
    refine ex_aload_n (pc := 171) (k := 0) (by decide +kernel) rfl ?_
    refine ex_aload_n (pc := 172) (k := 1) (by decide +kernel) rfl ?_
    refine ey_getI (pc := 173) (v := mi M 22 10) (by decide +kernel) lf_Land_45 (hF.s (j := 22) rfl) rfl ?_
    refine ex_putI (pc := 176) (index := 45) (ci := 4) (k := 10) (fin := false) (by decide +kernel) ⟨_, _, _, _, cf_Land, by decide, in_t1 (i := 69) rfl rfl, rfl, (fun h => by cases h), rfl, rfl⟩ rfl (fun h => by cases h) (hF.s (j := 1) rfl) ?_
    refine ex_aload_n (pc := 179) (k := 0) (by decide +kernel) rfl ?_
    refine ex_aload_n (pc := 180) (k := 1) (by decide +kernel) rfl ?_
    refine ey_getI (pc := 181) (v := mi M 22 11) (by decide +kernel) lf_Land_48 (hF.s (j := 22) rfl) rfl ?_
    refine ex_putI (pc := 184) (index := 48) (ci := 4) (k := 11) (fin := false) (by decide +kernel) ⟨_, _, _, _, cf_Land, by decide, in_t1 (i := 71) rfl rfl, rfl, (fun h => by cases h), rfl, rfl⟩ rfl (fun h => by cases h) (hF.s (j := 1) rfl) ?_
    refine ex_aload_n (pc := 187) (k := 0) (by decide +kernel) rfl ?_
    refine ex_callV (pc := 188) (as := []) (by decide +kernel) F_Land_measure (in_t3 (i := 38) rfl rfl) (hF.s (j := 1) rfl) rfl (by decide) rfl rfl (Nat.le_of_ble_eq_true rfl) (Nat.lt_succ_self _) ⟨Nat.zero_le _, Nat.zero_le _⟩ (KC_V (Con.mono h ?_))
    intro o M1 ⟨e9, hF1, h⟩
    refine ⟨e9, ?_⟩
    exact ex_return (pc := 191) (by decide +kernel) rfl h
  · replace h := h.2 hc
    refine ex_aload_n (pc := 118) (k := 0) (by decide +kernel) rfl ?_
    refine ex_getR (pc := 119) (a := 20) (by decide +kernel) lf_Land_32 (hF.s (j := 1) rfl) (hF.r (j := 1) (k := 6) rfl rfl) ?_
    refine ex_iload_n (pc := 122) (k := 2) (by decide +kernel) rfl ?_
    refine ex_aload_n (pc := 123) (k := 1) (by decide +kernel) rfl ?_
    refine ex_getR (pc := 124) (a := 41) (by decide +kernel) lf_Land_32 (hF.s (j := 22) rfl) (hF.r (j := 22) (k := 6) rfl rfl) ?_
    refine ex_iload_n (pc := 127) (k := 2) (by decide +kernel) rfl ?_
    obtain ⟨g1, h⟩ := h
    refine ey_iald (pc := 128) (v := mi M 41 l2.toNatClampNeg) (by decide +kernel) (hF.s (j := 41) rfl) g1 rfl rfl ?_
    obtain ⟨g2, h⟩ := h
    refine ey_iast (pc := 129) (by decide +kernel) (hF.s (j := 20) rfl) g2 rfl ?_
    refine ex_aload_n (pc := 130) (k := 0) (by decide +kernel) rfl ?_
    refine ex_getR (pc := 131) (a := 21) (by decide +kernel) lf_Land_35 (hF.s (j := 1) rfl) (hF.r (j := 1) (k := 7) rfl rfl) ?_
    refine ex_iload_n (pc := 134) (k := 2) (by decide +kernel) rfl ?_
    refine ex_aload_n (pc := 135) (k := 1) (by decide +kernel) rfl ?_
    refine ex_getR (pc := 136) (a := 42) (by decide +kernel) lf_Land_35 (hF.s (j := 22) rfl) (hF.r (j := 22) (k := 7) rfl rfl) ?_
    refine ex_iload_n (pc := 139) (k := 2) (by decide +kernel) rfl ?_
    obtain ⟨g3, h⟩ := h
    refine ey_iald (pc := 140) (v := mi M 42 l2.toNatClampNeg) (by decide +kernel) (hF.s (j := 42) rfl) g3 rfl rfl ?_
    obtain ⟨g4, h⟩ := h
    refine ey_iast (pc := 141) (by decide +kernel) (hF.s (j := 21) rfl) g4 rfl ?_
    refine ex_iinc (pc := 142) (i := 2) (k := 1) (v := l2 + nI 1) (lo2 := [some (.ref 1), some (.ref 22), some (.int (l2 + nI 1)), none, none]) (by decide +kernel) (by decide) rfl rfl rfl ?_
    refine ex_goto (pc := 145) (off := -35) (tgt := 110) (by decide +kernel) (by decide) ?_
    exact h
theorem k_Land_measure_0 {d bc bs : Nat}  {M : Mem} {Φ : Option Value → Mem → Prop} (hF : Fx M) (h : Ex (d + 1) m_Land_measure bc bs 2 [some (.ref 1), some (.int (nI 0)), none, none] [] M Φ) : Ex (d + 1) m_Land_measure bc bs 0 [some (.ref 1), none, none, none] [] M Φ := by
  refine ex_iconst (pc := 0) (k := 0) (v := nI 0) (by decide +kernel) (by decide) ?_
  refine ex_istore_n (pc := 1) (k := 1) (lo2 := [some (.ref 1), some (.int (nI 0)), none, none]) (by decide +kernel) (by decide) rfl ?_
  exact h
theorem k_Land_measure_2 {d bc bs : Nat} {l1 : Int32} {M : Mem} {Φ : Option Value → Mem → Prop} (hF : Fx M) (h : ((mi M 1 8) ≤ l1 → Ex (d + 1) m_Land_measure bc bs 75 [some (.ref 1), some (.int (nI 0)), none, none] [] M Φ) ∧ (¬ (mi M 1 8) ≤ l1 → Ex (d + 1) m_Land_measure bc bs 12 [some (.ref 1), some (.int l1), some (.int (nI 0)), none] [] M Φ)) : Ex (d + 1) m_Land_measure bc bs 2 [some (.ref 1), some (.int l1), none, none] [] M Φ := by
  refine ex_iload_n (pc := 2) (k := 1) (by decide +kernel) rfl ?_
  refine ex_aload_n (pc := 3) (k := 0) (by decide +kernel) rfl ?_
  refine ey_getI (pc := 4) (v := mi M 1 8) (by decide +kernel) lf_Land_38 (hF.s (j := 1) rfl) rfl ?_
  refine ex_icmp_ge (pc := 7) (off := 66) (tgt := 73) (by decide +kernel) (by decide) (fun hc => ?_) (fun hc => ?_)
  · replace h := h.1 hc
    refine ex_iconst (pc := 73) (k := 0) (v := nI 0) (by decide +kernel) (by decide) ?_
    refine ex_istore_n (pc := 74) (k := 1) (lo2 := [some (.ref 1), some (.int (nI 0)), none, none]) (by decide +kernel) (by decide) rfl ?_
    exact h
  · replace h := h.2 hc
    refine ex_iconst (pc := 10) (k := 0) (v := nI 0) (by decide +kernel) (by decide) ?_
    refine ex_istore_n (pc := 11) (k := 2) (lo2 := [some (.ref 1), some (.int l1), some (.int (nI 0)), none]) (by decide +kernel) (by decide) rfl ?_
    exact h
theorem k_Land_measure_12 {d bc bs : Nat} {l1 : Int32} {l2 : Int32} {M : Mem} {Φ : Option Value → Mem → Prop} (hF : Fx M) (h : ((mi M 1 8) ≤ l2 → Ex (d + 1) m_Land_measure bc bs 2 [some (.ref 1), some (.int (l1 + nI 1)), none, none] [] M Φ) ∧ (¬ (mi M 1 8) ≤ l2 → vp_in l1 6 ∧ ∃ a1 : Nat, mr M 13 l1.toNatClampNeg = some a1 ∧ (¬ l1 = l2 → vp_in l1 6 ∧ ∃ a2 : Nat, mr M 6 l1.toNatClampNeg = some a2 ∧ ∃ N3 : Nat, (sh M)[a2]? = some (100, N3) ∧ vp_in l2 N3 ∧ (¬ (mi M a2 l2.toNatClampNeg) = 0 → vp_in l1 6 ∧ ∃ a4 : Nat, mr M 6 l1.toNatClampNeg = some a4 ∧ ∃ N5 : Nat, (sh M)[a4]? = some (100, N5) ∧ vp_in l2 N5 ∧ ∃ N6 : Nat, (sh M)[a1]? = some (100, N6) ∧ vp_in l2 N6 ∧ Ex (d + 1) m_Land_measure bc bs 12 [some (.ref 1), some (.int l1), some (.int (l2 + nI 1)), none] [] (wi M a1 l2.toNatClampNeg (mi M a4 l2.toNatClampNeg)) Φ) ∧ ((mi M a2 l2.toNatClampNeg) = 0 → ∃ N7 : Nat, (sh M)[a1]? = some (100, N7) ∧ vp_in l2 N7 ∧ Ex (d + 1) m_Land_measure bc bs 12 [some (.ref 1), some (.int l1), some (.int (l2 + nI 1)), none] [] (wi M a1 l2.toNatClampNeg (nI 99)) Φ)) ∧ (l1 = l2 → ∃ N8 : Nat, (sh M)[a1]? = some (100, N8) ∧ vp_in l2 N8 ∧ Ex (d + 1) m_Land_measure bc bs 12 [some (.ref 1), some (.int l1), some (.int (l2 + nI 1)), none] [] (wi M a1 l2.toNatClampNeg (nI 0)) Φ))) : Ex (d + 1) m_Land_measure bc bs 12 [some (.ref 1), some (.int l1), some (.int l2), none] [] M Φ := by
  refine ex_iload_n (pc := 12) (k := 2) (by decide +kernel) rfl ?_
  refine ex_aload_n (pc := 13) (k := 0) (by decide +kernel) rfl ?_
  refine ey_getI (pc := 14) (v := mi M 1 8) (by decide +kernel) lf_Land_38 (hF.s (j := 1) rfl) rfl ?_
  refine ex_icmp_ge (pc := 17) (off := 50) (tgt := 67) (by decide +kernel) (by decide) (fun hc => ?_) (fun hc => ?_)
  · replace h := h.1 hc
    refine ex_iinc (pc := 67) (i := 1) (k := 1) (v := l1 + nI 1) (lo2 := [some (.ref 1), some (.int (l1 + nI 1)), some (.int l2), none]) (by decide +kernel) (by decide) rfl rfl rfl ?_
    refine ex_goto (pc := 70) (off := -68) (tgt := 2) (by decide +kernel) (by decide) ?_
    exact Ex.msk [true, true, false, true] h
  · replace h := h.2 hc
    refine ex_aload_n (pc := 20) (k := 0) (by decide +kernel) rfl ?_
    refine ex_getR (pc := 21) (a := 13) (by decide +kernel) lf_Land_29 (hF.s (j := 1) rfl) (hF.r (j := 1) (k := 5) rfl rfl) ?_
    refine ex_iload_n (pc := 24) (k := 1) (by decide +kernel) rfl ?_
    obtain ⟨g1, h⟩ := h
    obtain ⟨a1, g2, h⟩ := h
    refine ey_aald (pc := 25) (r := some a1) (by decide +kernel) (hF.s (j := 13) rfl) (by decide) g1 rfl g2 ?_
    refine ex_iload_n (pc := 26) (k := 2) (by decide +kernel) rfl ?_
    refine ex_iload_n (pc := 27) (k := 1) (by decide +kernel) rfl ?_
    refine ex_iload_n (pc := 28) (k := 2) (by decide +kernel) rfl ?_
    refine ex_icmp_ne (pc := 29) (off := 7) (tgt := 36) (by decide +kernel) (by decide) (fun hc => ?_) (fun hc => ?_)
    · replace h := h.1 hc
      refine ex_aload_n (pc := 36) (k := 0) (by decide +kernel) rfl ?_
      refine ex_getR (pc := 37) (a := 6) (by decide +kernel) lf_Land_26 (hF.s (j := 1) rfl) (hF.r (j := 1) (k := 4) rfl rfl) ?_
      refine ex_iload_n (pc := 40) (k := 1) (by decide +kernel) rfl ?_
      obtain ⟨g3, h⟩ := h
      obtain ⟨a2, g4, h⟩ := h
      refine ey_aald (pc := 41) (r := some a2) (by decide +kernel) (hF.s (j := 6) rfl) (by decide) g3 rfl g4 ?_
      refine ex_iload_n (pc := 42) (k := 2) (by decide +kernel) rfl ?_
      obtain ⟨N3, g5, h⟩ := h
      obtain ⟨g6, h⟩ := h
      refine ey_iald (pc := 43) (v := mi M a2 l2.toNatClampNeg) (by decide +kernel) g5 g6 rfl rfl ?_
      refine ex_if_ne (pc := 44) (off := 8) (tgt := 52) (by decide +kernel) (by decide) (fun hc => ?_) (fun hc => ?_)
      · replace h := h.1 hc
        refine ex_aload_n (pc := 52) (k := 0) (by decide +kernel) rfl ?_
        refine ex_getR (pc := 53) (a := 6) (by decide +kernel) lf_Land_26 (hF.s (j := 1) rfl) (hF.r (j := 1) (k := 4) rfl rfl) ?_
        refine ex_iload_n (pc := 56) (k := 1) (by decide +kernel) rfl ?_
        obtain ⟨g7, h⟩ := h
        obtain ⟨a4, g8, h⟩ := h
        refine ey_aald (pc := 57) (r := some a4) (by decide +kernel) (hF.s (j := 6) rfl) (by decide) g7 rfl g8 ?_
        refine ex_iload_n (pc := 58) (k := 2) (by decide +kernel) rfl ?_
        obtain ⟨N5, g9, h⟩ := h
        obtain ⟨g10, h⟩ := h
        refine ey_iald (pc := 59) (v := mi M a4 l2.toNatClampNeg) (by decide +kernel) g9 g10 rfl rfl ?_
        obtain ⟨N6, g11, h⟩ := h
        obtain ⟨g12, h⟩ := h
        refine ey_iast (pc := 60) (by decide +kernel) g11 g12 rfl ?_
        refine ex_iinc (pc := 61) (i := 2) (k := 1) (v := l2 + nI 1) (lo2 := [some (.ref 1), some (.int l1), some (.int (l2 + nI 1)), none]) (by decide +kernel) (by decide) rfl rfl rfl ?_
        refine ex_goto (pc := 64) (off := -52) (tgt := 12) (by decide +kernel) (by decide) ?_
        exact h
      · replace h := h.2 hc
        refine ex_bipush (pc := 47) (k := 99) (v := nI 99) (by decide +kernel) (by decide) ?_
        refine ex_goto (pc := 49) (off := 11) (tgt := 60) (by decide +kernel) (by decide) ?_
        obtain ⟨N7, g13, h⟩ := h
        obtain ⟨g14, h⟩ := h
        refine ey_iast (pc := 60) (by decide +kernel) g13 g14 rfl ?_
        refine ex_iinc (pc := 61) (i := 2) (k := 1) (v := l2 + nI 1) (lo2 := [some (.ref 1), some (.int l1), some (.int (l2 + nI 1)), none]) (by decide +kernel) (by decide) rfl rfl rfl ?_
        refine ex_goto (pc := 64) (off := -52) (tgt := 12) (by decide +kernel) (by decide) ?_
        exact h
    · replace h := h.2 hc
      refine ex_iconst (pc := 32) (k := 0) (v := nI 0) (by decide +kernel) (by decide) ?_
      refine ex_goto (pc := 33) (off := 27) (tgt := 60) (by decide +kernel) (by decide) ?_
      obtain ⟨N8, g15, h⟩ := h
      obtain ⟨g16, h⟩ := h
      refine ey_iast (pc := 60) (by decide +kernel) g15 g16 rfl ?_
      refine ex_iinc (pc := 61) (i := 2) (k := 1) (v := l2 + nI 1) (lo2 := [some (.ref 1), some (.int l1), some (.int (l2 + nI 1)), none]) (by decide +kernel) (by decide) rfl rfl rfl ?_
      refine ex_goto (pc := 64) (off := -52) (tgt := 12) (by decide +kernel) (by decide) ?_
      exact h
theorem k_Land_measure_75 {d bc bs : Nat} {l1 : Int32} {M : Mem} {Φ : Option Value → Mem → Prop} (hF : Fx M) (h : ((mi M 1 8) ≤ l1 → Φ none M) ∧ (¬ (mi M 1 8) ≤ l1 → Ex (d + 1) m_Land_measure bc bs 85 [some (.ref 1), some (.int l1), some (.int (nI 0)), none] [] M Φ)) : Ex (d + 1) m_Land_measure bc bs 75 [some (.ref 1), some (.int l1), none, none] [] M Φ := by
  refine ex_iload_n (pc := 75) (k := 1) (by decide +kernel) rfl ?_
  refine ex_aload_n (pc := 76) (k := 0) (by decide +kernel) rfl ?_
  refine ey_getI (pc := 77) (v := mi M 1 8) (by decide +kernel) lf_Land_38 (hF.s (j := 1) rfl) rfl ?_
  refine ex_icmp_ge (pc := 80) (off := 77) (tgt := 157) (by decide +kernel) (by decide) (fun hc => ?_) (fun hc => ?_)
  · replace h := h.1 hc
    exact ex_return (pc := 157) (by decide +kernel) rfl h
  · replace h := h.2 hc
    refine ex_iconst (pc := 83) (k := 0) (v := nI 0) (by decide +kernel) (by decide) ?_
    refine ex_istore_n (pc := 84) (k := 2) (lo2 := [some (.ref 1), some (.int l1), some (.int (nI 0)), none]) (by decide +kernel) (by decide) rfl ?_
    exact h
theorem k_Land_measure_85 {d bc bs : Nat} {l1 : Int32} {l2 : Int32} {M : Mem} {Φ : Option Value → Mem → Prop} (hF : Fx M) (h : ((mi M 1 8) ≤ l2 → Ex (d + 1) m_Land_measure bc bs 75 [some (.ref 1), some (.int (l1 + nI 1)), none, none] [] M Φ) ∧ (¬ (mi M 1 8) ≤ l2 → Ex (d + 1) m_Land_measure bc bs 95 [some (.ref 1), some (.int l1), some (.int l2), some (.int (nI 0))] [] M Φ)) : Ex (d + 1) m_Land_measure bc bs 85 [some (.ref 1), some (.int l1), some (.int l2), none] [] M Φ := by
  refine ex_iload_n (pc := 85) (k := 2) (by decide +kernel) rfl ?_
  refine ex_aload_n (pc := 86) (k := 0) (by decide +kernel) rfl ?_
  refine ey_getI (pc := 87) (v := mi M 1 8) (by decide +kernel) lf_Land_38 (hF.s (j := 1) rfl) rfl ?_
  refine ex_icmp_ge (pc := 90) (off := 61) (tgt := 151) (by decide +kernel) (by decide) (fun hc => ?_) (fun hc => ?_)
  · replace h := h.1 hc
    refine ex_iinc (pc := 151) (i := 1) (k := 1) (v := l1 + nI 1) (lo2 := [some (.ref 1), some (.int (l1 + nI 1)), some (.int l2), none]) (by decide +kernel) (by decide) rfl rfl rfl ?_
    refine ex_goto (pc := 154) (off := -79) (tgt := 75) (by decide +kernel) (by decide) ?_
    exact Ex.msk [true, true, false, true] h
  · replace h := h.2 hc
    refine ex_iconst (pc := 93) (k := 0) (v := nI 0) (by decide +kernel) (by decide) ?_
    refine ex_istore_n (pc := 94) (k := 3) (lo2 := [some (.ref 1), some (.int l1), some (.int l2), some (.int (nI 0))]) (by decide +kernel) (by decide) rfl ?_
    exact h
theorem k_Land_measure_95 {d bc bs : Nat} {l1 : Int32} {l2 : Int32} {l3 : Int32} {M : Mem} {Φ : Option Value → Mem → Prop} (hF : Fx M) (h : ((mi M 1 8) ≤ l3 → Ex (d + 1) m_Land_measure bc bs 85 [some (.ref 1), some (.int l1), some (.int (l2 + nI 1)), none] [] M Φ) ∧ (¬ (mi M 1 8) ≤ l3 → vp_in l2 6 ∧ ∃ a1 : Nat, mr M 13 l2.toNatClampNeg = some a1 ∧ vp_in l2 6 ∧ ∃ a2 : Nat, mr M 13 l2.toNatClampNeg = some a2 ∧ ∃ N3 : Nat, (sh M)[a2]? = some (100, N3) ∧ vp_in l3 N3 ∧ vp_in l2 6 ∧ ∃ a4 : Nat, mr M 13 l2.toNatClampNeg = some a4 ∧ ∃ N5 : Nat, (sh M)[a4]? = some (100, N5) ∧ vp_in l1 N5 ∧ vp_in l1 6 ∧ ∃ a6 : Nat, mr M 13 l1.toNatClampNeg = some a6 ∧ ∃ N7 : Nat, (sh M)[a6]? = some (100, N7) ∧ vp_in l3 N7 ∧ ∃ N8 : Nat, (sh M)[a1]? = some (100, N8) ∧ vp_in l3 N8 ∧ Ex (d + 1) m_Land_measure bc bs 95 [some (.ref 1), some (.int l1), some (.int l2), some (.int (l3 + nI 1))] [] (wi M a1 l3.toNatClampNeg (if ((mi M a4 l1.toNatClampNeg) + (mi M a6 l3.toNatClampNeg)) < (mi M a2 l3.toNatClampNeg) then ((mi M a4 l1.toNatClampNeg) + (mi M a6 l3.toNatClampNeg)) else (mi M a2 l3.toNatClampNeg))) Φ)) : Ex (d + 1) m_Land_measure bc bs 95 [some (.ref 1), some (.int l1), some (.int l2), some (.int l3)] [] M Φ := by
  refine ex_iload_n (pc := 95) (k := 3) (by decide +kernel) rfl ?_
  refine ex_aload_n (pc := 96) (k := 0) (by decide +kernel) rfl ?_
  refine ey_getI (pc := 97) (v := mi M 1 8) (by decide +kernel) lf_Land_38 (hF.s (j := 1) rfl) rfl ?_
  refine ex_icmp_ge (pc := 100) (off := 45) (tgt := 145) (by decide +kernel) (by decide) (fun hc => ?_) (fun hc => ?_)
  · replace h := h.1 hc
    refine ex_iinc (pc := 145) (i := 2) (k := 1) (v := l2 + nI 1) (lo2 := [some (.ref 1), some (.int l1), some (.int (l2 + nI 1)), some (.int l3)]) (by decide +kernel) (by decide) rfl rfl rfl ?_
    refine ex_goto (pc := 148) (off := -63) (tgt := 85) (by decide +kernel) (by decide) ?_
    exact Ex.msk [true, true, true, false] h
  · replace h := h.2 hc
    refine ex_aload_n (pc := 103) (k := 0) (by decide +kernel) rfl ?_
    refine ex_getR (pc := 104) (a := 13) (by decide +kernel) lf_Land_29 (hF.s (j := 1) rfl) (hF.r (j := 1) (k := 5) rfl rfl) ?_
    refine ex_iload_n (pc := 107) (k := 2) (by decide +kernel) rfl ?_
    obtain ⟨g1, h⟩ := h
    obtain ⟨a1, g2, h⟩ := h
    refine ey_aald (pc := 108) (r := some a1) (by decide +kernel) (hF.s (j := 13) rfl) (by decide) g1 rfl g2 ?_
    refine ex_iload_n (pc := 109) (k := 3) (by decide +kernel) rfl ?_
    refine ex_aload_n (pc := 110) (k := 0) (by decide +kernel) rfl ?_
    refine ex_getR (pc := 111) (a := 13) (by decide +kernel) lf_Land_29 (hF.s (j := 1) rfl) (hF.r (j := 1) (k := 5) rfl rfl) ?_
    refine ex_iload_n (pc := 114) (k := 2) (by decide +kernel) rfl ?_
    obtain ⟨g3, h⟩ := h
    obtain ⟨a2, g4, h⟩ := h
    refine ey_aald (pc := 115) (r := some a2) (by decide +kernel) (hF.s (j := 13) rfl) (by decide) g3 rfl g4 ?_
    refine ex_iload_n (pc := 116) (k := 3) (by decide +kernel) rfl ?_
    obtain ⟨N3, g5, h⟩ := h
    obtain ⟨g6, h⟩ := h
    refine ey_iald (pc := 117) (v := mi M a2 l3.toNatClampNeg) (by decide +kernel) g5 g6 rfl rfl ?_
    refine ex_aload_n (pc := 118) (k := 0) (by decide +kernel) rfl ?_
    refine ex_getR (pc := 119) (a := 13) (by decide +kernel) lf_Land_29 (hF.s (j := 1) rfl) (hF.r (j := 1) (k := 5) rfl rfl) ?_
    refine ex_iload_n (pc := 122) (k := 2) (by decide +kernel) rfl ?_
    obtain ⟨g7, h⟩ := h
    obtain ⟨a4, g8, h⟩ := h
    refine ey_aald (pc := 123) (r := some a4) (by decide +kernel) (hF.s (j := 13) rfl) (by decide) g7 rfl g8 ?_
    refine ex_iload_n (pc := 124) (k := 1) (by decide +kernel) rfl ?_
    obtain ⟨N5, g9, h⟩ := h
    obtain ⟨g10, h⟩ := h
    refine ey_iald (pc := 125) (v := mi M a4 l1.toNatClampNeg) (by decide +kernel) g9 g10 rfl rfl ?_
    refine ex_aload_n (pc := 126) (k := 0) (by decide +kernel) rfl ?_
    refine ex_getR (pc := 127) (a := 13) (by decide +kernel) lf_Land_29 (hF.s (j := 1) rfl) (hF.r (j := 1) (k := 5) rfl rfl) ?_
    refine ex_iload_n (pc := 130) (k := 1) (by decide +kernel) rfl ?_
    obtain ⟨g11, h⟩ := h
    obtain ⟨a6, g12, h⟩ := h
    refine ey_aald (pc := 131) (r := some a6) (by decide +kernel) (hF.s (j := 13) rfl) (by decide) g11 rfl g12 ?_
    refine ex_iload_n (pc := 132) (k := 3) (by decide +kernel) rfl ?_
    obtain ⟨N7, g13, h⟩ := h
    obtain ⟨g14, h⟩ := h
    refine ey_iald (pc := 133) (v := mi M a6 l3.toNatClampNeg) (by decide +kernel) g13 g14 rfl rfl ?_
    refine ex_iadd (pc := 134) (by decide +kernel) ?_
    refine ex_min (pc := 135) (by decide +kernel) (in_t3 (i := 42) rfl rfl) (Nat.le_of_ble_eq_true rfl) (Nat.succ_le_succ (Nat.zero_le _)) ?_
    obtain ⟨N8, g15, h⟩ := h
    obtain ⟨g16, h⟩ := h
    refine ey_iast (pc := 138) (by decide +kernel) g15 g16 rfl ?_
    refine ex_iinc (pc := 139) (i := 3) (k := 1) (v := l3 + nI 1) (lo2 := [some (.ref 1), some (.int l1), some (.int l2), some (.int (l3 + nI 1))]) (by decide +kernel) (by decide) rfl rfl rfl ?_
    refine ex_goto (pc := 142) (off := -47) (tgt := 95) (by decide +kernel) (by decide) ?_
    exact h
theorem k_Land_measure_k_0 {d bc bs : Nat}  {M : Mem} {Φ : Option Value → Mem → Prop} (hF : Fx M) (h : Ex (d + 1) m_Land_measure bc bs 2 [some (.ref 22), some (.int (nI 0)), none, none] [] M Φ) : Ex (d + 1) m_Land_measure bc bs 0 [some (.ref 22), none, none, none] [] M Φ := by
  refine ex_iconst (pc := 0) (k := 0) (v := nI 0) (by decide +kernel) (by decide) ?_
  refine ex_istore_n (pc := 1) (k := 1) (lo2 := [some (.ref 22), some (.int (nI 0)), none, none]) (by decide +kernel) (by decide) rfl ?_
  exact h
theorem k_Land_measure_k_2 {d bc bs : Nat} {l1 : Int32} {M : Mem} {Φ : Option Value → Mem → Prop} (hF : Fx M) (h : ((mi M 22 8) ≤ l1 → Ex (d + 1) m_Land_measure bc bs 75 [some (.ref 22), some (.int (nI 0)), none, none] [] M Φ) ∧ (¬ (mi M 22 8) ≤ l1 → Ex (d + 1) m_Land_measure bc bs 12 [some (.ref 22), some (.int l1), some (.int (nI 0)), none] [] M Φ)) : Ex (d + 1) m_Land_measure bc bs 2 [some (.ref 22), some (.int l1), none, none] [] M Φ := by
  refine ex_iload_n (pc := 2) (k := 1) (by decide +kernel) rfl ?_
  refine ex_aload_n (pc := 3) (k := 0) (by decide +kernel) rfl ?_
  refine ey_getI (pc := 4) (v := mi M 22 8) (by decide +kernel) lf_Land_38 (hF.s (j := 22) rfl) rfl ?_
  refine ex_icmp_ge (pc := 7) (off := 66) (tgt := 73) (by decide +kernel) (by decide) (fun hc => ?_) (fun hc => ?_)
  · replace h := h.1 hc
    refine ex_iconst (pc := 73) (k := 0) (v := nI 0) (by decide +kernel) (by decide) ?_
    refine ex_istore_n (pc := 74) (k := 1) (lo2 := [some (.ref 22), some (.int (nI 0)), none, none]) (by decide +kernel) (by decide) rfl ?_
    exact h
  · replace h := h.2 hc
    refine ex_iconst (pc := 10) (k := 0) (v := nI 0) (by decide +kernel) (by decide) ?_
    refine ex_istore_n (pc := 11) (k := 2) (lo2 := [some (.ref 22), some (.int l1), some (.int (nI 0)), none]) (by decide +kernel) (by decide) rfl ?_
    exact h
theorem k_Land_measure_k_12 {d bc bs : Nat} {l1 : Int32} {l2 : Int32} {M : Mem} {Φ : Option Value → Mem → Prop} (hF : Fx M) (h : ((mi M 22 8) ≤ l2 → Ex (d + 1) m_Land_measure bc bs 2 [some (.ref 22), some (.int (l1 + nI 1)), none, none] [] M Φ) ∧ (¬ (mi M 22 8) ≤ l2 → vp_in l1 6 ∧ ∃ a1 : Nat, mr M 34 l1.toNatClampNeg = some a1 ∧ (¬ l1 = l2 → vp_in l1 6 ∧ ∃ a2 : Nat, mr M 27 l1.toNatClampNeg = some a2 ∧ ∃ N3 : Nat, (sh M)[a2]? = some (100, N3) ∧ vp_in l2 N3 ∧ (¬ (mi M a2 l2.toNatClampNeg) = 0 → vp_in l1 6 ∧ ∃ a4 : Nat, mr M 27 l1.toNatClampNeg = some a4 ∧ ∃ N5 : Nat, (sh M)[a4]? = some (100, N5) ∧ vp_in l2 N5 ∧ ∃ N6 : Nat, (sh M)[a1]? = some (100, N6) ∧ vp_in l2 N6 ∧ Ex (d + 1) m_Land_measure bc bs 12 [some (.ref 22), some (.int l1), some (.int (l2 + nI 1)), none] [] (wi M a1 l2.toNatClampNeg (mi M a4 l2.toNatClampNeg)) Φ) ∧ ((mi M a2 l2.toNatClampNeg) = 0 → ∃ N7 : Nat, (sh M)[a1]? = some (100, N7) ∧ vp_in l2 N7 ∧ Ex (d + 1) m_Land_measure bc bs 12 [some (.ref 22), some (.int l1), some (.int (l2 + nI 1)), none] [] (wi M a1 l2.toNatClampNeg (nI 99)) Φ)) ∧ (l1 = l2 → ∃ N8 : Nat, (sh M)[a1]? = some (100, N8) ∧ vp_in l2 N8 ∧ Ex (d + 1) m_Land_measure bc bs 12 [some (.ref 22), some (.int l1), some (.int (l2 + nI 1)), none] [] (wi M a1 l2.toNatClampNeg (nI 0)) Φ))) : Ex (d + 1) m_Land_measure bc bs 12 [some (.ref 22), some (.int l1), some (.int l2), none] [] M Φ := by
  refine ex_iload_n (pc := 12) (k := 2) (by decide +kernel) rfl ?_
  refine ex_aload_n (pc := 13) (k := 0) (by decide +kernel) rfl ?_
  refine ey_getI (pc := 14) (v := mi M 22 8) (by decide +kernel) lf_Land_38 (hF.s (j := 22) rfl) rfl ?_
  refine ex_icmp_ge (pc := 17) (off := 50) (tgt := 67) (by decide +kernel) (by decide) (fun hc => ?_) (fun hc => ?_)
  · replace h := h.1 hc
    refine ex_iinc (pc := 67) (i := 1) (k := 1) (v := l1 + nI 1) (lo2 := [some (.ref 22), some (.int (l1 + nI 1)), some (.int l2), none]) (by decide +kernel) (by decide) rfl rfl rfl ?_
    refine ex_goto (pc := 70) (off := -68) (tgt := 2) (by decide +kernel) (by decide) ?_
    exact Ex.msk [true, true, false, true] h
  · replace h := h.2 hc
    refine ex_aload_n (pc := 20) (k := 0) (by decide +kernel) rfl ?_
    refine ex_getR (pc := 21) (a := 34) (by decide +kernel) lf_Land_29 (hF.s (j := 22) rfl) (hF.r (j := 22) (k := 5) rfl rfl) ?_
    refine ex_iload_n (pc := 24) (k := 1) (by decide +kernel) rfl ?_
    obtain ⟨g1, h⟩ := h
    obtain ⟨a1, g2, h⟩ := h
    refine ey_aald (pc := 25) (r := some a1) (by decide +kernel) (hF.s (j := 34) rfl) (by decide) g1 rfl g2 ?_
    refine ex_iload_n (pc := 26) (k := 2) (by decide +kernel) rfl ?_
    refine ex_iload_n (pc := 27) (k := 1) (by decide +kernel) rfl ?_
    refine ex_iload_n (pc := 28) (k := 2) (by decide +kernel) rfl ?_
    refine ex_icmp_ne (pc := 29) (off := 7) (tgt := 36) (by decide +kernel) (by decide) (fun hc => ?_) (fun hc => ?_)
    · replace h := h.1 hc
      refine ex_aload_n (pc := 36) (k := 0) (by decide +kernel) rfl ?_
      refine ex_getR (pc := 37) (a := 27) (by decide +kernel) lf_Land_26 (hF.s (j := 22) rfl) (hF.r (j := 22) (k := 4) rfl rfl) ?_
      refine ex_iload_n (pc := 40) (k := 1) (by decide +kernel) rfl ?_
      obtain ⟨g3, h⟩ := h
      obtain ⟨a2, g4, h⟩ := h
      refine ey_aald (pc := 41) (r := some a2) (by decide +kernel) (hF.s (j := 27) rfl) (by decide) g3 rfl g4 ?_
      refine ex_iload_n (pc := 42) (k := 2) (by decide +kernel) rfl ?_
      obtain ⟨N3, g5, h⟩ := h
      obtain ⟨g6, h⟩ := h
      refine ey_iald (pc := 43) (v := mi M a2 l2.toNatClampNeg) (by decide +kernel) g5 g6 rfl rfl ?_
      refine ex_if_ne (pc := 44) (off := 8) (tgt := 52) (by decide +kernel) (by decide) (fun hc => ?_) (fun hc => ?_)
      · replace h := h.1 hc
        refine ex_aload_n (pc := 52) (k := 0) (by decide +kernel) rfl ?_
        refine ex_getR (pc := 53) (a := 27) (by decide +kernel) lf_Land_26 (hF.s (j := 22) rfl) (hF.r (j := 22) (k := 4) rfl rfl) ?_
        refine ex_iload_n (pc := 56) (k := 1) (by decide +kernel) rfl ?_
        obtain ⟨g7, h⟩ := h
        obtain ⟨a4, g8, h⟩ := h
        refine ey_aald (pc := 57) (r := some a4) (by decide +kernel) (hF.s (j := 27) rfl) (by decide) g7 rfl g8 ?_
        refine ex_iload_n (pc := 58) (k := 2) (by decide +kernel) rfl ?_
        obtain ⟨N5, g9, h⟩ := h
        obtain ⟨g10, h⟩ := h
        refine ey_iald (pc := 59) (v := mi M a4 l2.toNatClampNeg) (by decide +kernel) g9 g10 rfl rfl ?_
        obtain ⟨N6, g11, h⟩ := h
        obtain ⟨g12, h⟩ := h
        refine ey_iast (pc := 60) (by decide +kernel) g11 g12 rfl ?_
        refine ex_iinc (pc := 61) (i := 2) (k := 1) (v := l2 + nI 1) (lo2 := [some (.ref 22), some (.int l1), some (.int (l2 + nI 1)), none]) (by decide +kernel) (by decide) rfl rfl rfl ?_
        refine ex_goto (pc := 64) (off := -52) (tgt := 12) (by decide +kernel) (by decide) ?_
        exact h
      · replace h := h.2 hc
        refine ex_bipush (pc := 47) (k := 99) (v := nI 99) (by decide +kernel) (by decide) ?_
        refine ex_goto (pc := 49) (off := 11) (tgt := 60) (by decide +kernel) (by decide) ?_
        obtain ⟨N7, g13, h⟩ := h
        obtain ⟨g14, h⟩ := h
        refine ey_iast (pc := 60) (by decide +kernel) g13 g14 rfl ?_
        refine ex_iinc (pc := 61) (i := 2) (k := 1) (v := l2 + nI 1) (lo2 := [some (.ref 22), some (.int l1), some (.int (l2 + nI 1)), none]) (by decide +kernel) (by decide) rfl rfl rfl ?_
        refine ex_goto (pc := 64) (off := -52) (tgt := 12) (by decide +kernel) (by decide) ?_
        exact h
    · replace h := h.2 hc
      refine ex_iconst (pc := 32) (k := 0) (v := nI 0) (by decide +kernel) (by decide) ?_
      refine ex_goto (pc := 33) (off := 27) (tgt := 60) (by decide +kernel) (by decide) ?_
      obtain ⟨N8, g15, h⟩ := h
      obtain ⟨g16, h⟩ := h
      refine ey_iast (pc := 60) (by decide +kernel) g15 g16 rfl ?_
      refine ex_iinc (pc := 61) (i := 2) (k := 1) (v := l2 + nI 1) (lo2 := [some (.ref 22), some (.int l1), some (.int (l2 + nI 1)), none]) (by decide +kernel) (by decide) rfl rfl rfl ?_
      refine ex_goto (pc := 64) (off := -52) (tgt := 12) (by decide +kernel) (by decide) ?_
      exact h
theorem k_Land_measure_k_75 {d bc bs : Nat} {l1 : Int32} {M : Mem} {Φ : Option Value → Mem → Prop} (hF : Fx M) (h : ((mi M 22 8) ≤ l1 → Φ none M) ∧ (¬ (mi M 22 8) ≤ l1 → Ex (d + 1) m_Land_measure bc bs 85 [some (.ref 22), some (.int l1), some (.int (nI 0)), none] [] M Φ)) : Ex (d + 1) m_Land_measure bc bs 75 [some (.ref 22), some (.int l1), none, none] [] M Φ := by
  refine ex_iload_n (pc := 75) (k := 1) (by decide +kernel) rfl ?_
  refine ex_aload_n (pc := 76) (k := 0) (by decide +kernel) rfl ?_
  refine ey_getI (pc := 77) (v := mi M 22 8) (by decide +kernel) lf_Land_38 (hF.s (j := 22) rfl) rfl ?_
  refine ex_icmp_ge (pc := 80) (off := 77) (tgt := 157) (by decide +kernel) (by decide) (fun hc => ?_) (fun hc => ?_)
  · replace h := h.1 hc
    exact ex_return (pc := 157) (by decide +kernel) rfl h
  · replace h := h.2 hc
    refine ex_iconst (pc := 83) (k := 0) (v := nI 0) (by decide +kernel) (by decide) ?_
    refine ex_istore_n (pc := 84) (k := 2) (lo2 := [some (.ref 22), some (.int l1), some (.int (nI 0)), none]) (by decide +kernel) (by decide) rfl ?_
    exact h
theorem k_Land_measure_k_85 {d bc bs : Nat} {l1 : Int32} {l2 : Int32} {M : Mem} {Φ : Option Value → Mem → Prop} (hF : Fx M) (h : ((mi M 22 8) ≤ l2 → Ex (d + 1) m_Land_measure bc bs 75 [some (.ref 22), some (.int (l1 + nI 1)), none, none] [] M Φ) ∧ (¬ (mi M 22 8) ≤ l2 → Ex (d + 1) m_Land_measure bc bs 95 [some (.ref 22), some (.int l1), some (.int l2), some (.int (nI 0))] [] M Φ)) : Ex (d + 1) m_Land_measure bc bs 85 [some (.ref 22), some (.int l1), some (.int l2), none] [] M Φ := by
  refine ex_iload_n (pc := 85) (k := 2) (by decide +kernel) rfl ?_
  refine ex_aload_n (pc := 86) (k := 0) (by decide +kernel) rfl ?_
  refine ey_getI (pc := 87) (v := mi M 22 8) (by decide +kernel) lf_Land_38 (hF.s (j := 22) rfl) rfl ?_
  refine ex_icmp_ge (pc := 90) (off := 61) (tgt := 151) (by decide +kernel) (by decide) (fun hc => ?_) (fun hc => ?_)
  · replace h := h.1 hc
    refine ex_iinc (pc := 151) (i := 1) (k := 1) (v := l1 + nI 1) (lo2 := [some (.ref 22), some (.int (l1 + nI 1)), some (.int l2), none]) (by decide +kernel) (by decide) rfl rfl rfl ?_
    refine ex_goto (pc := 154) (off := -79) (tgt := 75) (by decide +kernel) (by decide) ?_
    exact Ex.msk [true, true, false, true] h
  · replace h := h.2 hc
    refine ex_iconst (pc := 93) (k := 0) (v := nI 0) (by decide +kernel) (by decide) ?_
    refine ex_istore_n (pc := 94) (k := 3) (lo2 := [some (.ref 22), some (.int l1), some (.int l2), some (.int (nI 0))]) (by decide +kernel) (by decide) rfl ?_
    exact h
theorem k_Land_measure_k_95 {d bc bs : Nat} {l1 : Int32} {l2 : Int32} {l3 : Int32} {M : Mem} {Φ : Option Value → Mem → Prop} (hF : Fx M) (h : ((mi M 22 8) ≤ l3 → Ex (d + 1) m_Land_measure bc bs 85 [some (.ref 22), some (.int l1), some (.int (l2 + nI 1)), none] [] M Φ) ∧ (¬ (mi M 22 8) ≤ l3 → vp_in l2 6 ∧ ∃ a1 : Nat, mr M 34 l2.toNatClampNeg = some a1 ∧ vp_in l2 6 ∧ ∃ a2 : Nat, mr M 34 l2.toNatClampNeg = some a2 ∧ ∃ N3 : Nat, (sh M)[a2]? = some (100, N3) ∧ vp_in l3 N3 ∧ vp_in l2 6 ∧ ∃ a4 : Nat, mr M 34 l2.toNatClampNeg = some a4 ∧ ∃ N5 : Nat, (sh M)[a4]? = some (100, N5) ∧ vp_in l1 N5 ∧ vp_in l1 6 ∧ ∃ a6 : Nat, mr M 34 l1.toNatClampNeg = some a6 ∧ ∃ N7 : Nat, (sh M)[a6]? = some (100, N7) ∧ vp_in l3 N7 ∧ ∃ N8 : Nat, (sh M)[a1]? = some (100, N8) ∧ vp_in l3 N8 ∧ Ex (d + 1) m_Land_measure bc bs 95 [some (.ref 22), some (.int l1), some (.int l2), some (.int (l3 + nI 1))] [] (wi M a1 l3.toNatClampNeg (if ((mi M a4 l1.toNatClampNeg) + (mi M a6 l3.toNatClampNeg)) < (mi M a2 l3.toNatClampNeg) then ((mi M a4 l1.toNatClampNeg) + (mi M a6 l3.toNatClampNeg)) else (mi M a2 l3.toNatClampNeg))) Φ)) : Ex (d + 1) m_Land_measure bc bs 95 [some (.ref 22), some (.int l1), some (.int l2), some (.int l3)] [] M Φ := by
  refine ex_iload_n (pc := 95) (k := 3) (by decide +kernel) rfl ?_
  refine ex_aload_n (pc := 96) (k := 0) (by decide +kernel) rfl ?_
  refine ey_getI (pc := 97) (v := mi M 22 8) (by decide +kernel) lf_Land_38 (hF.s (j := 22) rfl) rfl ?_
  refine ex_icmp_ge (pc := 100) (off := 45) (tgt := 145) (by decide +kernel) (by decide) (fun hc => ?_) (fun hc => ?_)
  · replace h := h.1 hc
    refine ex_iinc (pc := 145) (i := 2) (k := 1) (v := l2 + nI 1) (lo2 := [some (.ref 22), some (.int l1), some (.int (l2 + nI 1)), some (.int l3)]) (by decide +kernel) (by decide) rfl rfl rfl ?_
    refine ex_goto (pc := 148) (off := -63) (tgt := 85) (by decide +kernel) (by decide) ?_
    exact Ex.msk [true, true, true, false] h
  · replace h := h.2 hc
    refine ex_aload_n (pc := 103) (k := 0) (by decide +kernel) rfl ?_
    refine ex_getR (pc := 104) (a := 34) (by decide +kernel) lf_Land_29 (hF.s (j := 22) rfl) (hF.r (j := 22) (k := 5) rfl rfl) ?_
    refine ex_iload_n (pc := 107) (k := 2) (by decide +kernel) rfl ?_
    obtain ⟨g1, h⟩ := h
    obtain ⟨a1, g2, h⟩ := h
    refine ey_aald (pc := 108) (r := some a1) (by decide +kernel) (hF.s (j := 34) rfl) (by decide) g1 rfl g2 ?_
    refine ex_iload_n (pc := 109) (k := 3) (by decide +kernel) rfl ?_
    refine ex_aload_n (pc := 110) (k := 0) (by decide +kernel) rfl ?_
    refine ex_getR (pc := 111) (a := 34) (by decide +kernel) lf_Land_29 (hF.s (j := 22) rfl) (hF.r (j := 22) (k := 5) rfl rfl) ?_
    refine ex_iload_n (pc := 114) (k := 2) (by decide +kernel) rfl ?_
    obtain ⟨g3, h⟩ := h
    obtain ⟨a2, g4, h⟩ := h
    refine ey_aald (pc := 115) (r := some a2) (by decide +kernel) (hF.s (j := 34) rfl) (by decide) g3 rfl g4 ?_
    refine ex_iload_n (pc := 116) (k := 3) (by decide +kernel) rfl ?_
    obtain ⟨N3, g5, h⟩ := h
    obtain ⟨g6, h⟩ := h
    refine ey_iald (pc := 117) (v := mi M a2 l3.toNatClampNeg) (by decide +kernel) g5 g6 rfl rfl ?_
    refine ex_aload_n (pc := 118) (k := 0) (by decide +kernel) rfl ?_
    refine ex_getR (pc := 119) (a := 34) (by decide +kernel) lf_Land_29 (hF.s (j := 22) rfl) (hF.r (j := 22) (k := 5) rfl rfl) ?_
    refine ex_iload_n (pc := 122) (k := 2) (by decide +kernel) rfl ?_
    obtain ⟨g7, h⟩ := h
    obtain ⟨a4, g8, h⟩ := h
    refine ey_aald (pc := 123) (r := some a4) (by decide +kernel) (hF.s (j := 34) rfl) (by decide) g7 rfl g8 ?_
    refine ex_iload_n (pc := 124) (k := 1) (by decide +kernel) rfl ?_
    obtain ⟨N5, g9, h⟩ := h
    obtain ⟨g10, h⟩ := h
    refine ey_iald (pc := 125) (v := mi M a4 l1.toNatClampNeg) (by decide +kernel) g9 g10 rfl rfl ?_
    refine ex_aload_n (pc := 126) (k := 0) (by decide +kernel) rfl ?_
    refine ex_getR (pc := 127) (a := 34) (by decide +kernel) lf_Land_29 (hF.s (j := 22) rfl) (hF.r (j := 22) (k := 5) rfl rfl) ?_
    refine ex_iload_n (pc := 130) (k := 1) (by decide +kernel) rfl ?_
    obtain ⟨g11, h⟩ := h
    obtain ⟨a6, g12, h⟩ := h
    refine ey_aald (pc := 131) (r := some a6) (by decide +kernel) (hF.s (j := 34) rfl) (by decide) g11 rfl g12 ?_
    refine ex_iload_n (pc := 132) (k := 3) (by decide +kernel) rfl ?_
    obtain ⟨N7, g13, h⟩ := h
    obtain ⟨g14, h⟩ := h
    refine ey_iald (pc := 133) (v := mi M a6 l3.toNatClampNeg) (by decide +kernel) g13 g14 rfl rfl ?_
    refine ex_iadd (pc := 134) (by decide +kernel) ?_
    refine ex_min (pc := 135) (by decide +kernel) (in_t3 (i := 42) rfl rfl) (Nat.le_of_ble_eq_true rfl) (Nat.succ_le_succ (Nat.zero_le _)) ?_
    obtain ⟨N8, g15, h⟩ := h
    obtain ⟨g16, h⟩ := h
    refine ey_iast (pc := 138) (by decide +kernel) g15 g16 rfl ?_
    refine ex_iinc (pc := 139) (i := 3) (k := 1) (v := l3 + nI 1) (lo2 := [some (.ref 22), some (.int l1), some (.int l2), some (.int (l3 + nI 1))]) (by decide +kernel) (by decide) rfl rfl rfl ?_
    refine ex_goto (pc := 142) (off := -47) (tgt := 95) (by decide +kernel) (by decide) ?_
    exact h
theorem k_Law_learn_0 {d bc bs : Nat} {l1 : Nat} {M : Mem} {Φ : Option Value → Mem → Prop} (hF : Fx M) (h : ((nI 6) ≤ (mi M 46 2) → Φ none M) ∧ (¬ (nI 6) ≤ (mi M 46 2) → vp_in (mi M 46 2) 6 ∧ (sh M)[l1]? = some (7, 2) ∧ Fx (wr M 47 ((mi M 46 2).toNatClampNeg) (some l1)) ∧ Φ none (wi (wr M 47 ((mi M 46 2).toNatClampNeg) (some l1)) 46 2 ((mi M 46 2) + (nI 1))))) : Ex (d + 1) m_Law_learn bc bs 0 [some (.ref 46), some (.ref l1)] [] M Φ := by
  refine ex_aload_n (pc := 0) (k := 0) (by decide +kernel) rfl ?_
  refine ey_getI (pc := 1) (v := mi M 46 2) (by decide +kernel) lf_Law_17 (hF.s (j := 46) rfl) rfl ?_
  refine ex_bipush (pc := 4) (k := 6) (v := nI 6) (by decide +kernel) (by decide) ?_
  refine ex_icmp_ge (pc := 6) (off := 23) (tgt := 29) (by decide +kernel) (by decide) (fun hc => ?_) (fun hc => ?_)
  · replace h := h.1 hc
    exact ex_return (pc := 29) (by decide +kernel) rfl h
  · replace h := h.2 hc
    refine ex_aload_n (pc := 9) (k := 0) (by decide +kernel) rfl ?_
    refine ex_getR (pc := 10) (a := 47) (by decide +kernel) lf_Law_11 (hF.s (j := 46) rfl) (hF.r (j := 46) (k := 1) rfl rfl) ?_
    refine ex_aload_n (pc := 13) (k := 0) (by decide +kernel) rfl ?_
    refine ey_getI (pc := 14) (v := mi M 46 2) (by decide +kernel) lf_Law_17 (hF.s (j := 46) rfl) rfl ?_
    refine ex_aload_n (pc := 17) (k := 1) (by decide +kernel) rfl ?_
    obtain ⟨g1, h⟩ := h
    obtain ⟨g2, hF9, h⟩ := h
    refine ex_aast (pc := 18) (by decide +kernel) (hF.s (j := 47) rfl) g1 g2 (by decide) ?_
    refine ex_aload_n (pc := 19) (k := 0) (by decide +kernel) rfl ?_
    refine ex_dup (pc := 20) (by decide +kernel) rfl ?_
    refine ey_getI (pc := 21) (v := mi M 46 2) (by decide +kernel) lf_Law_17 (hF9.s (j := 46) rfl) rfl ?_
    refine ex_iconst (pc := 24) (k := 1) (v := nI 1) (by decide +kernel) (by decide) ?_
    refine ex_iadd (pc := 25) (by decide +kernel) ?_
    refine ex_putI (pc := 26) (index := 17) (ci := 5) (k := 2) (fin := false) (by decide +kernel) ⟨_, _, _, _, cf_Law, by decide, in_t1 (i := 149) rfl rfl, rfl, (fun h => by cases h), rfl, rfl⟩ rfl (fun h => by cases h) (hF9.s (j := 46) rfl) ?_
    exact ex_return (pc := 29) (by decide +kernel) rfl h
theorem k_Law_theRule_0 {d bc bs : Nat}  {M : Mem} {Φ : Option Value → Mem → Prop} (hF : Fx M) (h : ((mi M 1 11) < 0 → Φ (some (rv none)) M) ∧ (¬ (mi M 1 11) < 0 → ((mi M 46 2) ≤ (mi M 1 11) → Φ (some (rv none)) M) ∧ (¬ (mi M 46 2) ≤ (mi M 1 11) → vp_in (mi M 1 11) 6 ∧ Φ (some (rv (mr M 47 ((mi M 1 11).toNatClampNeg)))) M))) : Ex (d + 1) m_Law_theRule bc bs 0 [some (.ref 46)] [] M Φ := by
  refine ex_aload_n (pc := 0) (k := 0) (by decide +kernel) rfl ?_
  refine ex_getR (pc := 1) (a := 1) (by decide +kernel) lf_Law_28 (hF.s (j := 46) rfl) (hF.r (j := 46) (k := 0) rfl rfl) ?_
  refine ey_getI (pc := 4) (v := mi M 1 11) (by decide +kernel) lf_Law_32 (hF.s (j := 1) rfl) rfl ?_
  refine ex_if_lt (pc := 7) (off := 32) (tgt := 39) (by decide +kernel) (by decide) (fun hc => ?_) (fun hc => ?_)
  · replace h := h.1 hc
    refine ex_null (pc := 39) (by decide +kernel) ?_
    exact ex_areturnN (pc := 40) (by decide +kernel) rfl (Or.inl ⟨_, rfl⟩) h
  · replace h := h.2 hc
    refine ex_aload_n (pc := 10) (k := 0) (by decide +kernel) rfl ?_
    refine ex_getR (pc := 11) (a := 1) (by decide +kernel) lf_Law_28 (hF.s (j := 46) rfl) (hF.r (j := 46) (k := 0) rfl rfl) ?_
    refine ey_getI (pc := 14) (v := mi M 1 11) (by decide +kernel) lf_Law_32 (hF.s (j := 1) rfl) rfl ?_
    refine ex_aload_n (pc := 17) (k := 0) (by decide +kernel) rfl ?_
    refine ey_getI (pc := 18) (v := mi M 46 2) (by decide +kernel) lf_Law_17 (hF.s (j := 46) rfl) rfl ?_
    refine ex_icmp_ge (pc := 21) (off := 18) (tgt := 39) (by decide +kernel) (by decide) (fun hc => ?_) (fun hc => ?_)
    · replace h := h.1 hc
      refine ex_null (pc := 39) (by decide +kernel) ?_
      exact ex_areturnN (pc := 40) (by decide +kernel) rfl (Or.inl ⟨_, rfl⟩) h
    · replace h := h.2 hc
      refine ex_aload_n (pc := 24) (k := 0) (by decide +kernel) rfl ?_
      refine ex_getR (pc := 25) (a := 47) (by decide +kernel) lf_Law_11 (hF.s (j := 46) rfl) (hF.r (j := 46) (k := 1) rfl rfl) ?_
      refine ex_aload_n (pc := 28) (k := 0) (by decide +kernel) rfl ?_
      refine ex_getR (pc := 29) (a := 1) (by decide +kernel) lf_Law_28 (hF.s (j := 46) rfl) (hF.r (j := 46) (k := 0) rfl rfl) ?_
      refine ey_getI (pc := 32) (v := mi M 1 11) (by decide +kernel) lf_Law_32 (hF.s (j := 1) rfl) rfl ?_
      obtain ⟨g1, h⟩ := h
      refine ey_aald (pc := 35) (r := mr M 47 ((mi M 1 11).toNatClampNeg)) (by decide +kernel) (hF.s (j := 47) rfl) (by decide) g1 rfl rfl ?_
      refine ex_goto (pc := 36) (off := 4) (tgt := 40) (by decide +kernel) (by decide) ?_
      exact ey_areturn (pc := 40) (by decide +kernel) rfl (Or.inl ⟨_, rfl⟩) h
theorem k_Law_nearSays_0 {d bc bs : Nat} {l1 : Int32} {l2 : Int32} {l3 : Int32} {M : Mem} {Φ : Option Value → Mem → Prop} (hF : Fx M) (h : Con d m_Law_theRule 0 0 [.ref 46] M (PR fun r1 M1 => Fx M1 ∧ (r1 = none → Φ (some (.int (nI 0))) M1) ∧ (∀ a2 : Nat, r1 = some a2 → Con d m_Land_hoursBetween 0 0 [.ref 1, .int l1, .int l2] M1 (PI fun r3 M2 => Fx M2 ∧ vp_in l1 6 ∧ vp_in l2 6 ∧ Con d m_Law_name 0 0 [.ref 46, .int r3, .int (mi M2 2 l1.toNatClampNeg), .int (mi M2 2 l2.toNatClampNeg), .int (nI 0), .int (nI 0), .int l3] M2 (PV fun M3 => Fx M3 ∧ (sh M3)[a2]? = some (7, 2) ∧ ∃ a4 : Nat, mr M3 a2 0 = some a4 ∧ Con d m_Rule_run 0 0 [.ref a4, .ref 48, .ref 49] M3 (PI fun r5 M4 => Fx M4 ∧ Φ (some (.int r5)) M4)))))) : Ex (d + 1) m_Law_nearSays bc bs 0 [some (.ref 46), some (.int l1), some (.int l2), some (.int l3), none] [] M Φ := by
  refine ex_aload_n (pc := 0) (k := 0) (by decide +kernel) rfl ?_
  refine ex_callV (pc := 1) (as := []) (by decide +kernel) F_Law_theRule (in_t3 (i := 111) rfl rfl) (hF.s (j := 46) rfl) rfl (by decide) rfl rfl (Nat.le_of_ble_eq_true rfl) (Nat.lt_succ_self _) ⟨Nat.zero_le _, Nat.zero_le _⟩ (KC_R (Con.mono h ?_))
  intro o M1 ⟨r1, e9, hF1, h⟩
  refine ⟨r1, e9, ?_⟩
  cases r1 with
  | none =>
    replace h := h.1 rfl
    show Ex _ _ _ _ _ _ (Value.null :: _) _ _
    refine ex_astoreN (pc := 4) (k := 4) (lo2 := [some (.ref 46), some (.int l1), some (.int l2), some (.int l3), some (.null)]) (by decide +kernel) (by decide) rfl ?_
    refine ex_aloadN (pc := 6) (k := 4) (by decide +kernel) rfl ?_
    refine ex_ifnonnullN (pc := 8) (off := 5) (by decide +kernel) ?_
    refine ex_iconst (pc := 11) (k := 0) (v := nI 0) (by decide +kernel) (by decide) ?_
    exact ex_ireturn (pc := 12) (by decide +kernel) rfl rfl h
  | some a2 =>
    replace h := h.2 a2 rfl
    show Ex _ _ _ _ _ _ (Value.ref a2 :: _) _ _
    refine ex_astore (pc := 4) (k := 4) (lo2 := [some (.ref 46), some (.int l1), some (.int l2), some (.int l3), some (.ref a2)]) (by decide +kernel) (by decide) rfl ?_
    refine ex_aload (pc := 6) (k := 4) (by decide +kernel) rfl ?_
    refine ex_ifnonnull (pc := 8) (off := 5) (tgt := 13) (by decide +kernel) (by decide) ?_
    refine ex_aload_n (pc := 13) (k := 0) (by decide +kernel) rfl ?_
    refine ex_aload_n (pc := 14) (k := 0) (by decide +kernel) rfl ?_
    refine ex_getR (pc := 15) (a := 1) (by decide +kernel) lf_Law_28 (hF1.s (j := 46) rfl) (hF1.r (j := 46) (k := 0) rfl rfl) ?_
    refine ex_iload_n (pc := 18) (k := 1) (by decide +kernel) rfl ?_
    refine ex_iload_n (pc := 19) (k := 2) (by decide +kernel) rfl ?_
    refine ex_callV (pc := 20) (as := [.int l1, .int l2]) (by decide +kernel) F_Land_hoursBetween (in_t3 (i := 115) rfl rfl) (hF1.s (j := 1) rfl) rfl (by decide) rfl rfl (Nat.le_of_ble_eq_true rfl) (Nat.lt_succ_self _) ⟨Nat.zero_le _, Nat.zero_le _⟩ (KC_I (Con.mono h ?_))
    intro o M2 ⟨r3, e9, hF2, h⟩
    refine ⟨r3, e9, ?_⟩
    refine ex_aload_n (pc := 23) (k := 0) (by decide +kernel) rfl ?_
    refine ex_getR (pc := 24) (a := 1) (by decide +kernel) lf_Law_28 (hF2.s (j := 46) rfl) (hF2.r (j := 46) (k := 0) rfl rfl) ?_
    refine ex_getR (pc := 27) (a := 2) (by decide +kernel) lf_Law_45 (hF2.s (j := 1) rfl) (hF2.r (j := 1) (k := 0) rfl rfl) ?_
    refine ex_iload_n (pc := 30) (k := 1) (by decide +kernel) rfl ?_
    obtain ⟨g1, h⟩ := h
    refine ey_iald (pc := 31) (v := mi M2 2 l1.toNatClampNeg) (by decide +kernel) (hF2.s (j := 2) rfl) g1 rfl rfl ?_
    refine ex_aload_n (pc := 32) (k := 0) (by decide +kernel) rfl ?_
    refine ex_getR (pc := 33) (a := 1) (by decide +kernel) lf_Law_28 (hF2.s (j := 46) rfl) (hF2.r (j := 46) (k := 0) rfl rfl) ?_
    refine ex_getR (pc := 36) (a := 2) (by decide +kernel) lf_Law_45 (hF2.s (j := 1) rfl) (hF2.r (j := 1) (k := 0) rfl rfl) ?_
    refine ex_iload_n (pc := 39) (k := 2) (by decide +kernel) rfl ?_
    obtain ⟨g2, h⟩ := h
    refine ey_iald (pc := 40) (v := mi M2 2 l2.toNatClampNeg) (by decide +kernel) (hF2.s (j := 2) rfl) g2 rfl rfl ?_
    refine ex_iconst (pc := 41) (k := 0) (v := nI 0) (by decide +kernel) (by decide) ?_
    refine ex_iconst (pc := 42) (k := 0) (v := nI 0) (by decide +kernel) (by decide) ?_
    refine ex_iload_n (pc := 43) (k := 3) (by decide +kernel) rfl ?_
    refine ex_callV (pc := 44) (as := [.int r3, .int (mi M2 2 l1.toNatClampNeg), .int (mi M2 2 l2.toNatClampNeg), .int (nI 0), .int (nI 0), .int l3]) (by decide +kernel) F_Law_name (in_t3 (i := 116) rfl rfl) (hF2.s (j := 46) rfl) rfl (by decide) rfl rfl (Nat.le_of_ble_eq_true rfl) (Nat.lt_succ_self _) ⟨Nat.zero_le _, Nat.zero_le _⟩ (KC_V (Con.mono h ?_))
    intro o M3 ⟨e9, hF3, h⟩
    refine ⟨e9, ?_⟩
    refine ex_aload (pc := 47) (k := 4) (by decide +kernel) rfl ?_
    obtain ⟨g3, h⟩ := h
    obtain ⟨a4, g4, h⟩ := h
    refine ex_getR (pc := 49) (a := a4) (by decide +kernel) lf_Law_52 g3 g4 ?_
    refine ex_aload_n (pc := 52) (k := 0) (by decide +kernel) rfl ?_
    refine ex_getR (pc := 53) (a := 48) (by decide +kernel) lf_Law_21 (hF3.s (j := 46) rfl) (hF3.r (j := 46) (k := 3) rfl rfl) ?_
    refine ex_aload_n (pc := 56) (k := 0) (by decide +kernel) rfl ?_
    refine ex_getR (pc := 57) (a := 49) (by decide +kernel) lf_Law_25 (hF3.s (j := 46) rfl) (hF3.r (j := 46) (k := 4) rfl rfl) ?_
    refine ex_callS (pc := 60) (as := [.ref a4, .ref 48, .ref 49]) (by decide +kernel) F_Rule_run (in_t3 (i := 120) rfl rfl) rfl rfl (Nat.le_of_ble_eq_true rfl) (Nat.lt_succ_self _) ⟨Nat.zero_le _, Nat.zero_le _⟩ (KC_I (Con.mono h ?_))
    intro o M4 ⟨r5, e9, hF4, h⟩
    refine ⟨r5, e9, ?_⟩
    exact ex_ireturn (pc := 63) (by decide +kernel) rfl rfl h
theorem k_Law_worthOfDay_0 {d bc bs : Nat} {l1 : Int32} {l2 : Int32} {l3 : Int32} {l4 : Int32} {M : Mem} {Φ : Option Value → Mem → Prop} (hF : Fx M) (h : Con d m_Law_theRule 0 0 [.ref 46] M (PR fun r1 M1 => Fx M1 ∧ (r1 = none → Φ (some (.int (nI 0))) M1) ∧ (∀ a2 : Nat, r1 = some a2 → vp_in l1 6 ∧ vp_in l1 6 ∧ (¬ (mi M1 4 l1.toNatClampNeg) = l2 → Con d m_Law_name 0 0 [.ref 46, .int l3, .int (mi M1 2 l1.toNatClampNeg), .int l4, .int l2, .int (nI 0), .int (mi M1 1 9)] M1 (PV fun M2 => Fx M2 ∧ (sh M2)[a2]? = some (7, 2) ∧ ∃ a3 : Nat, mr M2 a2 1 = some a3 ∧ Con d m_Rule_run 0 0 [.ref a3, .ref 48, .ref 49] M2 (PI fun r4 M3 => Fx M3 ∧ Φ (some (.int (if (-999) < (if r4 < (nI 999) then r4 else (nI 999)) then (if r4 < (nI 999) then r4 else (nI 999)) else (-999)))) M3))) ∧ ((mi M1 4 l1.toNatClampNeg) = l2 → Con d m_Law_name 0 0 [.ref 46, .int l3, .int (mi M1 2 l1.toNatClampNeg), .int l4, .int l2, .int (nI 1), .int (mi M1 1 9)] M1 (PV fun M4 => Fx M4 ∧ (sh M4)[a2]? = some (7, 2) ∧ ∃ a5 : Nat, mr M4 a2 1 = some a5 ∧ Con d m_Rule_run 0 0 [.ref a5, .ref 48, .ref 49] M4 (PI fun r6 M5 => Fx M5 ∧ Φ (some (.int (if (-999) < (if r6 < (nI 999) then r6 else (nI 999)) then (if r6 < (nI 999) then r6 else (nI 999)) else (-999)))) M5)))))) : Ex (d + 1) m_Law_worthOfDay bc bs 0 [some (.ref 46), some (.int l1), some (.int l2), some (.int l3), some (.int l4), none] [] M Φ := by
  refine ex_aload_n (pc := 0) (k := 0) (by decide +kernel) rfl ?_
  refine ex_callV (pc := 1) (as := []) (by decide +kernel) F_Law_theRule (in_t3 (i := 111) rfl rfl) (hF.s (j := 46) rfl) rfl (by decide) rfl rfl (Nat.le_of_ble_eq_true rfl) (Nat.lt_succ_self _) ⟨Nat.zero_le _, Nat.zero_le _⟩ (KC_R (Con.mono h ?_))
  intro o M1 ⟨r1, e9, hF1, h⟩
  refine ⟨r1, e9, ?_⟩
  cases r1 with
  | none =>
    replace h := h.1 rfl
    show Ex _ _ _ _ _ _ (Value.null :: _) _ _
    refine ex_astoreN (pc := 4) (k := 5) (lo2 := [some (.ref 46), some (.int l1), some (.int l2), some (.int l3), some (.int l4), some (.null)]) (by decide +kernel) (by decide) rfl ?_
    refine ex_aloadN (pc := 6) (k := 5) (by decide +kernel) rfl ?_
    refine ex_ifnonnullN (pc := 8) (off := 5) (by decide +kernel) ?_
    refine ex_iconst (pc := 11) (k := 0) (v := nI 0) (by decide +kernel) (by decide) ?_
    exact ex_ireturn (pc := 12) (by decide +kernel) rfl rfl h
  | some a2 =>
    replace h := h.2 a2 rfl
    show Ex _ _ _ _ _ _ (Value.ref a2 :: _) _ _
    refine ex_astore (pc := 4) (k := 5) (lo2 := [some (.ref 46), some (.int l1), some (.int l2), some (.int l3), some (.int l4), some (.ref a2)]) (by decide +kernel) (by decide) rfl ?_
    refine ex_aload (pc := 6) (k := 5) (by decide +kernel) rfl ?_
    refine ex_ifnonnull (pc := 8) (off := 5) (tgt := 13) (by decide +kernel) (by decide) ?_
    refine ex_aload_n (pc := 13) (k := 0) (by decide +kernel) rfl ?_
    refine ex_iload_n (pc := 14) (k := 3) (by decide +kernel) rfl ?_
    refine ex_aload_n (pc := 15) (k := 0) (by decide +kernel) rfl ?_
    refine ex_getR (pc := 16) (a := 1) (by decide +kernel) lf_Law_28 (hF1.s (j := 46) rfl) (hF1.r (j := 46) (k := 0) rfl rfl) ?_
    refine ex_getR (pc := 19) (a := 2) (by decide +kernel) lf_Law_45 (hF1.s (j := 1) rfl) (hF1.r (j := 1) (k := 0) rfl rfl) ?_
    refine ex_iload_n (pc := 22) (k := 1) (by decide +kernel) rfl ?_
    obtain ⟨g1, h⟩ := h
    refine ey_iald (pc := 23) (v := mi M1 2 l1.toNatClampNeg) (by decide +kernel) (hF1.s (j := 2) rfl) g1 rfl rfl ?_
    refine ex_iload (pc := 24) (k := 4) (by decide +kernel) rfl ?_
    refine ex_iload_n (pc := 26) (k := 2) (by decide +kernel) rfl ?_
    refine ex_aload_n (pc := 27) (k := 0) (by decide +kernel) rfl ?_
    refine ex_getR (pc := 28) (a := 1) (by decide +kernel) lf_Law_28 (hF1.s (j := 46) rfl) (hF1.r (j := 46) (k := 0) rfl rfl) ?_
    refine ex_getR (pc := 31) (a := 4) (by decide +kernel) lf_Law_59 (hF1.s (j := 1) rfl) (hF1.r (j := 1) (k := 2) rfl rfl) ?_
    refine ex_iload_n (pc := 34) (k := 1) (by decide +kernel) rfl ?_
    obtain ⟨g2, h⟩ := h
    refine ey_iald (pc := 35) (v := mi M1 4 l1.toNatClampNeg) (by decide +kernel) (hF1.s (j := 4) rfl) g2 rfl rfl ?_
    refine ex_iload_n (pc := 36) (k := 2) (by decide +kernel) rfl ?_
    refine ex_icmp_ne (pc := 37) (off := 7) (tgt := 44) (by decide +kernel) (by decide) (fun hc => ?_) (fun hc => ?_)
    · replace h := h.1 hc
      refine ex_iconst (pc := 44) (k := 0) (v := nI 0) (by decide +kernel) (by decide) ?_
      refine ex_aload_n (pc := 45) (k := 0) (by decide +kernel) rfl ?_
      refine ex_getR (pc := 46) (a := 1) (by decide +kernel) lf_Law_28 (hF1.s (j := 46) rfl) (hF1.r (j := 46) (k := 0) rfl rfl) ?_
      refine ey_getI (pc := 49) (v := mi M1 1 9) (by decide +kernel) lf_Law_62 (hF1.s (j := 1) rfl) rfl ?_
      refine ex_callV (pc := 52) (as := [.int l3, .int (mi M1 2 l1.toNatClampNeg), .int l4, .int l2, .int (nI 0), .int (mi M1 1 9)]) (by decide +kernel) F_Law_name (in_t3 (i := 116) rfl rfl) (hF1.s (j := 46) rfl) rfl (by decide) rfl rfl (Nat.le_of_ble_eq_true rfl) (Nat.lt_succ_self _) ⟨Nat.zero_le _, Nat.zero_le _⟩ (KC_V (Con.mono h ?_))
      intro o M2 ⟨e9, hF2, h⟩
      refine ⟨e9, ?_⟩
      refine ex_sipush (pc := 55) (k := -999) (v := -999) (by decide +kernel) (by decide) ?_
      refine ex_sipush (pc := 58) (k := 999) (v := nI 999) (by decide +kernel) (by decide) ?_
      refine ex_aload (pc := 61) (k := 5) (by decide +kernel) rfl ?_
      obtain ⟨g3, h⟩ := h
      obtain ⟨a3, g4, h⟩ := h
      refine ex_getR (pc := 63) (a := a3) (by decide +kernel) lf_Law_65 g3 g4 ?_
      refine ex_aload_n (pc := 66) (k := 0) (by decide +kernel) rfl ?_
      refine ex_getR (pc := 67) (a := 48) (by decide +kernel) lf_Law_21 (hF2.s (j := 46) rfl) (hF2.r (j := 46) (k := 3) rfl rfl) ?_
      refine ex_aload_n (pc := 70) (k := 0) (by decide +kernel) rfl ?_
      refine ex_getR (pc := 71) (a := 49) (by decide +kernel) lf_Law_25 (hF2.s (j := 46) rfl) (hF2.r (j := 46) (k := 4) rfl rfl) ?_
      refine ex_callS (pc := 74) (as := [.ref a3, .ref 48, .ref 49]) (by decide +kernel) F_Rule_run (in_t3 (i := 120) rfl rfl) rfl rfl (Nat.le_of_ble_eq_true rfl) (Nat.lt_succ_self _) ⟨Nat.zero_le _, Nat.zero_le _⟩ (KC_I (Con.mono h ?_))
      intro o M3 ⟨r4, e9, hF3, h⟩
      refine ⟨r4, e9, ?_⟩
      refine ex_min (pc := 77) (by decide +kernel) (in_t3 (i := 134) rfl rfl) (Nat.le_of_ble_eq_true rfl) (Nat.succ_le_succ (Nat.zero_le _)) ?_
      refine ex_max (pc := 80) (by decide +kernel) (in_t3 (i := 135) rfl rfl) (Nat.le_of_ble_eq_true rfl) (Nat.succ_le_succ (Nat.zero_le _)) ?_
      exact ex_ireturn (pc := 83) (by decide +kernel) rfl rfl h
    · replace h := h.2 hc
      refine ex_iconst (pc := 40) (k := 1) (v := nI 1) (by decide +kernel) (by decide) ?_
      refine ex_goto (pc := 41) (off := 4) (tgt := 45) (by decide +kernel) (by decide) ?_
      refine ex_aload_n (pc := 45) (k := 0) (by decide +kernel) rfl ?_
      refine ex_getR (pc := 46) (a := 1) (by decide +kernel) lf_Law_28 (hF1.s (j := 46) rfl) (hF1.r (j := 46) (k := 0) rfl rfl) ?_
      refine ey_getI (pc := 49) (v := mi M1 1 9) (by decide +kernel) lf_Law_62 (hF1.s (j := 1) rfl) rfl ?_
      refine ex_callV (pc := 52) (as := [.int l3, .int (mi M1 2 l1.toNatClampNeg), .int l4, .int l2, .int (nI 1), .int (mi M1 1 9)]) (by decide +kernel) F_Law_name (in_t3 (i := 116) rfl rfl) (hF1.s (j := 46) rfl) rfl (by decide) rfl rfl (Nat.le_of_ble_eq_true rfl) (Nat.lt_succ_self _) ⟨Nat.zero_le _, Nat.zero_le _⟩ (KC_V (Con.mono h ?_))
      intro o M4 ⟨e9, hF4, h⟩
      refine ⟨e9, ?_⟩
      refine ex_sipush (pc := 55) (k := -999) (v := -999) (by decide +kernel) (by decide) ?_
      refine ex_sipush (pc := 58) (k := 999) (v := nI 999) (by decide +kernel) (by decide) ?_
      refine ex_aload (pc := 61) (k := 5) (by decide +kernel) rfl ?_
      obtain ⟨g5, h⟩ := h
      obtain ⟨a5, g6, h⟩ := h
      refine ex_getR (pc := 63) (a := a5) (by decide +kernel) lf_Law_65 g5 g6 ?_
      refine ex_aload_n (pc := 66) (k := 0) (by decide +kernel) rfl ?_
      refine ex_getR (pc := 67) (a := 48) (by decide +kernel) lf_Law_21 (hF4.s (j := 46) rfl) (hF4.r (j := 46) (k := 3) rfl rfl) ?_
      refine ex_aload_n (pc := 70) (k := 0) (by decide +kernel) rfl ?_
      refine ex_getR (pc := 71) (a := 49) (by decide +kernel) lf_Law_25 (hF4.s (j := 46) rfl) (hF4.r (j := 46) (k := 4) rfl rfl) ?_
      refine ex_callS (pc := 74) (as := [.ref a5, .ref 48, .ref 49]) (by decide +kernel) F_Rule_run (in_t3 (i := 120) rfl rfl) rfl rfl (Nat.le_of_ble_eq_true rfl) (Nat.lt_succ_self _) ⟨Nat.zero_le _, Nat.zero_le _⟩ (KC_I (Con.mono h ?_))
      intro o M5 ⟨r6, e9, hF5, h⟩
      refine ⟨r6, e9, ?_⟩
      refine ex_min (pc := 77) (by decide +kernel) (in_t3 (i := 134) rfl rfl) (Nat.le_of_ble_eq_true rfl) (Nat.succ_le_succ (Nat.zero_le _)) ?_
      refine ex_max (pc := 80) (by decide +kernel) (in_t3 (i := 135) rfl rfl) (Nat.le_of_ble_eq_true rfl) (Nat.succ_le_succ (Nat.zero_le _)) ?_
      exact ex_ireturn (pc := 83) (by decide +kernel) rfl rfl h
theorem k_Law_name_0 {d bc bs : Nat} {l1 : Int32} {l2 : Int32} {l3 : Int32} {l4 : Int32} {l5 : Int32} {l6 : Int32} {M : Mem} {Φ : Option Value → Mem → Prop} (hF : Fx M) (h : Φ none (wi (wi (wi (wi (wi (wi M 48 0 l1) 48 1 l2) 48 2 l3) 48 3 l4) 48 4 l5) 48 5 l6)) : Ex (d + 1) m_Law_name bc bs 0 [some (.ref 46), some (.int l1), some (.int l2), some (.int l3), some (.int l4), some (.int l5), some (.int l6)] [] M Φ := by
  refine ex_aload_n (pc := 0) (k := 0) (by decide +kernel) rfl ?_
  refine ex_getR (pc := 1) (a := 48) (by decide +kernel) lf_Law_21 (hF.s (j := 46) rfl) (hF.r (j := 46) (k := 3) rfl rfl) ?_
  refine ex_iconst (pc := 4) (k := 0) (v := nI 0) (by decide +kernel) (by decide) ?_
  refine ex_iload_n (pc := 5) (k := 1) (by decide +kernel) rfl ?_
  refine ey_iast (pc := 6) (by decide +kernel) (hF.s (j := 48) rfl) (vp_in_nI (by decide) (by decide)) (nI_clamp (by decide)) ?_
  refine ex_aload_n (pc := 7) (k := 0) (by decide +kernel) rfl ?_
  refine ex_getR (pc := 8) (a := 48) (by decide +kernel) lf_Law_21 (hF.s (j := 46) rfl) (hF.r (j := 46) (k := 3) rfl rfl) ?_
  refine ex_iconst (pc := 11) (k := 1) (v := nI 1) (by decide +kernel) (by decide) ?_
  refine ex_iload_n (pc := 12) (k := 2) (by decide +kernel) rfl ?_
  refine ey_iast (pc := 13) (by decide +kernel) (hF.s (j := 48) rfl) (vp_in_nI (by decide) (by decide)) (nI_clamp (by decide)) ?_
  refine ex_aload_n (pc := 14) (k := 0) (by decide +kernel) rfl ?_
  refine ex_getR (pc := 15) (a := 48) (by decide +kernel) lf_Law_21 (hF.s (j := 46) rfl) (hF.r (j := 46) (k := 3) rfl rfl) ?_
  refine ex_iconst (pc := 18) (k := 2) (v := nI 2) (by decide +kernel) (by decide) ?_
  refine ex_iload_n (pc := 19) (k := 3) (by decide +kernel) rfl ?_
  refine ey_iast (pc := 20) (by decide +kernel) (hF.s (j := 48) rfl) (vp_in_nI (by decide) (by decide)) (nI_clamp (by decide)) ?_
  refine ex_aload_n (pc := 21) (k := 0) (by decide +kernel) rfl ?_
  refine ex_getR (pc := 22) (a := 48) (by decide +kernel) lf_Law_21 (hF.s (j := 46) rfl) (hF.r (j := 46) (k := 3) rfl rfl) ?_
  refine ex_iconst (pc := 25) (k := 3) (v := nI 3) (by decide +kernel) (by decide) ?_
  refine ex_iload (pc := 26) (k := 4) (by decide +kernel) rfl ?_
  refine ey_iast (pc := 28) (by decide +kernel) (hF.s (j := 48) rfl) (vp_in_nI (by decide) (by decide)) (nI_clamp (by decide)) ?_
  refine ex_aload_n (pc := 29) (k := 0) (by decide +kernel) rfl ?_
  refine ex_getR (pc := 30) (a := 48) (by decide +kernel) lf_Law_21 (hF.s (j := 46) rfl) (hF.r (j := 46) (k := 3) rfl rfl) ?_
  refine ex_iconst (pc := 33) (k := 4) (v := nI 4) (by decide +kernel) (by decide) ?_
  refine ex_iload (pc := 34) (k := 5) (by decide +kernel) rfl ?_
  refine ey_iast (pc := 36) (by decide +kernel) (hF.s (j := 48) rfl) (vp_in_nI (by decide) (by decide)) (nI_clamp (by decide)) ?_
  refine ex_aload_n (pc := 37) (k := 0) (by decide +kernel) rfl ?_
  refine ex_getR (pc := 38) (a := 48) (by decide +kernel) lf_Law_21 (hF.s (j := 46) rfl) (hF.r (j := 46) (k := 3) rfl rfl) ?_
  refine ex_iconst (pc := 41) (k := 5) (v := nI 5) (by decide +kernel) (by decide) ?_
  refine ex_iload (pc := 42) (k := 6) (by decide +kernel) rfl ?_
  refine ey_iast (pc := 44) (by decide +kernel) (hF.s (j := 48) rfl) (vp_in_nI (by decide) (by decide)) (nI_clamp (by decide)) ?_
  exact ex_return (pc := 45) (by decide +kernel) rfl h
