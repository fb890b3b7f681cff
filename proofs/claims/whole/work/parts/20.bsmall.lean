/-! printed blocks: java/lang/Integer, java/util/Arrays, MarketDays$Rule, MarketDays$Sheet, MarketDays$Giving -/
theorem k_Giving_isA_0 {d bc bs : Nat} {l0 : Int32} {l1 : Int32} {M : Mem} {Φ : Option Value → Mem → Prop} (hF : Fx M) (h : (l1 = l0 → Φ (some (.int (b2i true))) M) ∧ (¬ l1 = l0 → (l1 = 0 → Φ (some (.int (b2i true))) M) ∧ (¬ l1 = 0 → (¬ l1 = (nI 1) → Ex (d + 1) m_Giving_isA bc bs 19 [some (.int l0), some (.int l1)] [] M Φ) ∧ (l1 = (nI 1) → (l0 = (nI 5) → Φ (some (.int (b2i true))) M) ∧ (¬ l0 = (nI 5) → Ex (d + 1) m_Giving_isA bc bs 19 [some (.int l0), some (.int l1)] [] M Φ))))) : Ex (d + 1) m_Giving_isA bc bs 0 [some (.int l0), some (.int l1)] [] M Φ := by
  refine ex_iload_n (pc := 0) (k := 1) (by decide +kernel) rfl ?_
  refine ex_iload_n (pc := 1) (k := 0) (by decide +kernel) rfl ?_
  refine ex_icmp_eq (pc := 2) (off := 27) (tgt := 29) (by decide +kernel) (by decide) (fun hc => ?_) (fun hc => ?_)
  · replace h := h.1 hc
    refine ex_iconst (pc := 29) (k := 1) (v := nI 1) (by decide +kernel) (by decide) ?_
    refine ex_goto (pc := 30) (off := 4) (tgt := 34) (by decide +kernel) (by decide) ?_
    exact ex_ireturn (pc := 34) (v := b2i true) (by decide +kernel) rfl (b2i_n _) h
  · replace h := h.2 hc
    refine ex_iload_n (pc := 5) (k := 1) (by decide +kernel) rfl ?_
    refine ex_if_eq (pc := 6) (off := 23) (tgt := 29) (by decide +kernel) (by decide) (fun hc => ?_) (fun hc => ?_)
    · replace h := h.1 hc
      refine ex_iconst (pc := 29) (k := 1) (v := nI 1) (by decide +kernel) (by decide) ?_
      refine ex_goto (pc := 30) (off := 4) (tgt := 34) (by decide +kernel) (by decide) ?_
      exact ex_ireturn (pc := 34) (v := b2i true) (by decide +kernel) rfl (b2i_n _) h
    · replace h := h.2 hc
      refine ex_iload_n (pc := 9) (k := 1) (by decide +kernel) rfl ?_
      refine ex_iconst (pc := 10) (k := 1) (v := nI 1) (by decide +kernel) (by decide) ?_
      refine ex_icmp_ne (pc := 11) (off := 8) (tgt := 19) (by decide +kernel) (by decide) (fun hc => ?_) (fun hc => ?_)
      · replace h := h.1 hc
        exact h
      · replace h := h.2 hc
        refine ex_iload_n (pc := 14) (k := 0) (by decide +kernel) rfl ?_
        refine ex_iconst (pc := 15) (k := 5) (v := nI 5) (by decide +kernel) (by decide) ?_
        refine ex_icmp_eq (pc := 16) (off := 13) (tgt := 29) (by decide +kernel) (by decide) (fun hc => ?_) (fun hc => ?_)
        · replace h := h.1 hc
          refine ex_iconst (pc := 29) (k := 1) (v := nI 1) (by decide +kernel) (by decide) ?_
          refine ex_goto (pc := 30) (off := 4) (tgt := 34) (by decide +kernel) (by decide) ?_
          exact ex_ireturn (pc := 34) (v := b2i true) (by decide +kernel) rfl (b2i_n _) h
        · replace h := h.2 hc
          exact h
theorem k_Giving_isA_19 {d bc bs : Nat} {l0 : Int32} {l1 : Int32} {M : Mem} {Φ : Option Value → Mem → Prop} (hF : Fx M) (h : (¬ l1 = (nI 3) → Φ (some (.int (b2i false))) M) ∧ (l1 = (nI 3) → (¬ l0 = (nI 4) → Φ (some (.int (b2i false))) M) ∧ (l0 = (nI 4) → Φ (some (.int (b2i true))) M))) : Ex (d + 1) m_Giving_isA bc bs 19 [some (.int l0), some (.int l1)] [] M Φ := by
  refine ex_iload_n (pc := 19) (k := 1) (by decide +kernel) rfl ?_
  refine ex_iconst (pc := 20) (k := 3) (v := nI 3) (by decide +kernel) (by decide) ?_
  refine ex_icmp_ne (pc := 21) (off := 12) (tgt := 33) (by decide +kernel) (by decide) (fun hc => ?_) (fun hc => ?_)
  · replace h := h.1 hc
    refine ex_iconst (pc := 33) (k := 0) (v := nI 0) (by decide +kernel) (by decide) ?_
    exact ex_ireturn (pc := 34) (v := b2i false) (by decide +kernel) rfl (b2i_n _) h
  · replace h := h.2 hc
    refine ex_iload_n (pc := 24) (k := 0) (by decide +kernel) rfl ?_
    refine ex_iconst (pc := 25) (k := 4) (v := nI 4) (by decide +kernel) (by decide) ?_
    refine ex_icmp_ne (pc := 26) (off := 7) (tgt := 33) (by decide +kernel) (by decide) (fun hc => ?_) (fun hc => ?_)
    · replace h := h.1 hc
      refine ex_iconst (pc := 33) (k := 0) (v := nI 0) (by decide +kernel) (by decide) ?_
      exact ex_ireturn (pc := 34) (v := b2i false) (by decide +kernel) rfl (b2i_n _) h
    · replace h := h.2 hc
      refine ex_iconst (pc := 29) (k := 1) (v := nI 1) (by decide +kernel) (by decide) ?_
      refine ex_goto (pc := 30) (off := 4) (tgt := 34) (by decide +kernel) (by decide) ?_
      exact ex_ireturn (pc := 34) (v := b2i true) (by decide +kernel) rfl (b2i_n _) h
theorem k_Giving_mayTell_0 {d bc bs : Nat} {l0 : Int32} {l1 : Int32} {l2 : Int32} {M : Mem} {Φ : Option Value → Mem → Prop} (hF : Fx M) (h : (l1 < 0 → Φ (some (.int (b2i false))) M) ∧ (¬ l1 < 0 → Con d m_Giving_isA 0 0 [.int l0, .int (nI 1)] M (PB fun r1 M1 => Fx M1 ∧ (r1 = false → (l2 ≤ l1 → Φ (some (.int (b2i false))) M1) ∧ (¬ l2 ≤ l1 → Φ (some (.int (b2i true))) M1)) ∧ (r1 = true → ((nI 7) < l1 → Φ (some (.int (b2i false))) M1) ∧ (¬ (nI 7) < l1 → Φ (some (.int (b2i true))) M1))))) : Ex (d + 1) m_Giving_mayTell bc bs 0 [some (.int l0), some (.int l1), some (.int l2)] [] M Φ := by
  refine ex_iload_n (pc := 0) (k := 1) (by decide +kernel) rfl ?_
  refine ex_if_lt (pc := 1) (off := 29) (tgt := 30) (by decide +kernel) (by decide) (fun hc => ?_) (fun hc => ?_)
  · replace h := h.1 hc
    refine ex_iconst (pc := 30) (k := 0) (v := nI 0) (by decide +kernel) (by decide) ?_
    exact ex_ireturn (pc := 31) (v := b2i false) (by decide +kernel) rfl (b2i_n _) h
  · replace h := h.2 hc
    refine ex_iload_n (pc := 4) (k := 0) (by decide +kernel) rfl ?_
    refine ex_iconst (pc := 5) (k := 1) (v := nI 1) (by decide +kernel) (by decide) ?_
    refine ex_callS (pc := 6) (as := [.int l0, .int (nI 1)]) (by decide +kernel) F_Giving_isA (in_t3 (i := 157) rfl rfl) rfl rfl (Nat.le_of_ble_eq_true rfl) (Nat.lt_succ_self _) ⟨Nat.zero_le _, Nat.zero_le _⟩ (KC_B (Con.mono h ?_))
    intro o M1 ⟨r1, e9, hF1, h⟩
    refine ⟨r1, e9, ?_⟩
    refine ey_ifeqB (pc := 9) (off := 12) (tgt := 21) (by decide +kernel) (by decide) (fun hc => ?_) (fun hc => ?_)
    · replace h := h.1 hc
      refine ex_iload_n (pc := 21) (k := 1) (by decide +kernel) rfl ?_
      refine ex_iload_n (pc := 22) (k := 2) (by decide +kernel) rfl ?_
      refine ex_icmp_ge (pc := 23) (off := 7) (tgt := 30) (by decide +kernel) (by decide) (fun hc => ?_) (fun hc => ?_)
      · replace h := h.1 hc
        refine ex_iconst (pc := 30) (k := 0) (v := nI 0) (by decide +kernel) (by decide) ?_
        exact ex_ireturn (pc := 31) (v := b2i false) (by decide +kernel) rfl (b2i_n _) h
      · replace h := h.2 hc
        refine ex_iconst (pc := 26) (k := 1) (v := nI 1) (by decide +kernel) (by decide) ?_
        refine ex_goto (pc := 27) (off := 4) (tgt := 31) (by decide +kernel) (by decide) ?_
        exact ex_ireturn (pc := 31) (v := b2i true) (by decide +kernel) rfl (b2i_n _) h
    · replace h := h.2 hc
      refine ex_iload_n (pc := 12) (k := 1) (by decide +kernel) rfl ?_
      refine ex_bipush (pc := 13) (k := 7) (v := nI 7) (by decide +kernel) (by decide) ?_
      refine ex_icmp_gt (pc := 15) (off := 15) (tgt := 30) (by decide +kernel) (by decide) (fun hc => ?_) (fun hc => ?_)
      · replace h := h.1 hc
        refine ex_iconst (pc := 30) (k := 0) (v := nI 0) (by decide +kernel) (by decide) ?_
        exact ex_ireturn (pc := 31) (v := b2i false) (by decide +kernel) rfl (b2i_n _) h
      · replace h := h.2 hc
        refine ex_goto (pc := 18) (off := 8) (tgt := 26) (by decide +kernel) (by decide) ?_
        refine ex_iconst (pc := 26) (k := 1) (v := nI 1) (by decide +kernel) (by decide) ?_
        refine ex_goto (pc := 27) (off := 4) (tgt := 31) (by decide +kernel) (by decide) ?_
        exact ex_ireturn (pc := 31) (v := b2i true) (by decide +kernel) rfl (b2i_n _) h
theorem k_Giving_feastsMoveIt_0 {d bc bs : Nat} {l0 : Nat} {M : Mem} {Φ : Option Value → Mem → Prop} (hF : Fx M) (h : (sh M)[l0]? = some (3, 2) ∧ ((mi M l0 0) = (nI 5) → Φ (some (.int (b2i false))) M) ∧ (¬ (mi M l0 0) = (nI 5) → Φ (some (.int (b2i true))) M)) : Ex (d + 1) m_Giving_feastsMoveIt bc bs 0 [some (.ref l0)] [] M Φ := by
  refine ex_aload_n (pc := 0) (k := 0) (by decide +kernel) rfl ?_
  obtain ⟨g1, h⟩ := h
  refine ey_getI (pc := 1) (v := mi M l0 0) (by decide +kernel) lf_Giving_9 g1 rfl ?_
  refine ex_iconst (pc := 4) (k := 5) (v := nI 5) (by decide +kernel) (by decide) ?_
  refine ex_icmp_eq (pc := 5) (off := 7) (tgt := 12) (by decide +kernel) (by decide) (fun hc => ?_) (fun hc => ?_)
  · replace h := h.1 hc
    refine ex_iconst (pc := 12) (k := 0) (v := nI 0) (by decide +kernel) (by decide) ?_
    exact ex_ireturn (pc := 13) (v := b2i false) (by decide +kernel) rfl (b2i_n _) h
  · replace h := h.2 hc
    refine ex_iconst (pc := 8) (k := 1) (v := nI 1) (by decide +kernel) (by decide) ?_
    refine ex_goto (pc := 9) (off := 4) (tgt := 13) (by decide +kernel) (by decide) ?_
    exact ex_ireturn (pc := 13) (v := b2i true) (by decide +kernel) rfl (b2i_n _) h
theorem k_Giving_numberOf_0 {d bc bs : Nat} {l0 : Nat} {l1 : Int32} {M : Mem} {Φ : Option Value → Mem → Prop} (hF : Fx M) (h : (l1 < 0 → Φ (some (.int (-1))) M) ∧ (¬ l1 < 0 → (sh M)[l0]? = some (3, 2) ∧ ∃ a1 : Nat, mr M l0 1 = some a1 ∧ ∃ N2 : Nat, (sh M)[a1]? = some (100, N2) ∧ ((nI N2) ≤ l1 → Φ (some (.int (-1))) M) ∧ (¬ (nI N2) ≤ l1 → (sh M)[l0]? = some (3, 2) ∧ ∃ a3 : Nat, mr M l0 1 = some a3 ∧ ∃ N4 : Nat, (sh M)[a3]? = some (100, N4) ∧ vp_in l1 N4 ∧ Φ (some (.int (mi M a3 l1.toNatClampNeg))) M))) : Ex (d + 1) m_Giving_numberOf bc bs 0 [some (.ref l0), some (.int l1)] [] M Φ := by
  refine ex_iload_n (pc := 0) (k := 1) (by decide +kernel) rfl ?_
  refine ex_if_lt (pc := 1) (off := 21) (tgt := 22) (by decide +kernel) (by decide) (fun hc => ?_) (fun hc => ?_)
  · replace h := h.1 hc
    refine ex_iconst (pc := 22) (k := -1) (v := -1) (by decide +kernel) (by decide) ?_
    exact ex_ireturn (pc := 23) (by decide +kernel) rfl rfl h
  · replace h := h.2 hc
    refine ex_iload_n (pc := 4) (k := 1) (by decide +kernel) rfl ?_
    refine ex_aload_n (pc := 5) (k := 0) (by decide +kernel) rfl ?_
    obtain ⟨g1, h⟩ := h
    obtain ⟨a1, g2, h⟩ := h
    refine ex_getR (pc := 6) (a := a1) (by decide +kernel) lf_Giving_15 g1 g2 ?_
    obtain ⟨N2, g3, h⟩ := h
    refine ex_alen (pc := 9) (by decide +kernel) g3 (by decide) ?_
    refine ex_icmp_ge (pc := 10) (off := 12) (tgt := 22) (by decide +kernel) (by decide) (fun hc => ?_) (fun hc => ?_)
    · replace h := h.1 hc
      refine ex_iconst (pc := 22) (k := -1) (v := -1) (by decide +kernel) (by decide) ?_
      exact ex_ireturn (pc := 23) (by decide +kernel) rfl rfl h
    · replace h := h.2 hc
      refine ex_aload_n (pc := 13) (k := 0) (by decide +kernel) rfl ?_
      obtain ⟨g4, h⟩ := h
      obtain ⟨a3, g5, h⟩ := h
      refine ex_getR (pc := 14) (a := a3) (by decide +kernel) lf_Giving_15 g4 g5 ?_
      refine ex_iload_n (pc := 17) (k := 1) (by decide +kernel) rfl ?_
      obtain ⟨N4, g6, h⟩ := h
      obtain ⟨g7, h⟩ := h
      refine ey_iald (pc := 18) (v := mi M a3 l1.toNatClampNeg) (by decide +kernel) g6 g7 rfl rfl ?_
      refine ex_goto (pc := 19) (off := 4) (tgt := 23) (by decide +kernel) (by decide) ?_
      exact ex_ireturn (pc := 23) (by decide +kernel) rfl rfl h
theorem k_Giving_marketIn_0 {d bc bs : Nat} {l0 : Nat} {l2 : Int32} {l3 : Int32} {M : Mem} {Φ : Option Value → Mem → Prop} (hF : Fx M) (h : (sh M)[l0]? = some (3, 2) ∧ Con d m_Giving_daysIn 0 0 [.ref l0, .ref 1, .int l2, .int l3] M (PI fun r1 M1 => Fx M1 ∧ (sh M1)[l0]? = some (3, 2) ∧ Con d m_Giving_feastsMoveIt 0 0 [.ref l0] M1 (PB fun r2 M2 => Fx M2 ∧ (r2 = false → Φ (some (.int r1)) M2) ∧ (r2 = true → Con d m_Land_movedByFeasts 0 0 [.ref 1, .int r1, .int l3] M2 (PI fun r3 M3 => Fx M3 ∧ Φ (some (.int r3)) M3))))) : Ex (d + 1) m_Giving_marketIn bc bs 0 [some (.ref l0), some (.ref 1), some (.int l2), some (.int l3), none] [] M Φ := by
  refine ex_aload_n (pc := 0) (k := 0) (by decide +kernel) rfl ?_
  refine ex_aload_n (pc := 1) (k := 1) (by decide +kernel) rfl ?_
  refine ex_iload_n (pc := 2) (k := 2) (by decide +kernel) rfl ?_
  refine ex_iload_n (pc := 3) (k := 3) (by decide +kernel) rfl ?_
  obtain ⟨g1, h⟩ := h
  refine ex_callV (pc := 4) (as := [.ref 1, .int l2, .int l3]) (by decide +kernel) F_Giving_daysIn (in_t3 (i := 189) rfl rfl) g1 rfl (by decide) rfl rfl (Nat.le_of_ble_eq_true rfl) (Nat.lt_succ_self _) ⟨Nat.zero_le _, Nat.zero_le _⟩ (KC_I (Con.mono h ?_))
  intro o M1 ⟨r1, e9, hF1, h⟩
  refine ⟨r1, e9, ?_⟩
  refine ex_istore (pc := 7) (k := 4) (lo2 := [some (.ref l0), some (.ref 1), some (.int l2), some (.int l3), some (.int r1)]) (by decide +kernel) (by decide) rfl ?_
  refine ex_aload_n (pc := 9) (k := 0) (by decide +kernel) rfl ?_
  obtain ⟨g2, h⟩ := h
  refine ex_callV (pc := 10) (as := []) (by decide +kernel) F_Giving_feastsMoveIt (in_t3 (i := 201) rfl rfl) g2 rfl (by decide) rfl rfl (Nat.le_of_ble_eq_true rfl) (Nat.lt_succ_self _) ⟨Nat.zero_le _, Nat.zero_le _⟩ (KC_B (Con.mono h ?_))
  intro o M2 ⟨r2, e9, hF2, h⟩
  refine ⟨r2, e9, ?_⟩
  refine ey_ifeqB (pc := 13) (off := 13) (tgt := 26) (by decide +kernel) (by decide) (fun hc => ?_) (fun hc => ?_)
  · replace h := h.1 hc
    refine ex_iload (pc := 26) (k := 4) (by decide +kernel) rfl ?_
    exact ex_ireturn (pc := 28) (by decide +kernel) rfl rfl h
  · replace h := h.2 hc
    refine ex_aload_n (pc := 16) (k := 1) (by decide +kernel) rfl ?_
    refine ex_iload (pc := 17) (k := 4) (by decide +kernel) rfl ?_
    refine ex_iload_n (pc := 19) (k := 3) (by decide +kernel) rfl ?_
    refine ex_callV (pc := 20) (as := [.int r1, .int l3]) (by decide +kernel) F_Land_movedByFeasts (in_t3 (i := 205) rfl rfl) (hF2.s (j := 1) rfl) rfl (by decide) rfl rfl (Nat.le_of_ble_eq_true rfl) (Nat.lt_succ_self _) ⟨Nat.zero_le _, Nat.zero_le _⟩ (KC_I (Con.mono h ?_))
    intro o M3 ⟨r3, e9, hF3, h⟩
    refine ⟨r3, e9, ?_⟩
    refine ex_goto (pc := 23) (off := 5) (tgt := 28) (by decide +kernel) (by decide) ?_
    exact ex_ireturn (pc := 28) (by decide +kernel) rfl rfl h
theorem k_Giving_daysIn_0 {d bc bs : Nat} {l0 : Nat} {l2 : Int32} {l3 : Int32} {M : Mem} {Φ : Option Value → Mem → Prop} (hF : Fx M) (h : (sh M)[l0]? = some (3, 2) ∧ Con d m_Giving_numberOf 0 0 [.ref l0, .int l2] M (PI fun r1 M1 => Fx M1 ∧ (r1 < 0 → Φ (some (.int (nI 0))) M1) ∧ (¬ r1 < 0 → (r1 < (mi M1 1 9) → (sh M1)[l0]? = some (3, 2) ∧ ((mi M1 l0 0) = nI 2 → Con d m_Land_daysOn 0 0 [.ref 1, .int r1, .int ((mi M1 1 9) / (nI 2))] M1 (PI fun r2 M2 => Fx M2 ∧ Φ (some (.int (((nI 1) <<< (r1 &&& 31)) ||| ((nI 1) <<< (r2 &&& 31))))) M2)) ∧ ((mi M1 l0 0) = nI 3 → Con d m_Land_daysOn 0 0 [.ref 1, .int r1, .int l3] M1 (PI fun r3 M3 => Fx M3 ∧ Φ (some (.int ((nI 1) <<< (r3 &&& 31)))) M3)) ∧ ((mi M1 l0 0) = nI 4 → (¬ (l3 % (nI 2)) = 0 → Con d m_Land_daysOn 0 0 [.ref 1, .int r1, .int (l3 + (nI 2))] M1 (PI fun r4 M4 => Fx M4 ∧ Φ (some (.int ((nI 1) <<< (r4 &&& 31)))) M4)) ∧ ((l3 % (nI 2)) = 0 → Con d m_Land_daysOn 0 0 [.ref 1, .int r1, .int l3] M1 (PI fun r5 M5 => Fx M5 ∧ Φ (some (.int ((nI 1) <<< (r5 &&& 31)))) M5))) ∧ (¬ (mi M1 l0 0) = nI 2 → ¬ (mi M1 l0 0) = nI 3 → ¬ (mi M1 l0 0) = nI 4 → Φ (some (.int ((nI 1) <<< (r1 &&& 31)))) M1)) ∧ (¬ r1 < (mi M1 1 9) → Φ (some (.int (nI 0))) M1)))) : Ex (d + 1) m_Giving_daysIn bc bs 0 [some (.ref l0), some (.ref 1), some (.int l2), some (.int l3), none] [] M Φ := by
  refine ex_aload_n (pc := 0) (k := 0) (by decide +kernel) rfl ?_
  refine ex_iload_n (pc := 1) (k := 2) (by decide +kernel) rfl ?_
  obtain ⟨g1, h⟩ := h
  refine ex_callV (pc := 2) (as := [.int l2]) (by decide +kernel) F_Giving_numberOf (in_t3 (i := 193) rfl rfl) g1 rfl (by decide) rfl rfl (Nat.le_of_ble_eq_true rfl) (Nat.lt_succ_self _) ⟨Nat.zero_le _, Nat.zero_le _⟩ (KC_I (Con.mono h ?_))
  intro o M1 ⟨r1, e9, hF1, h⟩
  refine ⟨r1, e9, ?_⟩
  refine ex_istore (pc := 5) (k := 4) (lo2 := [some (.ref l0), some (.ref 1), some (.int l2), some (.int l3), some (.int r1)]) (by decide +kernel) (by decide) rfl ?_
  refine ex_iload (pc := 7) (k := 4) (by decide +kernel) rfl ?_
  refine ex_if_lt (pc := 9) (off := 12) (tgt := 21) (by decide +kernel) (by decide) (fun hc => ?_) (fun hc => ?_)
  · replace h := h.1 hc
    refine ex_iconst (pc := 21) (k := 0) (v := nI 0) (by decide +kernel) (by decide) ?_
    exact ex_ireturn (pc := 22) (by decide +kernel) rfl rfl h
  · replace h := h.2 hc
    refine ex_iload (pc := 12) (k := 4) (by decide +kernel) rfl ?_
    refine ex_aload_n (pc := 14) (k := 1) (by decide +kernel) rfl ?_
    refine ey_getI (pc := 15) (v := mi M1 1 9) (by decide +kernel) lf_Giving_41 (hF1.s (j := 1) rfl) rfl ?_
    refine ex_icmp_lt (pc := 18) (off := 5) (tgt := 23) (by decide +kernel) (by decide) (fun hc => ?_) (fun hc => ?_)
    · replace h := h.1 hc
      refine ex_aload_n (pc := 23) (k := 0) (by decide +kernel) rfl ?_
      obtain ⟨g2, h⟩ := h
      refine ey_getI (pc := 24) (v := mi M1 l0 0) (by decide +kernel) lf_Giving_9 g2 rfl ?_
      by_cases hc : (mi M1 l0 0) = nI 2
      · replace h := h.1 hc
        rw [hc]
        refine ex_tableIn (pc := 27) (dflt := 77) (l9 := 2) (h9 := 4) (offs := #[25, 45, 55]) (len := 25) (off := 25) (tgt := 52) (by decide +kernel) (by decide) (by decide) (by decide +kernel) (by decide) ?_
        refine ex_iconst (pc := 52) (k := 1) (v := nI 1) (by decide +kernel) (by decide) ?_
        refine ex_iload (pc := 53) (k := 4) (by decide +kernel) rfl ?_
        refine ex_ishl (pc := 55) (by decide +kernel) ?_
        refine ex_iconst (pc := 56) (k := 1) (v := nI 1) (by decide +kernel) (by decide) ?_
        refine ex_aload_n (pc := 57) (k := 1) (by decide +kernel) rfl ?_
        refine ex_iload (pc := 58) (k := 4) (by decide +kernel) rfl ?_
        refine ex_aload_n (pc := 60) (k := 1) (by decide +kernel) rfl ?_
        refine ey_getI (pc := 61) (v := mi M1 1 9) (by decide +kernel) lf_Giving_41 (hF1.s (j := 1) rfl) rfl ?_
        refine ex_iconst (pc := 64) (k := 2) (v := nI 2) (by decide +kernel) (by decide) ?_
        refine ex_idiv (pc := 65) (by decide +kernel) (by decide) ?_
        refine ex_callV (pc := 66) (as := [.int r1, .int ((mi M1 1 9) / (nI 2))]) (by decide +kernel) F_Land_daysOn (in_t3 (i := 197) rfl rfl) (hF1.s (j := 1) rfl) rfl (by decide) rfl rfl (Nat.le_of_ble_eq_true rfl) (Nat.lt_succ_self _) ⟨Nat.zero_le _, Nat.zero_le _⟩ (KC_I (Con.mono h ?_))
        intro o M2 ⟨r2, e9, hF2, h⟩
        refine ⟨r2, e9, ?_⟩
        refine ex_ishl (pc := 69) (by decide +kernel) ?_
        refine ex_ior (pc := 70) (by decide +kernel) ?_
        exact ex_ireturn (pc := 71) (by decide +kernel) rfl rfl h
      replace h := h.2
      have n0 := hc
      by_cases hc : (mi M1 l0 0) = nI 3
      · replace h := h.1 hc
        rw [hc]
        refine ex_tableIn (pc := 27) (dflt := 77) (l9 := 2) (h9 := 4) (offs := #[25, 45, 55]) (len := 25) (off := 45) (tgt := 72) (by decide +kernel) (by decide) (by decide) (by decide +kernel) (by decide) ?_
        refine ex_iconst (pc := 72) (k := 1) (v := nI 1) (by decide +kernel) (by decide) ?_
        refine ex_aload_n (pc := 73) (k := 1) (by decide +kernel) rfl ?_
        refine ex_iload (pc := 74) (k := 4) (by decide +kernel) rfl ?_
        refine ex_iload_n (pc := 76) (k := 3) (by decide +kernel) rfl ?_
        refine ex_callV (pc := 77) (as := [.int r1, .int l3]) (by decide +kernel) F_Land_daysOn (in_t3 (i := 197) rfl rfl) (hF1.s (j := 1) rfl) rfl (by decide) rfl rfl (Nat.le_of_ble_eq_true rfl) (Nat.lt_succ_self _) ⟨Nat.zero_le _, Nat.zero_le _⟩ (KC_I (Con.mono h ?_))
        intro o M3 ⟨r3, e9, hF3, h⟩
        refine ⟨r3, e9, ?_⟩
        refine ex_ishl (pc := 80) (by decide +kernel) ?_
        exact ex_ireturn (pc := 81) (by decide +kernel) rfl rfl h
      replace h := h.2
      have n1 := hc
      by_cases hc : (mi M1 l0 0) = nI 4
      · replace h := h.1 hc
        rw [hc]
        refine ex_tableIn (pc := 27) (dflt := 77) (l9 := 2) (h9 := 4) (offs := #[25, 45, 55]) (len := 25) (off := 55) (tgt := 82) (by decide +kernel) (by decide) (by decide) (by decide +kernel) (by decide) ?_
        refine ex_iconst (pc := 82) (k := 1) (v := nI 1) (by decide +kernel) (by decide) ?_
        refine ex_aload_n (pc := 83) (k := 1) (by decide +kernel) rfl ?_
        refine ex_iload (pc := 84) (k := 4) (by decide +kernel) rfl ?_
        refine ex_iload_n (pc := 86) (k := 3) (by decide +kernel) rfl ?_
        refine ex_iconst (pc := 87) (k := 2) (v := nI 2) (by decide +kernel) (by decide) ?_
        refine ex_irem (pc := 88) (by decide +kernel) (by decide) ?_
        refine ex_if_ne (pc := 89) (off := 7) (tgt := 96) (by decide +kernel) (by decide) (fun hc => ?_) (fun hc => ?_)
        · replace h := h.1 hc
          refine ex_iload_n (pc := 96) (k := 3) (by decide +kernel) rfl ?_
          refine ex_iconst (pc := 97) (k := 2) (v := nI 2) (by decide +kernel) (by decide) ?_
          refine ex_iadd (pc := 98) (by decide +kernel) ?_
          refine ex_callV (pc := 99) (as := [.int r1, .int (l3 + (nI 2))]) (by decide +kernel) F_Land_daysOn (in_t3 (i := 197) rfl rfl) (hF1.s (j := 1) rfl) rfl (by decide) rfl rfl (Nat.le_of_ble_eq_true rfl) (Nat.lt_succ_self _) ⟨Nat.zero_le _, Nat.zero_le _⟩ (KC_I (Con.mono h ?_))
          intro o M4 ⟨r4, e9, hF4, h⟩
          refine ⟨r4, e9, ?_⟩
          refine ex_ishl (pc := 102) (by decide +kernel) ?_
          exact ex_ireturn (pc := 103) (by decide +kernel) rfl rfl h
        · replace h := h.2 hc
          refine ex_iload_n (pc := 92) (k := 3) (by decide +kernel) rfl ?_
          refine ex_goto (pc := 93) (off := 6) (tgt := 99) (by decide +kernel) (by decide) ?_
          refine ex_callV (pc := 99) (as := [.int r1, .int l3]) (by decide +kernel) F_Land_daysOn (in_t3 (i := 197) rfl rfl) (hF1.s (j := 1) rfl) rfl (by decide) rfl rfl (Nat.le_of_ble_eq_true rfl) (Nat.lt_succ_self _) ⟨Nat.zero_le _, Nat.zero_le _⟩ (KC_I (Con.mono h ?_))
          intro o M5 ⟨r5, e9, hF5, h⟩
          refine ⟨r5, e9, ?_⟩
          refine ex_ishl (pc := 102) (by decide +kernel) ?_
          exact ex_ireturn (pc := 103) (by decide +kernel) rfl rfl h
      replace h := h.2
      have n2 := hc
      refine ex_tableOut (pc := 27) (dflt := 77) (l9 := 2) (h9 := 4) (offs := #[25, 45, 55]) (len := 25) (tgt := 104) (by decide +kernel) (tab_out (fun q hq1 hq2 => ?_)) (by decide) ?_
      · rcases (show q = (2 : Int) ∨ q = (3 : Int) ∨ q = (4 : Int) by omega) with rfl | rfl | rfl
        · rw [show Int32.ofInt (2) = nI 2 by decide]; exact n0
        · rw [show Int32.ofInt (3) = nI 3 by decide]; exact n1
        · rw [show Int32.ofInt (4) = nI 4 by decide]; exact n2
      · replace h := h n0 n1 n2
        refine ex_iconst (pc := 104) (k := 1) (v := nI 1) (by decide +kernel) (by decide) ?_
        refine ex_iload (pc := 105) (k := 4) (by decide +kernel) rfl ?_
        refine ex_ishl (pc := 107) (by decide +kernel) ?_
        exact ex_ireturn (pc := 108) (by decide +kernel) rfl rfl h
    · replace h := h.2 hc
      refine ex_iconst (pc := 21) (k := 0) (v := nI 0) (by decide +kernel) (by decide) ?_
      exact ex_ireturn (pc := 22) (by decide +kernel) rfl rfl h
theorem k_Giving_worthBy_0 {d bc bs : Nat} {l0 : Nat} {l1 : Int32} {l2 : Int32} {M : Mem} {Φ : Option Value → Mem → Prop} (hF : Fx M) (h : (sh M)[l0]? = some (3, 2) ∧ ((mi M l0 0) = nI 1 → (l2 = 0 → Φ (some (.int (-1))) M) ∧ (¬ l2 = 0 → Φ (some (.int l1)) M)) ∧ ((mi M l0 0) = nI 2 → Φ (some (.int (l1 / (nI 2)))) M) ∧ ((mi M l0 0) = nI 3 → Φ (some (.int (l1 - (nI 2)))) M) ∧ ((mi M l0 0) = nI 4 → Φ (some (.int (l1 - (nI 2)))) M) ∧ ((mi M l0 0) = nI 5 → (l2 = 0 → Φ (some (.int (nI 0))) M) ∧ (¬ l2 = 0 → Φ (some (.int (l1 + (nI 1)))) M)) ∧ (¬ (mi M l0 0) = nI 1 → ¬ (mi M l0 0) = nI 2 → ¬ (mi M l0 0) = nI 3 → ¬ (mi M l0 0) = nI 4 → ¬ (mi M l0 0) = nI 5 → Φ (some (.int l1)) M)) : Ex (d + 1) m_Giving_worthBy bc bs 0 [some (.ref l0), some (.int l1), some (.int l2)] [] M Φ := by
  refine ex_aload_n (pc := 0) (k := 0) (by decide +kernel) rfl ?_
  obtain ⟨g1, h⟩ := h
  refine ey_getI (pc := 1) (v := mi M l0 0) (by decide +kernel) lf_Giving_9 g1 rfl ?_
  by_cases hc : (mi M l0 0) = nI 1
  · replace h := h.1 hc
    rw [hc]
    refine ex_tableIn (pc := 4) (dflt := 66) (l9 := 1) (h9 := 5) (offs := #[36, 58, 62, 62, 46]) (len := 36) (off := 36) (tgt := 40) (by decide +kernel) (by decide) (by decide) (by decide +kernel) (by decide) ?_
    refine ex_iload_n (pc := 40) (k := 2) (by decide +kernel) rfl ?_
    refine ex_if_eq (pc := 41) (off := 7) (tgt := 48) (by decide +kernel) (by decide) (fun hc => ?_) (fun hc => ?_)
    · replace h := h.1 hc
      refine ex_iconst (pc := 48) (k := -1) (v := -1) (by decide +kernel) (by decide) ?_
      exact ex_ireturn (pc := 49) (by decide +kernel) rfl rfl h
    · replace h := h.2 hc
      refine ex_iload_n (pc := 44) (k := 1) (by decide +kernel) rfl ?_
      refine ex_goto (pc := 45) (off := 4) (tgt := 49) (by decide +kernel) (by decide) ?_
      exact ex_ireturn (pc := 49) (by decide +kernel) rfl rfl h
  replace h := h.2
  have n0 := hc
  by_cases hc : (mi M l0 0) = nI 2
  · replace h := h.1 hc
    rw [hc]
    refine ex_tableIn (pc := 4) (dflt := 66) (l9 := 1) (h9 := 5) (offs := #[36, 58, 62, 62, 46]) (len := 36) (off := 58) (tgt := 62) (by decide +kernel) (by decide) (by decide) (by decide +kernel) (by decide) ?_
    refine ex_iload_n (pc := 62) (k := 1) (by decide +kernel) rfl ?_
    refine ex_iconst (pc := 63) (k := 2) (v := nI 2) (by decide +kernel) (by decide) ?_
    refine ex_idiv (pc := 64) (by decide +kernel) (by decide) ?_
    exact ex_ireturn (pc := 65) (by decide +kernel) rfl rfl h
  replace h := h.2
  have n1 := hc
  by_cases hc : (mi M l0 0) = nI 3
  · replace h := h.1 hc
    rw [hc]
    refine ex_tableIn (pc := 4) (dflt := 66) (l9 := 1) (h9 := 5) (offs := #[36, 58, 62, 62, 46]) (len := 36) (off := 62) (tgt := 66) (by decide +kernel) (by decide) (by decide) (by decide +kernel) (by decide) ?_
    refine ex_iload_n (pc := 66) (k := 1) (by decide +kernel) rfl ?_
    refine ex_iconst (pc := 67) (k := 2) (v := nI 2) (by decide +kernel) (by decide) ?_
    refine ex_isub (pc := 68) (by decide +kernel) ?_
    exact ex_ireturn (pc := 69) (by decide +kernel) rfl rfl h
  replace h := h.2
  have n2 := hc
  by_cases hc : (mi M l0 0) = nI 4
  · replace h := h.1 hc
    rw [hc]
    refine ex_tableIn (pc := 4) (dflt := 66) (l9 := 1) (h9 := 5) (offs := #[36, 58, 62, 62, 46]) (len := 36) (off := 62) (tgt := 66) (by decide +kernel) (by decide) (by decide) (by decide +kernel) (by decide) ?_
    refine ex_iload_n (pc := 66) (k := 1) (by decide +kernel) rfl ?_
    refine ex_iconst (pc := 67) (k := 2) (v := nI 2) (by decide +kernel) (by decide) ?_
    refine ex_isub (pc := 68) (by decide +kernel) ?_
    exact ex_ireturn (pc := 69) (by decide +kernel) rfl rfl h
  replace h := h.2
  have n3 := hc
  by_cases hc : (mi M l0 0) = nI 5
  · replace h := h.1 hc
    rw [hc]
    refine ex_tableIn (pc := 4) (dflt := 66) (l9 := 1) (h9 := 5) (offs := #[36, 58, 62, 62, 46]) (len := 36) (off := 46) (tgt := 50) (by decide +kernel) (by decide) (by decide) (by decide +kernel) (by decide) ?_
    refine ex_iload_n (pc := 50) (k := 2) (by decide +kernel) rfl ?_
    refine ex_if_eq (pc := 51) (off := 9) (tgt := 60) (by decide +kernel) (by decide) (fun hc => ?_) (fun hc => ?_)
    · replace h := h.1 hc
      refine ex_iconst (pc := 60) (k := 0) (v := nI 0) (by decide +kernel) (by decide) ?_
      exact ex_ireturn (pc := 61) (by decide +kernel) rfl rfl h
    · replace h := h.2 hc
      refine ex_iload_n (pc := 54) (k := 1) (by decide +kernel) rfl ?_
      refine ex_iconst (pc := 55) (k := 1) (v := nI 1) (by decide +kernel) (by decide) ?_
      refine ex_iadd (pc := 56) (by decide +kernel) ?_
      refine ex_goto (pc := 57) (off := 4) (tgt := 61) (by decide +kernel) (by decide) ?_
      exact ex_ireturn (pc := 61) (by decide +kernel) rfl rfl h
  replace h := h.2
  have n4 := hc
  refine ex_tableOut (pc := 4) (dflt := 66) (l9 := 1) (h9 := 5) (offs := #[36, 58, 62, 62, 46]) (len := 36) (tgt := 70) (by decide +kernel) (tab_out (fun q hq1 hq2 => ?_)) (by decide) ?_
  · rcases (show q = (1 : Int) ∨ q = (2 : Int) ∨ q = (3 : Int) ∨ q = (4 : Int) ∨ q = (5 : Int) by omega) with rfl | rfl | rfl | rfl | rfl
    · rw [show Int32.ofInt (1) = nI 1 by decide]; exact n0
    · rw [show Int32.ofInt (2) = nI 2 by decide]; exact n1
    · rw [show Int32.ofInt (3) = nI 3 by decide]; exact n2
    · rw [show Int32.ofInt (4) = nI 4 by decide]; exact n3
    · rw [show Int32.ofInt (5) = nI 5 by decide]; exact n4
  · replace h := h n0 n1 n2 n3 n4
    refine ex_iload_n (pc := 70) (k := 1) (by decide +kernel) rfl ?_
    exact ex_ireturn (pc := 71) (by decide +kernel) rfl rfl h
theorem k_Rule_run_0 {d bc bs : Nat} {l0 : Nat} {M : Mem} {Φ : Option Value → Mem → Prop} (hF : Fx M) (h : Ex (d + 1) m_Rule_run bc bs 5 [some (.ref l0), some (.ref 48), some (.ref 49), some (.int (nI 0)), some (.int (nI 0)), none, none] [] M Φ) : Ex (d + 1) m_Rule_run bc bs 0 [some (.ref l0), some (.ref 48), some (.ref 49), none, none, none, none] [] M Φ := by
  refine ex_iconst (pc := 0) (k := 0) (v := nI 0) (by decide +kernel) (by decide) ?_
  refine ex_istore_n (pc := 1) (k := 3) (lo2 := [some (.ref l0), some (.ref 48), some (.ref 49), some (.int (nI 0)), none, none, none]) (by decide +kernel) (by decide) rfl ?_
  refine ex_iconst (pc := 2) (k := 0) (v := nI 0) (by decide +kernel) (by decide) ?_
  refine ex_istore (pc := 3) (k := 4) (lo2 := [some (.ref l0), some (.ref 48), some (.ref 49), some (.int (nI 0)), some (.int (nI 0)), none, none]) (by decide +kernel) (by decide) rfl ?_
  exact h
theorem k_Rule_run_5 {d bc bs : Nat} {l0 : Nat} {l3 : Int32} {l4 : Int32} {M : Mem} {Φ : Option Value → Mem → Prop} (hF : Fx M) (h : ∃ N1 : Nat, (sh M)[l0]? = some (100, N1) ∧ ((nI N1) ≤ l4 → (l3 ≤ 0 → Φ (some (.int (nI 0))) M) ∧ (¬ l3 ≤ 0 → Φ (some (.int (mi M 49 0))) M)) ∧ (¬ (nI N1) ≤ l4 → ∃ N2 : Nat, (sh M)[l0]? = some (100, N2) ∧ vp_in l4 N2 ∧ ((mi M l0 l4.toNatClampNeg) < (-6) → ((-14) < (mi M l0 l4.toNatClampNeg) → (l3 < (nI 2) → Ex (d + 1) m_Rule_run bc bs 5 [some (.ref l0), some (.ref 48), some (.ref 49), some (.int l3), some (.int (l4 + nI 1)), none, none] [] M Φ) ∧ (¬ l3 < (nI 2) → vp_in ((l3 + (-1)) - (nI 1)) 40 ∧ vp_in (l3 + (-1)) 40 ∧ Con d m_Rule_join 0 0 [.int (mi M l0 l4.toNatClampNeg), .int (mi M 49 (((l3 + (-1)) - (nI 1)).toNatClampNeg)), .int (mi M 49 ((l3 + (-1)).toNatClampNeg))] M (PI fun r3 M1 => Fx M1 ∧ vp_in ((l3 + (-1)) - (nI 1)) 40 ∧ Ex (d + 1) m_Rule_run bc bs 5 [some (.ref l0), some (.ref 48), some (.ref 49), some (.int (l3 + (-1))), some (.int (l4 + nI 1)), none, none] [] (wi M1 49 (((l3 + (-1)) - (nI 1)).toNatClampNeg) r3) Φ))) ∧ (¬ (-14) < (mi M l0 l4.toNatClampNeg) → (l3 < (nI 1) → Ex (d + 1) m_Rule_run bc bs 5 [some (.ref l0), some (.ref 48), some (.ref 49), some (.int l3), some (.int (l4 + nI 1)), none, none] [] M Φ) ∧ (¬ l3 < (nI 1) → vp_in (l3 - (nI 1)) 40 ∧ (¬ (mi M l0 l4.toNatClampNeg) = (-15) → (¬ (mi M 49 ((l3 - (nI 1)).toNatClampNeg)) = 0 → vp_in (l3 - (nI 1)) 40 ∧ Ex (d + 1) m_Rule_run bc bs 5 [some (.ref l0), some (.ref 48), some (.ref 49), some (.int l3), some (.int (l4 + nI 1)), none, none] [] (wi M 49 ((l3 - (nI 1)).toNatClampNeg) (nI 0)) Φ) ∧ ((mi M 49 ((l3 - (nI 1)).toNatClampNeg)) = 0 → vp_in (l3 - (nI 1)) 40 ∧ Ex (d + 1) m_Rule_run bc bs 5 [some (.ref l0), some (.ref 48), some (.ref 49), some (.int l3), some (.int (l4 + nI 1)), none, none] [] (wi M 49 ((l3 - (nI 1)).toNatClampNeg) (nI 1)) Φ)) ∧ ((mi M l0 l4.toNatClampNeg) = (-15) → vp_in (l3 - (nI 1)) 40 ∧ Ex (d + 1) m_Rule_run bc bs 5 [some (.ref l0), some (.ref 48), some (.ref 49), some (.int l3), some (.int (l4 + nI 1)), none, none] [] (wi M 49 ((l3 - (nI 1)).toNatClampNeg) (-(mi M 49 ((l3 - (nI 1)).toNatClampNeg)))) Φ)))) ∧ (¬ (mi M l0 l4.toNatClampNeg) < (-6) → ((nI 40) ≤ l3 → Ex (d + 1) m_Rule_run bc bs 5 [some (.ref l0), some (.ref 48), some (.ref 49), some (.int l3), some (.int (l4 + nI 1)), none, none] [] M Φ) ∧ (¬ (nI 40) ≤ l3 → ((mi M l0 l4.toNatClampNeg) < 0 → vp_in ((-1) - (mi M l0 l4.toNatClampNeg)) 6 ∧ vp_in l3 40 ∧ Ex (d + 1) m_Rule_run bc bs 5 [some (.ref l0), some (.ref 48), some (.ref 49), some (.int (l3 + nI 1)), some (.int (l4 + nI 1)), none, none] [] (wi M 49 l3.toNatClampNeg (mi M 48 (((-1) - (mi M l0 l4.toNatClampNeg)).toNatClampNeg))) Φ) ∧ (¬ (mi M l0 l4.toNatClampNeg) < 0 → vp_in l3 40 ∧ Ex (d + 1) m_Rule_run bc bs 5 [some (.ref l0), some (.ref 48), some (.ref 49), some (.int (l3 + nI 1)), some (.int (l4 + nI 1)), none, none] [] (wi M 49 l3.toNatClampNeg (mi M l0 l4.toNatClampNeg)) Φ))))) : Ex (d + 1) m_Rule_run bc bs 5 [some (.ref l0), some (.ref 48), some (.ref 49), some (.int l3), some (.int l4), none, none] [] M Φ := by
  refine ex_iload (pc := 5) (k := 4) (by decide +kernel) rfl ?_
  refine ex_aload_n (pc := 7) (k := 0) (by decide +kernel) rfl ?_
  obtain ⟨N1, g1, h⟩ := h
  refine ex_alen (pc := 8) (by decide +kernel) g1 (by decide) ?_
  refine ex_icmp_ge (pc := 9) (off := 129) (tgt := 138) (by decide +kernel) (by decide) (fun hc => ?_) (fun hc => ?_)
  · replace h := h.1 hc
    refine ex_iload_n (pc := 138) (k := 3) (by decide +kernel) rfl ?_
    refine ex_if_le (pc := 139) (off := 9) (tgt := 148) (by decide +kernel) (by decide) (fun hc => ?_) (fun hc => ?_)
    · replace h := h.1 hc
      refine ex_iconst (pc := 148) (k := 0) (v := nI 0) (by decide +kernel) (by decide) ?_
      exact ex_ireturn (pc := 149) (by decide +kernel) rfl rfl h
    · replace h := h.2 hc
      refine ex_aload_n (pc := 142) (k := 2) (by decide +kernel) rfl ?_
      refine ex_iconst (pc := 143) (k := 0) (v := nI 0) (by decide +kernel) (by decide) ?_
      refine ey_iald (pc := 144) (v := mi M 49 0) (by decide +kernel) (hF.s (j := 49) rfl) (vp_in_nI (by decide) (by decide)) (nI_clamp (by decide)) rfl ?_
      refine ex_goto (pc := 145) (off := 4) (tgt := 149) (by decide +kernel) (by decide) ?_
      exact ex_ireturn (pc := 149) (by decide +kernel) rfl rfl h
  · replace h := h.2 hc
    refine ex_aload_n (pc := 12) (k := 0) (by decide +kernel) rfl ?_
    refine ex_iload (pc := 13) (k := 4) (by decide +kernel) rfl ?_
    obtain ⟨N2, g2, h⟩ := h
    obtain ⟨g3, h⟩ := h
    refine ey_iald (pc := 15) (v := mi M l0 l4.toNatClampNeg) (by decide +kernel) g2 g3 rfl rfl ?_
    refine ex_istore (pc := 16) (k := 5) (lo2 := [some (.ref l0), some (.ref 48), some (.ref 49), some (.int l3), some (.int l4), some (.int (mi M l0 l4.toNatClampNeg)), none]) (by decide +kernel) (by decide) rfl ?_
    refine ex_iload (pc := 18) (k := 5) (by decide +kernel) rfl ?_
    refine ex_bipush (pc := 20) (k := -6) (v := -6) (by decide +kernel) (by decide) ?_
    refine ex_icmp_lt (pc := 22) (off := 34) (tgt := 56) (by decide +kernel) (by decide) (fun hc => ?_) (fun hc => ?_)
    · replace h := h.1 hc
      refine ex_iload (pc := 56) (k := 5) (by decide +kernel) rfl ?_
      refine ex_bipush (pc := 58) (k := -14) (v := -14) (by decide +kernel) (by decide) ?_
      refine ex_icmp_gt (pc := 60) (off := 46) (tgt := 106) (by decide +kernel) (by decide) (fun hc => ?_) (fun hc => ?_)
      · replace h := h.1 hc
        refine ex_iload_n (pc := 106) (k := 3) (by decide +kernel) rfl ?_
        refine ex_iconst (pc := 107) (k := 2) (v := nI 2) (by decide +kernel) (by decide) ?_
        refine ex_icmp_lt (pc := 108) (off := 24) (tgt := 132) (by decide +kernel) (by decide) (fun hc => ?_) (fun hc => ?_)
        · replace h := h.1 hc
          refine ex_iinc (pc := 132) (i := 4) (k := 1) (v := l4 + nI 1) (lo2 := [some (.ref l0), some (.ref 48), some (.ref 49), some (.int l3), some (.int (l4 + nI 1)), some (.int (mi M l0 l4.toNatClampNeg)), none]) (by decide +kernel) (by decide) rfl rfl rfl ?_
          refine ex_goto (pc := 135) (off := -130) (tgt := 5) (by decide +kernel) (by decide) ?_
          exact Ex.msk [true, true, true, true, true, false, true] h
        · replace h := h.2 hc
          refine ex_iinc (pc := 111) (i := 3) (k := -1) (v := l3 + (-1)) (lo2 := [some (.ref l0), some (.ref 48), some (.ref 49), some (.int (l3 + (-1))), some (.int l4), some (.int (mi M l0 l4.toNatClampNeg)), none]) (by decide +kernel) (by decide) rfl rfl rfl ?_
          refine ex_aload_n (pc := 114) (k := 2) (by decide +kernel) rfl ?_
          refine ex_iload_n (pc := 115) (k := 3) (by decide +kernel) rfl ?_
          refine ex_iconst (pc := 116) (k := 1) (v := nI 1) (by decide +kernel) (by decide) ?_
          refine ex_isub (pc := 117) (by decide +kernel) ?_
          refine ex_iload (pc := 118) (k := 5) (by decide +kernel) rfl ?_
          refine ex_aload_n (pc := 120) (k := 2) (by decide +kernel) rfl ?_
          refine ex_iload_n (pc := 121) (k := 3) (by decide +kernel) rfl ?_
          refine ex_iconst (pc := 122) (k := 1) (v := nI 1) (by decide +kernel) (by decide) ?_
          refine ex_isub (pc := 123) (by decide +kernel) ?_
          obtain ⟨g4, h⟩ := h
          refine ey_iald (pc := 124) (v := mi M 49 (((l3 + (-1)) - (nI 1)).toNatClampNeg)) (by decide +kernel) (hF.s (j := 49) rfl) g4 rfl rfl ?_
          refine ex_aload_n (pc := 125) (k := 2) (by decide +kernel) rfl ?_
          refine ex_iload_n (pc := 126) (k := 3) (by decide +kernel) rfl ?_
          obtain ⟨g5, h⟩ := h
          refine ey_iald (pc := 127) (v := mi M 49 ((l3 + (-1)).toNatClampNeg)) (by decide +kernel) (hF.s (j := 49) rfl) g5 rfl rfl ?_
          refine ex_callS (pc := 128) (as := [.int (mi M l0 l4.toNatClampNeg), .int (mi M 49 (((l3 + (-1)) - (nI 1)).toNatClampNeg)), .int (mi M 49 ((l3 + (-1)).toNatClampNeg))]) (by decide +kernel) F_Rule_join (in_t3 (i := 123) rfl rfl) rfl rfl (Nat.le_of_ble_eq_true rfl) (Nat.lt_succ_self _) ⟨Nat.zero_le _, Nat.zero_le _⟩ (KC_I (Con.mono h ?_))
          intro o M1 ⟨r3, e9, hF1, h⟩
          refine ⟨r3, e9, ?_⟩
          obtain ⟨g6, h⟩ := h
          refine ey_iast (pc := 131) (by decide +kernel) (hF1.s (j := 49) rfl) g6 rfl ?_
          refine ex_iinc (pc := 132) (i := 4) (k := 1) (v := l4 + nI 1) (lo2 := [some (.ref l0), some (.ref 48), some (.ref 49), some (.int (l3 + (-1))), some (.int (l4 + nI 1)), some (.int (mi M l0 l4.toNatClampNeg)), none]) (by decide +kernel) (by decide) rfl rfl rfl ?_
          refine ex_goto (pc := 135) (off := -130) (tgt := 5) (by decide +kernel) (by decide) ?_
          exact Ex.msk [true, true, true, true, true, false, true] h
      · replace h := h.2 hc
        refine ex_iload_n (pc := 63) (k := 3) (by decide +kernel) rfl ?_
        refine ex_iconst (pc := 64) (k := 1) (v := nI 1) (by decide +kernel) (by decide) ?_
        refine ex_icmp_lt (pc := 65) (off := 67) (tgt := 132) (by decide +kernel) (by decide) (fun hc => ?_) (fun hc => ?_)
        · replace h := h.1 hc
          refine ex_iinc (pc := 132) (i := 4) (k := 1) (v := l4 + nI 1) (lo2 := [some (.ref l0), some (.ref 48), some (.ref 49), some (.int l3), some (.int (l4 + nI 1)), some (.int (mi M l0 l4.toNatClampNeg)), none]) (by decide +kernel) (by decide) rfl rfl rfl ?_
          refine ex_goto (pc := 135) (off := -130) (tgt := 5) (by decide +kernel) (by decide) ?_
          exact Ex.msk [true, true, true, true, true, false, true] h
        · replace h := h.2 hc
          refine ex_aload_n (pc := 68) (k := 2) (by decide +kernel) rfl ?_
          refine ex_iload_n (pc := 69) (k := 3) (by decide +kernel) rfl ?_
          refine ex_iconst (pc := 70) (k := 1) (v := nI 1) (by decide +kernel) (by decide) ?_
          refine ex_isub (pc := 71) (by decide +kernel) ?_
          obtain ⟨g7, h⟩ := h
          refine ey_iald (pc := 72) (v := mi M 49 ((l3 - (nI 1)).toNatClampNeg)) (by decide +kernel) (hF.s (j := 49) rfl) g7 rfl rfl ?_
          refine ex_istore (pc := 73) (k := 6) (lo2 := [some (.ref l0), some (.ref 48), some (.ref 49), some (.int l3), some (.int l4), some (.int (mi M l0 l4.toNatClampNeg)), some (.int (mi M 49 ((l3 - (nI 1)).toNatClampNeg)))]) (by decide +kernel) (by decide) rfl ?_
          refine ex_aload_n (pc := 75) (k := 2) (by decide +kernel) rfl ?_
          refine ex_iload_n (pc := 76) (k := 3) (by decide +kernel) rfl ?_
          refine ex_iconst (pc := 77) (k := 1) (v := nI 1) (by decide +kernel) (by decide) ?_
          refine ex_isub (pc := 78) (by decide +kernel) ?_
          refine ex_iload (pc := 79) (k := 5) (by decide +kernel) rfl ?_
          refine ex_bipush (pc := 81) (k := -15) (v := -15) (by decide +kernel) (by decide) ?_
          refine ex_icmp_ne (pc := 83) (off := 9) (tgt := 92) (by decide +kernel) (by decide) (fun hc => ?_) (fun hc => ?_)
          · replace h := h.1 hc
            refine ex_iload (pc := 92) (k := 6) (by decide +kernel) rfl ?_
            refine ex_if_ne (pc := 94) (off := 7) (tgt := 101) (by decide +kernel) (by decide) (fun hc => ?_) (fun hc => ?_)
            · replace h := h.1 hc
              refine ex_iconst (pc := 101) (k := 0) (v := nI 0) (by decide +kernel) (by decide) ?_
              obtain ⟨g8, h⟩ := h
              refine ey_iast (pc := 102) (by decide +kernel) (hF.s (j := 49) rfl) g8 rfl ?_
              refine ex_goto (pc := 103) (off := 29) (tgt := 132) (by decide +kernel) (by decide) ?_
              refine ex_iinc (pc := 132) (i := 4) (k := 1) (v := l4 + nI 1) (lo2 := [some (.ref l0), some (.ref 48), some (.ref 49), some (.int l3), some (.int (l4 + nI 1)), some (.int (mi M l0 l4.toNatClampNeg)), some (.int (mi M 49 ((l3 - (nI 1)).toNatClampNeg)))]) (by decide +kernel) (by decide) rfl rfl rfl ?_
              refine ex_goto (pc := 135) (off := -130) (tgt := 5) (by decide +kernel) (by decide) ?_
              exact Ex.msk [true, true, true, true, true, false, false] h
            · replace h := h.2 hc
              refine ex_iconst (pc := 97) (k := 1) (v := nI 1) (by decide +kernel) (by decide) ?_
              refine ex_goto (pc := 98) (off := 4) (tgt := 102) (by decide +kernel) (by decide) ?_
              obtain ⟨g9, h⟩ := h
              refine ey_iast (pc := 102) (by decide +kernel) (hF.s (j := 49) rfl) g9 rfl ?_
              refine ex_goto (pc := 103) (off := 29) (tgt := 132) (by decide +kernel) (by decide) ?_
              refine ex_iinc (pc := 132) (i := 4) (k := 1) (v := l4 + nI 1) (lo2 := [some (.ref l0), some (.ref 48), some (.ref 49), some (.int l3), some (.int (l4 + nI 1)), some (.int (mi M l0 l4.toNatClampNeg)), some (.int (mi M 49 ((l3 - (nI 1)).toNatClampNeg)))]) (by decide +kernel) (by decide) rfl rfl rfl ?_
              refine ex_goto (pc := 135) (off := -130) (tgt := 5) (by decide +kernel) (by decide) ?_
              exact Ex.msk [true, true, true, true, true, false, false] h
          · replace h := h.2 hc
            refine ex_iload (pc := 86) (k := 6) (by decide +kernel) rfl ?_
            refine ex_ineg (pc := 88) (by decide +kernel) ?_
            refine ex_goto (pc := 89) (off := 13) (tgt := 102) (by decide +kernel) (by decide) ?_
            obtain ⟨g10, h⟩ := h
            refine ey_iast (pc := 102) (by decide +kernel) (hF.s (j := 49) rfl) g10 rfl ?_
            refine ex_goto (pc := 103) (off := 29) (tgt := 132) (by decide +kernel) (by decide) ?_
            refine ex_iinc (pc := 132) (i := 4) (k := 1) (v := l4 + nI 1) (lo2 := [some (.ref l0), some (.ref 48), some (.ref 49), some (.int l3), some (.int (l4 + nI 1)), some (.int (mi M l0 l4.toNatClampNeg)), some (.int (mi M 49 ((l3 - (nI 1)).toNatClampNeg)))]) (by decide +kernel) (by decide) rfl rfl rfl ?_
            refine ex_goto (pc := 135) (off := -130) (tgt := 5) (by decide +kernel) (by decide) ?_
            exact Ex.msk [true, true, true, true, true, false, false] h
    · replace h := h.2 hc
      refine ex_iload_n (pc := 25) (k := 3) (by decide +kernel) rfl ?_
      refine ex_bipush (pc := 26) (k := 40) (v := nI 40) (by decide +kernel) (by decide) ?_
      refine ex_icmp_ge (pc := 28) (off := 104) (tgt := 132) (by decide +kernel) (by decide) (fun hc => ?_) (fun hc => ?_)
      · replace h := h.1 hc
        refine ex_iinc (pc := 132) (i := 4) (k := 1) (v := l4 + nI 1) (lo2 := [some (.ref l0), some (.ref 48), some (.ref 49), some (.int l3), some (.int (l4 + nI 1)), some (.int (mi M l0 l4.toNatClampNeg)), none]) (by decide +kernel) (by decide) rfl rfl rfl ?_
        refine ex_goto (pc := 135) (off := -130) (tgt := 5) (by decide +kernel) (by decide) ?_
        exact Ex.msk [true, true, true, true, true, false, true] h
      · replace h := h.2 hc
        refine ex_aload_n (pc := 31) (k := 2) (by decide +kernel) rfl ?_
        refine ex_iload_n (pc := 32) (k := 3) (by decide +kernel) rfl ?_
        refine ex_iload (pc := 33) (k := 5) (by decide +kernel) rfl ?_
        refine ex_if_lt (pc := 35) (off := 8) (tgt := 43) (by decide +kernel) (by decide) (fun hc => ?_) (fun hc => ?_)
        · replace h := h.1 hc
          refine ex_aload_n (pc := 43) (k := 1) (by decide +kernel) rfl ?_
          refine ex_iconst (pc := 44) (k := -1) (v := -1) (by decide +kernel) (by decide) ?_
          refine ex_iload (pc := 45) (k := 5) (by decide +kernel) rfl ?_
          refine ex_isub (pc := 47) (by decide +kernel) ?_
          obtain ⟨g11, h⟩ := h
          refine ey_iald (pc := 48) (v := mi M 48 (((-1) - (mi M l0 l4.toNatClampNeg)).toNatClampNeg)) (by decide +kernel) (hF.s (j := 48) rfl) g11 rfl rfl ?_
          obtain ⟨g12, h⟩ := h
          refine ey_iast (pc := 49) (by decide +kernel) (hF.s (j := 49) rfl) g12 rfl ?_
          refine ex_iinc (pc := 50) (i := 3) (k := 1) (v := l3 + nI 1) (lo2 := [some (.ref l0), some (.ref 48), some (.ref 49), some (.int (l3 + nI 1)), some (.int l4), some (.int (mi M l0 l4.toNatClampNeg)), none]) (by decide +kernel) (by decide) rfl rfl rfl ?_
          refine ex_goto (pc := 53) (off := 79) (tgt := 132) (by decide +kernel) (by decide) ?_
          refine ex_iinc (pc := 132) (i := 4) (k := 1) (v := l4 + nI 1) (lo2 := [some (.ref l0), some (.ref 48), some (.ref 49), some (.int (l3 + nI 1)), some (.int (l4 + nI 1)), some (.int (mi M l0 l4.toNatClampNeg)), none]) (by decide +kernel) (by decide) rfl rfl rfl ?_
          refine ex_goto (pc := 135) (off := -130) (tgt := 5) (by decide +kernel) (by decide) ?_
          exact Ex.msk [true, true, true, true, true, false, true] h
        · replace h := h.2 hc
          refine ex_iload (pc := 38) (k := 5) (by decide +kernel) rfl ?_
          refine ex_goto (pc := 40) (off := 9) (tgt := 49) (by decide +kernel) (by decide) ?_
          obtain ⟨g13, h⟩ := h
          refine ey_iast (pc := 49) (by decide +kernel) (hF.s (j := 49) rfl) g13 rfl ?_
          refine ex_iinc (pc := 50) (i := 3) (k := 1) (v := l3 + nI 1) (lo2 := [some (.ref l0), some (.ref 48), some (.ref 49), some (.int (l3 + nI 1)), some (.int l4), some (.int (mi M l0 l4.toNatClampNeg)), none]) (by decide +kernel) (by decide) rfl rfl rfl ?_
          refine ex_goto (pc := 53) (off := 79) (tgt := 132) (by decide +kernel) (by decide) ?_
          refine ex_iinc (pc := 132) (i := 4) (k := 1) (v := l4 + nI 1) (lo2 := [some (.ref l0), some (.ref 48), some (.ref 49), some (.int (l3 + nI 1)), some (.int (l4 + nI 1)), some (.int (mi M l0 l4.toNatClampNeg)), none]) (by decide +kernel) (by decide) rfl rfl rfl ?_
          refine ex_goto (pc := 135) (off := -130) (tgt := 5) (by decide +kernel) (by decide) ?_
          exact Ex.msk [true, true, true, true, true, false, true] h
theorem k_Rule_join_0 {d bc bs : Nat} {l0 : Int32} {l1 : Int32} {l2 : Int32} {M : Mem} {Φ : Option Value → Mem → Prop} (hF : Fx M) (h : (l0 = -12 → Φ (some (.int (l1 - l2))) M) ∧ (l0 = -11 → Φ (some (.int (l1 + l2))) M) ∧ (l0 = -10 → (¬ l1 = l2 → Φ (some (.int (nI 0))) M) ∧ (l1 = l2 → Φ (some (.int (nI 1))) M)) ∧ (l0 = -9 → (l2 ≤ l1 → Φ (some (.int (nI 0))) M) ∧ (¬ l2 ≤ l1 → Φ (some (.int (nI 1))) M)) ∧ (l0 = -8 → (l1 = 0 → Φ (some (.int (nI 0))) M) ∧ (¬ l1 = 0 → (l2 = 0 → Φ (some (.int (nI 0))) M) ∧ (¬ l2 = 0 → Φ (some (.int (nI 1))) M))) ∧ (l0 = -7 → (¬ l1 = 0 → Φ (some (.int (nI 1))) M) ∧ (l1 = 0 → (l2 = 0 → Φ (some (.int (nI 0))) M) ∧ (¬ l2 = 0 → Φ (some (.int (nI 1))) M))) ∧ (¬ l0 = -12 → ¬ l0 = -11 → ¬ l0 = -10 → ¬ l0 = -9 → ¬ l0 = -8 → ¬ l0 = -7 → Φ (some (.int (l1 * l2))) M)) : Ex (d + 1) m_Rule_join bc bs 0 [some (.int l0), some (.int l1), some (.int l2)] [] M Φ := by
  refine ex_iload_n (pc := 0) (k := 0) (by decide +kernel) rfl ?_
  by_cases hc : l0 = -12
  · replace h := h.1 hc
    rw [hc]
    refine ex_tableIn (pc := 1) (dflt := 97) (l9 := -12) (h9 := -7) (offs := #[93, 89, 78, 67, 53, 39]) (len := 39) (off := 93) (tgt := 94) (by decide +kernel) (by decide) (by decide) (by decide +kernel) (by decide) ?_
    refine ex_iload_n (pc := 94) (k := 1) (by decide +kernel) rfl ?_
    refine ex_iload_n (pc := 95) (k := 2) (by decide +kernel) rfl ?_
    refine ex_isub (pc := 96) (by decide +kernel) ?_
    exact ex_ireturn (pc := 97) (by decide +kernel) rfl rfl h
  replace h := h.2
  have n0 := hc
  by_cases hc : l0 = -11
  · replace h := h.1 hc
    rw [hc]
    refine ex_tableIn (pc := 1) (dflt := 97) (l9 := -12) (h9 := -7) (offs := #[93, 89, 78, 67, 53, 39]) (len := 39) (off := 89) (tgt := 90) (by decide +kernel) (by decide) (by decide) (by decide +kernel) (by decide) ?_
    refine ex_iload_n (pc := 90) (k := 1) (by decide +kernel) rfl ?_
    refine ex_iload_n (pc := 91) (k := 2) (by decide +kernel) rfl ?_
    refine ex_iadd (pc := 92) (by decide +kernel) ?_
    exact ex_ireturn (pc := 93) (by decide +kernel) rfl rfl h
  replace h := h.2
  have n1 := hc
  by_cases hc : l0 = -10
  · replace h := h.1 hc
    rw [hc]
    refine ex_tableIn (pc := 1) (dflt := 97) (l9 := -12) (h9 := -7) (offs := #[93, 89, 78, 67, 53, 39]) (len := 39) (off := 78) (tgt := 79) (by decide +kernel) (by decide) (by decide) (by decide +kernel) (by decide) ?_
    refine ex_iload_n (pc := 79) (k := 1) (by decide +kernel) rfl ?_
    refine ex_iload_n (pc := 80) (k := 2) (by decide +kernel) rfl ?_
    refine ex_icmp_ne (pc := 81) (off := 7) (tgt := 88) (by decide +kernel) (by decide) (fun hc => ?_) (fun hc => ?_)
    · replace h := h.1 hc
      refine ex_iconst (pc := 88) (k := 0) (v := nI 0) (by decide +kernel) (by decide) ?_
      exact ex_ireturn (pc := 89) (by decide +kernel) rfl rfl h
    · replace h := h.2 hc
      refine ex_iconst (pc := 84) (k := 1) (v := nI 1) (by decide +kernel) (by decide) ?_
      refine ex_goto (pc := 85) (off := 4) (tgt := 89) (by decide +kernel) (by decide) ?_
      exact ex_ireturn (pc := 89) (by decide +kernel) rfl rfl h
  replace h := h.2
  have n2 := hc
  by_cases hc : l0 = -9
  · replace h := h.1 hc
    rw [hc]
    refine ex_tableIn (pc := 1) (dflt := 97) (l9 := -12) (h9 := -7) (offs := #[93, 89, 78, 67, 53, 39]) (len := 39) (off := 67) (tgt := 68) (by decide +kernel) (by decide) (by decide) (by decide +kernel) (by decide) ?_
    refine ex_iload_n (pc := 68) (k := 1) (by decide +kernel) rfl ?_
    refine ex_iload_n (pc := 69) (k := 2) (by decide +kernel) rfl ?_
    refine ex_icmp_ge (pc := 70) (off := 7) (tgt := 77) (by decide +kernel) (by decide) (fun hc => ?_) (fun hc => ?_)
    · replace h := h.1 hc
      refine ex_iconst (pc := 77) (k := 0) (v := nI 0) (by decide +kernel) (by decide) ?_
      exact ex_ireturn (pc := 78) (by decide +kernel) rfl rfl h
    · replace h := h.2 hc
      refine ex_iconst (pc := 73) (k := 1) (v := nI 1) (by decide +kernel) (by decide) ?_
      refine ex_goto (pc := 74) (off := 4) (tgt := 78) (by decide +kernel) (by decide) ?_
      exact ex_ireturn (pc := 78) (by decide +kernel) rfl rfl h
  replace h := h.2
  have n3 := hc
  by_cases hc : l0 = -8
  · replace h := h.1 hc
    rw [hc]
    refine ex_tableIn (pc := 1) (dflt := 97) (l9 := -12) (h9 := -7) (offs := #[93, 89, 78, 67, 53, 39]) (len := 39) (off := 53) (tgt := 54) (by decide +kernel) (by decide) (by decide) (by decide +kernel) (by decide) ?_
    refine ex_iload_n (pc := 54) (k := 1) (by decide +kernel) rfl ?_
    refine ex_if_eq (pc := 55) (off := 11) (tgt := 66) (by decide +kernel) (by decide) (fun hc => ?_) (fun hc => ?_)
    · replace h := h.1 hc
      refine ex_iconst (pc := 66) (k := 0) (v := nI 0) (by decide +kernel) (by decide) ?_
      exact ex_ireturn (pc := 67) (by decide +kernel) rfl rfl h
    · replace h := h.2 hc
      refine ex_iload_n (pc := 58) (k := 2) (by decide +kernel) rfl ?_
      refine ex_if_eq (pc := 59) (off := 7) (tgt := 66) (by decide +kernel) (by decide) (fun hc => ?_) (fun hc => ?_)
      · replace h := h.1 hc
        refine ex_iconst (pc := 66) (k := 0) (v := nI 0) (by decide +kernel) (by decide) ?_
        exact ex_ireturn (pc := 67) (by decide +kernel) rfl rfl h
      · replace h := h.2 hc
        refine ex_iconst (pc := 62) (k := 1) (v := nI 1) (by decide +kernel) (by decide) ?_
        refine ex_goto (pc := 63) (off := 4) (tgt := 67) (by decide +kernel) (by decide) ?_
        exact ex_ireturn (pc := 67) (by decide +kernel) rfl rfl h
  replace h := h.2
  have n4 := hc
  by_cases hc : l0 = -7
  · replace h := h.1 hc
    rw [hc]
    refine ex_tableIn (pc := 1) (dflt := 97) (l9 := -12) (h9 := -7) (offs := #[93, 89, 78, 67, 53, 39]) (len := 39) (off := 39) (tgt := 40) (by decide +kernel) (by decide) (by decide) (by decide +kernel) (by decide) ?_
    refine ex_iload_n (pc := 40) (k := 1) (by decide +kernel) rfl ?_
    refine ex_if_ne (pc := 41) (off := 7) (tgt := 48) (by decide +kernel) (by decide) (fun hc => ?_) (fun hc => ?_)
    · replace h := h.1 hc
      refine ex_iconst (pc := 48) (k := 1) (v := nI 1) (by decide +kernel) (by decide) ?_
      refine ex_goto (pc := 49) (off := 4) (tgt := 53) (by decide +kernel) (by decide) ?_
      exact ex_ireturn (pc := 53) (by decide +kernel) rfl rfl h
    · replace h := h.2 hc
      refine ex_iload_n (pc := 44) (k := 2) (by decide +kernel) rfl ?_
      refine ex_if_eq (pc := 45) (off := 7) (tgt := 52) (by decide +kernel) (by decide) (fun hc => ?_) (fun hc => ?_)
      · replace h := h.1 hc
        refine ex_iconst (pc := 52) (k := 0) (v := nI 0) (by decide +kernel) (by decide) ?_
        exact ex_ireturn (pc := 53) (by decide +kernel) rfl rfl h
      · replace h := h.2 hc
        refine ex_iconst (pc := 48) (k := 1) (v := nI 1) (by decide +kernel) (by decide) ?_
        refine ex_goto (pc := 49) (off := 4) (tgt := 53) (by decide +kernel) (by decide) ?_
        exact ex_ireturn (pc := 53) (by decide +kernel) rfl rfl h
  replace h := h.2
  have n5 := hc
  refine ex_tableOut (pc := 1) (dflt := 97) (l9 := -12) (h9 := -7) (offs := #[93, 89, 78, 67, 53, 39]) (len := 39) (tgt := 98) (by decide +kernel) (tab_out (fun q hq1 hq2 => ?_)) (by decide) ?_
  · rcases (show q = (-12 : Int) ∨ q = (-11 : Int) ∨ q = (-10 : Int) ∨ q = (-9 : Int) ∨ q = (-8 : Int) ∨ q = (-7 : Int) by omega) with rfl | rfl | rfl | rfl | rfl | rfl
    · rw [show Int32.ofInt (-12) = -12 by decide]; exact n0
    · rw [show Int32.ofInt (-11) = -11 by decide]; exact n1
    · rw [show Int32.ofInt (-10) = -10 by decide]; exact n2
    · rw [show Int32.ofInt (-9) = -9 by decide]; exact n3
    · rw [show Int32.ofInt (-8) = -8 by decide]; exact n4
    · rw [show Int32.ofInt (-7) = -7 by decide]; exact n5
  · replace h := h n0 n1 n2 n3 n4 n5
    refine ex_iload_n (pc := 98) (k := 1) (by decide +kernel) rfl ?_
    refine ex_iload_n (pc := 99) (k := 2) (by decide +kernel) rfl ?_
    refine ex_imul (pc := 100) (by decide +kernel) ?_
    exact ex_ireturn (pc := 101) (by decide +kernel) rfl rfl h
theorem k_Sheet_isMissing_0 {d bc bs : Nat} {l0 : Nat} {M : Mem} {Φ : Option Value → Mem → Prop} (hF : Fx M) (h : (sh M)[l0]? = some (8, 3) ∧ (¬ (mi M l0 1) = (-1) → Φ (some (.int (b2i false))) M) ∧ ((mi M l0 1) = (-1) → Φ (some (.int (b2i true))) M)) : Ex (d + 1) m_Sheet_isMissing bc bs 0 [some (.ref l0)] [] M Φ := by
  refine ex_aload_n (pc := 0) (k := 0) (by decide +kernel) rfl ?_
  obtain ⟨g1, h⟩ := h
  refine ey_getI (pc := 1) (v := mi M l0 1) (by decide +kernel) lf_Sheet_15 g1 rfl ?_
  refine ex_iconst (pc := 4) (k := -1) (v := -1) (by decide +kernel) (by decide) ?_
  refine ex_icmp_ne (pc := 5) (off := 7) (tgt := 12) (by decide +kernel) (by decide) (fun hc => ?_) (fun hc => ?_)
  · replace h := h.1 hc
    refine ex_iconst (pc := 12) (k := 0) (v := nI 0) (by decide +kernel) (by decide) ?_
    exact ex_ireturn (pc := 13) (v := b2i false) (by decide +kernel) rfl (b2i_n _) h
  · replace h := h.2 hc
    refine ex_iconst (pc := 8) (k := 1) (v := nI 1) (by decide +kernel) (by decide) ?_
    refine ex_goto (pc := 9) (off := 4) (tgt := 13) (by decide +kernel) (by decide) ?_
    exact ex_ireturn (pc := 13) (v := b2i true) (by decide +kernel) rfl (b2i_n _) h
theorem k_Sheet_become_0 {d bc bs : Nat} {l0 : Nat} {l1 : Int32} {l2 : Int32} {M : Mem} {Φ : Option Value → Mem → Prop} (hF : Fx M) (h : (sh M)[l0]? = some (8, 3) ∧ (¬ l1 = (-1) → (sh (wi M l0 1 l1))[l0]? = some (8, 3) ∧ (sh (wi (wi M l0 1 l1) l0 2 l2))[l0]? = some (8, 3) ∧ ∃ a1 : Nat, mr M l0 0 = some a1 ∧ Con d m_Arrays_fill 0 0 [.ref a1, .int (nI 0)] (wi (wi M l0 1 l1) l0 2 l2) (PV fun M1 => Fx M1 ∧ Φ none M1)) ∧ (l1 = (-1) → (sh (wi M l0 1 l1))[l0]? = some (8, 3) ∧ (sh (wi (wi M l0 1 l1) l0 2 (nI 0)))[l0]? = some (8, 3) ∧ ∃ a2 : Nat, mr M l0 0 = some a2 ∧ Con d m_Arrays_fill 0 0 [.ref a2, .int (nI 0)] (wi (wi M l0 1 l1) l0 2 (nI 0)) (PV fun M2 => Fx M2 ∧ Φ none M2))) : Ex (d + 1) m_Sheet_become bc bs 0 [some (.ref l0), some (.int l1), some (.int l2)] [] M Φ := by
  refine ex_aload_n (pc := 0) (k := 0) (by decide +kernel) rfl ?_
  refine ex_iload_n (pc := 1) (k := 1) (by decide +kernel) rfl ?_
  obtain ⟨g1, h⟩ := h
  refine ex_putI (pc := 2) (index := 15) (ci := 8) (k := 1) (fin := false) (by decide +kernel) ⟨_, _, _, _, cf_Sheet, by decide, in_t2 (i := 47) rfl rfl, rfl, (fun h => by cases h), rfl, rfl⟩ rfl (fun h => by cases h) g1 ?_
  refine ex_aload_n (pc := 5) (k := 0) (by decide +kernel) rfl ?_
  refine ex_iload_n (pc := 6) (k := 1) (by decide +kernel) rfl ?_
  refine ex_iconst (pc := 7) (k := -1) (v := -1) (by decide +kernel) (by decide) ?_
  refine ex_icmp_ne (pc := 8) (off := 7) (tgt := 15) (by decide +kernel) (by decide) (fun hc => ?_) (fun hc => ?_)
  · replace h := h.1 hc
    refine ex_iload_n (pc := 15) (k := 2) (by decide +kernel) rfl ?_
    obtain ⟨g2, h⟩ := h
    refine ex_putI (pc := 16) (index := 19) (ci := 8) (k := 2) (fin := false) (by decide +kernel) ⟨_, _, _, _, cf_Sheet, by decide, in_t2 (i := 49) rfl rfl, rfl, (fun h => by cases h), rfl, rfl⟩ rfl (fun h => by cases h) g2 ?_
    refine ex_aload_n (pc := 19) (k := 0) (by decide +kernel) rfl ?_
    obtain ⟨g3, h⟩ := h
    obtain ⟨a1, g4, h⟩ := h
    refine ex_getR (pc := 20) (a := a1) (by decide +kernel) lf_Sheet_9 g3 g4 ?_
    refine ex_iconst (pc := 23) (k := 0) (v := nI 0) (by decide +kernel) (by decide) ?_
    refine ex_callS (pc := 24) (as := [.ref a1, .int (nI 0)]) (by decide +kernel) F_Arrays_fill (in_t5 (i := 13) rfl rfl) rfl rfl (Nat.le_of_ble_eq_true rfl) (Nat.lt_succ_self _) ⟨Nat.zero_le _, Nat.zero_le _⟩ (KC_V (Con.mono h ?_))
    intro o M1 ⟨e9, hF1, h⟩
    refine ⟨e9, ?_⟩
    exact ex_return (pc := 27) (by decide +kernel) rfl h
  · replace h := h.2 hc
    refine ex_iconst (pc := 11) (k := 0) (v := nI 0) (by decide +kernel) (by decide) ?_
    refine ex_goto (pc := 12) (off := 4) (tgt := 16) (by decide +kernel) (by decide) ?_
    obtain ⟨g5, h⟩ := h
    refine ex_putI (pc := 16) (index := 19) (ci := 8) (k := 2) (fin := false) (by decide +kernel) ⟨_, _, _, _, cf_Sheet, by decide, in_t2 (i := 49) rfl rfl, rfl, (fun h => by cases h), rfl, rfl⟩ rfl (fun h => by cases h) g5 ?_
    refine ex_aload_n (pc := 19) (k := 0) (by decide +kernel) rfl ?_
    obtain ⟨g6, h⟩ := h
    obtain ⟨a2, g7, h⟩ := h
    refine ex_getR (pc := 20) (a := a2) (by decide +kernel) lf_Sheet_9 g6 g7 ?_
    refine ex_iconst (pc := 23) (k := 0) (v := nI 0) (by decide +kernel) (by decide) ?_
    refine ex_callS (pc := 24) (as := [.ref a2, .int (nI 0)]) (by decide +kernel) F_Arrays_fill (in_t5 (i := 13) rfl rfl) rfl rfl (Nat.le_of_ble_eq_true rfl) (Nat.lt_succ_self _) ⟨Nat.zero_le _, Nat.zero_le _⟩ (KC_V (Con.mono h ?_))
    intro o M2 ⟨e9, hF2, h⟩
    refine ⟨e9, ?_⟩
    exact ex_return (pc := 27) (by decide +kernel) rfl h
theorem k_Sheet_spans_0 {d bc bs : Nat} {l0 : Nat} {l1 : Int64} {l3 : Int32} {M : Mem} {Φ : Option Value → Mem → Prop} (hF : Fx M) (h : ((lg_cmp l1 0) < 0 → Φ (some (.int (b2i false))) M) ∧ (¬ (lg_cmp l1 0) < 0 → (l3 < 0 → Φ (some (.int (b2i false))) M) ∧ (¬ l3 < 0 → (sh M)[l0]? = some (8, 3) ∧ (0 < (lg_cmp (l1 + (Int32.toInt64 l3)) (Int32.toInt64 (mi M l0 2))) → Φ (some (.int (b2i false))) M) ∧ (¬ 0 < (lg_cmp (l1 + (Int32.toInt64 l3)) (Int32.toInt64 (mi M l0 2))) → Φ (some (.int (b2i true))) M)))) : Ex (d + 1) m_Sheet_spans bc bs 0 [some (.ref l0), some (.long l1), none, some (.int l3)] [] M Φ := by
  refine ex_lload_n (pc := 0) (k := 1) (by decide +kernel) rfl ?_
  refine ex_lconst (pc := 1) (k := 0) (v := 0) (by decide +kernel) rfl ?_
  refine ex_lcmp (pc := 2) (by decide +kernel) ?_
  refine ex_if_lt (pc := 3) (off := 24) (tgt := 27) (by decide +kernel) (by decide) (fun hc => ?_) (fun hc => ?_)
  · replace h := h.1 hc
    refine ex_iconst (pc := 27) (k := 0) (v := nI 0) (by decide +kernel) (by decide) ?_
    exact ex_ireturn (pc := 28) (v := b2i false) (by decide +kernel) rfl (b2i_n _) h
  · replace h := h.2 hc
    refine ex_iload_n (pc := 6) (k := 3) (by decide +kernel) rfl ?_
    refine ex_if_lt (pc := 7) (off := 20) (tgt := 27) (by decide +kernel) (by decide) (fun hc => ?_) (fun hc => ?_)
    · replace h := h.1 hc
      refine ex_iconst (pc := 27) (k := 0) (v := nI 0) (by decide +kernel) (by decide) ?_
      exact ex_ireturn (pc := 28) (v := b2i false) (by decide +kernel) rfl (b2i_n _) h
    · replace h := h.2 hc
      refine ex_lload_n (pc := 10) (k := 1) (by decide +kernel) rfl ?_
      refine ex_iload_n (pc := 11) (k := 3) (by decide +kernel) rfl ?_
      refine ex_i2l (pc := 12) (by decide +kernel) ?_
      refine ex_ladd (pc := 13) (by decide +kernel) ?_
      refine ex_aload_n (pc := 14) (k := 0) (by decide +kernel) rfl ?_
      obtain ⟨g1, h⟩ := h
      refine ey_getI (pc := 15) (v := mi M l0 2) (by decide +kernel) lf_Sheet_19 g1 rfl ?_
      refine ex_i2l (pc := 18) (by decide +kernel) ?_
      refine ex_lcmp (pc := 19) (by decide +kernel) ?_
      refine ex_if_gt (pc := 20) (off := 7) (tgt := 27) (by decide +kernel) (by decide) (fun hc => ?_) (fun hc => ?_)
      · replace h := h.1 hc
        refine ex_iconst (pc := 27) (k := 0) (v := nI 0) (by decide +kernel) (by decide) ?_
        exact ex_ireturn (pc := 28) (v := b2i false) (by decide +kernel) rfl (b2i_n _) h
      · replace h := h.2 hc
        refine ex_iconst (pc := 23) (k := 1) (v := nI 1) (by decide +kernel) (by decide) ?_
        refine ex_goto (pc := 24) (off := 4) (tgt := 28) (by decide +kernel) (by decide) ?_
        exact ex_ireturn (pc := 28) (v := b2i true) (by decide +kernel) rfl (b2i_n _) h
theorem k_Sheet_write_0 {d bc bs : Nat} {l0 : Nat} {l1 : Int32} {l2 : Int32} {M : Mem} {Φ : Option Value → Mem → Prop} (hF : Fx M) (h : (sh M)[l0]? = some (8, 3) ∧ Con d m_Sheet_spans 0 0 [.ref l0, .long (Int32.toInt64 l1), .int (nI 1)] M (PB fun r1 M1 => Fx M1 ∧ (r1 = true → (sh M1)[l0]? = some (8, 3) ∧ ∃ a2 : Nat, mr M1 l0 0 = some a2 ∧ (sh M1)[l0]? = some (8, 3) ∧ (¬ (mi M1 l0 1) = 0 → (sh M1)[l0]? = some (8, 3) ∧ (¬ (mi M1 l0 1) = (nI 1) → ∃ N3 : Nat, (sh M1)[a2]? = some (100, N3) ∧ vp_in l1 N3 ∧ Φ (some (.int (b2i true))) (wi M1 a2 l1.toNatClampNeg l2)) ∧ ((mi M1 l0 1) = (nI 1) → ∃ N4 : Nat, (sh M1)[a2]? = some (100, N4) ∧ vp_in l1 N4 ∧ Φ (some (.int (b2i true))) (wi M1 a2 l1.toNatClampNeg ((Int32.toInt16 l2).toInt32)))) ∧ ((mi M1 l0 1) = 0 → ∃ N5 : Nat, (sh M1)[a2]? = some (100, N5) ∧ vp_in l1 N5 ∧ Φ (some (.int (b2i true))) (wi M1 a2 l1.toNatClampNeg ((Int32.toInt8 l2).toInt32)))) ∧ (r1 = false → Φ (some (.int (b2i false))) M1))) : Ex (d + 1) m_Sheet_write bc bs 0 [some (.ref l0), some (.int l1), some (.int l2)] [] M Φ := by
  refine ex_aload_n (pc := 0) (k := 0) (by decide +kernel) rfl ?_
  refine ex_iload_n (pc := 1) (k := 1) (by decide +kernel) rfl ?_
  refine ex_i2l (pc := 2) (by decide +kernel) ?_
  refine ex_iconst (pc := 3) (k := 1) (v := nI 1) (by decide +kernel) (by decide) ?_
  obtain ⟨g1, h⟩ := h
  refine ex_callV (pc := 4) (as := [.long (Int32.toInt64 l1), .int (nI 1)]) (by decide +kernel) F_Sheet_spans (in_t5 (i := 22) rfl rfl) g1 rfl (by decide) rfl rfl (Nat.le_of_ble_eq_true rfl) (Nat.lt_succ_self _) ⟨Nat.zero_le _, Nat.zero_le _⟩ (KC_B (Con.mono h ?_))
  intro o M1 ⟨r1, e9, hF1, h⟩
  refine ⟨r1, e9, ?_⟩
  refine ey_ifneB (pc := 7) (off := 5) (tgt := 12) (by decide +kernel) (by decide) (fun hc => ?_) (fun hc => ?_)
  · replace h := h.1 hc
    refine ex_aload_n (pc := 12) (k := 0) (by decide +kernel) rfl ?_
    obtain ⟨g2, h⟩ := h
    obtain ⟨a2, g3, h⟩ := h
    refine ex_getR (pc := 13) (a := a2) (by decide +kernel) lf_Sheet_9 g2 g3 ?_
    refine ex_iload_n (pc := 16) (k := 1) (by decide +kernel) rfl ?_
    refine ex_aload_n (pc := 17) (k := 0) (by decide +kernel) rfl ?_
    obtain ⟨g4, h⟩ := h
    refine ey_getI (pc := 18) (v := mi M1 l0 1) (by decide +kernel) lf_Sheet_15 g4 rfl ?_
    refine ex_if_ne (pc := 21) (off := 8) (tgt := 29) (by decide +kernel) (by decide) (fun hc => ?_) (fun hc => ?_)
    · replace h := h.1 hc
      refine ex_aload_n (pc := 29) (k := 0) (by decide +kernel) rfl ?_
      obtain ⟨g5, h⟩ := h
      refine ey_getI (pc := 30) (v := mi M1 l0 1) (by decide +kernel) lf_Sheet_15 g5 rfl ?_
      refine ex_iconst (pc := 33) (k := 1) (v := nI 1) (by decide +kernel) (by decide) ?_
      refine ex_icmp_ne (pc := 34) (off := 8) (tgt := 42) (by decide +kernel) (by decide) (fun hc => ?_) (fun hc => ?_)
      · replace h := h.1 hc
        refine ex_iload_n (pc := 42) (k := 2) (by decide +kernel) rfl ?_
        obtain ⟨N3, g6, h⟩ := h
        obtain ⟨g7, h⟩ := h
        refine ey_iast (pc := 43) (by decide +kernel) g6 g7 rfl ?_
        refine ex_iconst (pc := 44) (k := 1) (v := nI 1) (by decide +kernel) (by decide) ?_
        exact ex_ireturn (pc := 45) (v := b2i true) (by decide +kernel) rfl (b2i_n _) h
      · replace h := h.2 hc
        refine ex_iload_n (pc := 37) (k := 2) (by decide +kernel) rfl ?_
        refine ex_i2s (pc := 38) (by decide +kernel) ?_
        refine ex_goto (pc := 39) (off := 4) (tgt := 43) (by decide +kernel) (by decide) ?_
        obtain ⟨N4, g8, h⟩ := h
        obtain ⟨g9, h⟩ := h
        refine ey_iast (pc := 43) (by decide +kernel) g8 g9 rfl ?_
        refine ex_iconst (pc := 44) (k := 1) (v := nI 1) (by decide +kernel) (by decide) ?_
        exact ex_ireturn (pc := 45) (v := b2i true) (by decide +kernel) rfl (b2i_n _) h
    · replace h := h.2 hc
      refine ex_iload_n (pc := 24) (k := 2) (by decide +kernel) rfl ?_
      refine ex_i2b (pc := 25) (by decide +kernel) ?_
      refine ex_goto (pc := 26) (off := 17) (tgt := 43) (by decide +kernel) (by decide) ?_
      obtain ⟨N5, g10, h⟩ := h
      obtain ⟨g11, h⟩ := h
      refine ey_iast (pc := 43) (by decide +kernel) g10 g11 rfl ?_
      refine ex_iconst (pc := 44) (k := 1) (v := nI 1) (by decide +kernel) (by decide) ?_
      exact ex_ireturn (pc := 45) (v := b2i true) (by decide +kernel) rfl (b2i_n _) h
  · replace h := h.2 hc
    refine ex_iconst (pc := 10) (k := 0) (v := nI 0) (by decide +kernel) (by decide) ?_
    exact ex_ireturn (pc := 11) (v := b2i false) (by decide +kernel) rfl (b2i_n _) h
theorem k_Integer_bitCount_0 {d bc bs : Nat} {l0 : Int32} {M : Mem} {Φ : Option Value → Mem → Prop} (hF : Fx M) (h : Φ (some (.int ((((((((l0 - (((l0.toUInt32 >>> ((nI 1).toUInt32 &&& Int32.toUInt32 31)).toInt32) &&& (nI 1431655765))) &&& (nI 858993459)) + ((((l0 - (((l0.toUInt32 >>> ((nI 1).toUInt32 &&& Int32.toUInt32 31)).toInt32) &&& (nI 1431655765))).toUInt32 >>> ((nI 2).toUInt32 &&& Int32.toUInt32 31)).toInt32) &&& (nI 858993459))) + (((((l0 - (((l0.toUInt32 >>> ((nI 1).toUInt32 &&& Int32.toUInt32 31)).toInt32) &&& (nI 1431655765))) &&& (nI 858993459)) + ((((l0 - (((l0.toUInt32 >>> ((nI 1).toUInt32 &&& Int32.toUInt32 31)).toInt32) &&& (nI 1431655765))).toUInt32 >>> ((nI 2).toUInt32 &&& Int32.toUInt32 31)).toInt32) &&& (nI 858993459))).toUInt32 >>> ((nI 4).toUInt32 &&& Int32.toUInt32 31)).toInt32)) &&& (nI 252645135)) + (((((((l0 - (((l0.toUInt32 >>> ((nI 1).toUInt32 &&& Int32.toUInt32 31)).toInt32) &&& (nI 1431655765))) &&& (nI 858993459)) + ((((l0 - (((l0.toUInt32 >>> ((nI 1).toUInt32 &&& Int32.toUInt32 31)).toInt32) &&& (nI 1431655765))).toUInt32 >>> ((nI 2).toUInt32 &&& Int32.toUInt32 31)).toInt32) &&& (nI 858993459))) + (((((l0 - (((l0.toUInt32 >>> ((nI 1).toUInt32 &&& Int32.toUInt32 31)).toInt32) &&& (nI 1431655765))) &&& (nI 858993459)) + ((((l0 - (((l0.toUInt32 >>> ((nI 1).toUInt32 &&& Int32.toUInt32 31)).toInt32) &&& (nI 1431655765))).toUInt32 >>> ((nI 2).toUInt32 &&& Int32.toUInt32 31)).toInt32) &&& (nI 858993459))).toUInt32 >>> ((nI 4).toUInt32 &&& Int32.toUInt32 31)).toInt32)) &&& (nI 252645135)).toUInt32 >>> ((nI 8).toUInt32 &&& Int32.toUInt32 31)).toInt32)) + ((((((((l0 - (((l0.toUInt32 >>> ((nI 1).toUInt32 &&& Int32.toUInt32 31)).toInt32) &&& (nI 1431655765))) &&& (nI 858993459)) + ((((l0 - (((l0.toUInt32 >>> ((nI 1).toUInt32 &&& Int32.toUInt32 31)).toInt32) &&& (nI 1431655765))).toUInt32 >>> ((nI 2).toUInt32 &&& Int32.toUInt32 31)).toInt32) &&& (nI 858993459))) + (((((l0 - (((l0.toUInt32 >>> ((nI 1).toUInt32 &&& Int32.toUInt32 31)).toInt32) &&& (nI 1431655765))) &&& (nI 858993459)) + ((((l0 - (((l0.toUInt32 >>> ((nI 1).toUInt32 &&& Int32.toUInt32 31)).toInt32) &&& (nI 1431655765))).toUInt32 >>> ((nI 2).toUInt32 &&& Int32.toUInt32 31)).toInt32) &&& (nI 858993459))).toUInt32 >>> ((nI 4).toUInt32 &&& Int32.toUInt32 31)).toInt32)) &&& (nI 252645135)) + (((((((l0 - (((l0.toUInt32 >>> ((nI 1).toUInt32 &&& Int32.toUInt32 31)).toInt32) &&& (nI 1431655765))) &&& (nI 858993459)) + ((((l0 - (((l0.toUInt32 >>> ((nI 1).toUInt32 &&& Int32.toUInt32 31)).toInt32) &&& (nI 1431655765))).toUInt32 >>> ((nI 2).toUInt32 &&& Int32.toUInt32 31)).toInt32) &&& (nI 858993459))) + (((((l0 - (((l0.toUInt32 >>> ((nI 1).toUInt32 &&& Int32.toUInt32 31)).toInt32) &&& (nI 1431655765))) &&& (nI 858993459)) + ((((l0 - (((l0.toUInt32 >>> ((nI 1).toUInt32 &&& Int32.toUInt32 31)).toInt32) &&& (nI 1431655765))).toUInt32 >>> ((nI 2).toUInt32 &&& Int32.toUInt32 31)).toInt32) &&& (nI 858993459))).toUInt32 >>> ((nI 4).toUInt32 &&& Int32.toUInt32 31)).toInt32)) &&& (nI 252645135)).toUInt32 >>> ((nI 8).toUInt32 &&& Int32.toUInt32 31)).toInt32)).toUInt32 >>> ((nI 16).toUInt32 &&& Int32.toUInt32 31)).toInt32)) &&& (nI 63)))) M) : Ex (d + 1) m_Integer_bitCount bc bs 0 [some (.int l0)] [] M Φ := by
  refine ex_iload_n (pc := 0) (k := 0) (by decide +kernel) rfl ?_
  refine ex_iload_n (pc := 1) (k := 0) (by decide +kernel) rfl ?_
  refine ex_iconst (pc := 2) (k := 1) (v := nI 1) (by decide +kernel) (by decide) ?_
  refine ex_iushr (pc := 3) (by decide +kernel) rfl ?_
  refine ex_ldc_w (pc := 4) (v := nI 1431655765) (by decide +kernel) (in_t4 (i := 83) rfl rfl) ?_
  refine ex_iand (pc := 7) (by decide +kernel) ?_
  refine ex_isub (pc := 8) (by decide +kernel) ?_
  refine ex_istore_n (pc := 9) (k := 0) (lo2 := [some (.int (l0 - (((l0.toUInt32 >>> ((nI 1).toUInt32 &&& Int32.toUInt32 31)).toInt32) &&& (nI 1431655765))))]) (by decide +kernel) (by decide) rfl ?_
  refine ex_iload_n (pc := 10) (k := 0) (by decide +kernel) rfl ?_
  refine ex_ldc_w (pc := 11) (v := nI 858993459) (by decide +kernel) (in_t4 (i := 84) rfl rfl) ?_
  refine ex_iand (pc := 14) (by decide +kernel) ?_
  refine ex_iload_n (pc := 15) (k := 0) (by decide +kernel) rfl ?_
  refine ex_iconst (pc := 16) (k := 2) (v := nI 2) (by decide +kernel) (by decide) ?_
  refine ex_iushr (pc := 17) (by decide +kernel) rfl ?_
  refine ex_ldc_w (pc := 18) (v := nI 858993459) (by decide +kernel) (in_t4 (i := 84) rfl rfl) ?_
  refine ex_iand (pc := 21) (by decide +kernel) ?_
  refine ex_iadd (pc := 22) (by decide +kernel) ?_
  refine ex_istore_n (pc := 23) (k := 0) (lo2 := [some (.int (((l0 - (((l0.toUInt32 >>> ((nI 1).toUInt32 &&& Int32.toUInt32 31)).toInt32) &&& (nI 1431655765))) &&& (nI 858993459)) + ((((l0 - (((l0.toUInt32 >>> ((nI 1).toUInt32 &&& Int32.toUInt32 31)).toInt32) &&& (nI 1431655765))).toUInt32 >>> ((nI 2).toUInt32 &&& Int32.toUInt32 31)).toInt32) &&& (nI 858993459))))]) (by decide +kernel) (by decide) rfl ?_
  refine ex_iload_n (pc := 24) (k := 0) (by decide +kernel) rfl ?_
  refine ex_iload_n (pc := 25) (k := 0) (by decide +kernel) rfl ?_
  refine ex_iconst (pc := 26) (k := 4) (v := nI 4) (by decide +kernel) (by decide) ?_
  refine ex_iushr (pc := 27) (by decide +kernel) rfl ?_
  refine ex_iadd (pc := 28) (by decide +kernel) ?_
  refine ex_ldc_w (pc := 29) (v := nI 252645135) (by decide +kernel) (in_t4 (i := 85) rfl rfl) ?_
  refine ex_iand (pc := 32) (by decide +kernel) ?_
  refine ex_istore_n (pc := 33) (k := 0) (lo2 := [some (.int (((((l0 - (((l0.toUInt32 >>> ((nI 1).toUInt32 &&& Int32.toUInt32 31)).toInt32) &&& (nI 1431655765))) &&& (nI 858993459)) + ((((l0 - (((l0.toUInt32 >>> ((nI 1).toUInt32 &&& Int32.toUInt32 31)).toInt32) &&& (nI 1431655765))).toUInt32 >>> ((nI 2).toUInt32 &&& Int32.toUInt32 31)).toInt32) &&& (nI 858993459))) + (((((l0 - (((l0.toUInt32 >>> ((nI 1).toUInt32 &&& Int32.toUInt32 31)).toInt32) &&& (nI 1431655765))) &&& (nI 858993459)) + ((((l0 - (((l0.toUInt32 >>> ((nI 1).toUInt32 &&& Int32.toUInt32 31)).toInt32) &&& (nI 1431655765))).toUInt32 >>> ((nI 2).toUInt32 &&& Int32.toUInt32 31)).toInt32) &&& (nI 858993459))).toUInt32 >>> ((nI 4).toUInt32 &&& Int32.toUInt32 31)).toInt32)) &&& (nI 252645135)))]) (by decide +kernel) (by decide) rfl ?_
  refine ex_iload_n (pc := 34) (k := 0) (by decide +kernel) rfl ?_
  refine ex_iload_n (pc := 35) (k := 0) (by decide +kernel) rfl ?_
  refine ex_bipush (pc := 36) (k := 8) (v := nI 8) (by decide +kernel) (by decide) ?_
  refine ex_iushr (pc := 38) (by decide +kernel) rfl ?_
  refine ex_iadd (pc := 39) (by decide +kernel) ?_
  refine ex_istore_n (pc := 40) (k := 0) (lo2 := [some (.int ((((((l0 - (((l0.toUInt32 >>> ((nI 1).toUInt32 &&& Int32.toUInt32 31)).toInt32) &&& (nI 1431655765))) &&& (nI 858993459)) + ((((l0 - (((l0.toUInt32 >>> ((nI 1).toUInt32 &&& Int32.toUInt32 31)).toInt32) &&& (nI 1431655765))).toUInt32 >>> ((nI 2).toUInt32 &&& Int32.toUInt32 31)).toInt32) &&& (nI 858993459))) + (((((l0 - (((l0.toUInt32 >>> ((nI 1).toUInt32 &&& Int32.toUInt32 31)).toInt32) &&& (nI 1431655765))) &&& (nI 858993459)) + ((((l0 - (((l0.toUInt32 >>> ((nI 1).toUInt32 &&& Int32.toUInt32 31)).toInt32) &&& (nI 1431655765))).toUInt32 >>> ((nI 2).toUInt32 &&& Int32.toUInt32 31)).toInt32) &&& (nI 858993459))).toUInt32 >>> ((nI 4).toUInt32 &&& Int32.toUInt32 31)).toInt32)) &&& (nI 252645135)) + (((((((l0 - (((l0.toUInt32 >>> ((nI 1).toUInt32 &&& Int32.toUInt32 31)).toInt32) &&& (nI 1431655765))) &&& (nI 858993459)) + ((((l0 - (((l0.toUInt32 >>> ((nI 1).toUInt32 &&& Int32.toUInt32 31)).toInt32) &&& (nI 1431655765))).toUInt32 >>> ((nI 2).toUInt32 &&& Int32.toUInt32 31)).toInt32) &&& (nI 858993459))) + (((((l0 - (((l0.toUInt32 >>> ((nI 1).toUInt32 &&& Int32.toUInt32 31)).toInt32) &&& (nI 1431655765))) &&& (nI 858993459)) + ((((l0 - (((l0.toUInt32 >>> ((nI 1).toUInt32 &&& Int32.toUInt32 31)).toInt32) &&& (nI 1431655765))).toUInt32 >>> ((nI 2).toUInt32 &&& Int32.toUInt32 31)).toInt32) &&& (nI 858993459))).toUInt32 >>> ((nI 4).toUInt32 &&& Int32.toUInt32 31)).toInt32)) &&& (nI 252645135)).toUInt32 >>> ((nI 8).toUInt32 &&& Int32.toUInt32 31)).toInt32)))]) (by decide +kernel) (by decide) rfl ?_
  refine ex_iload_n (pc := 41) (k := 0) (by decide +kernel) rfl ?_
  refine ex_iload_n (pc := 42) (k := 0) (by decide +kernel) rfl ?_
  refine ex_bipush (pc := 43) (k := 16) (v := nI 16) (by decide +kernel) (by decide) ?_
  refine ex_iushr (pc := 45) (by decide +kernel) rfl ?_
  refine ex_iadd (pc := 46) (by decide +kernel) ?_
  refine ex_istore_n (pc := 47) (k := 0) (lo2 := [some (.int (((((((l0 - (((l0.toUInt32 >>> ((nI 1).toUInt32 &&& Int32.toUInt32 31)).toInt32) &&& (nI 1431655765))) &&& (nI 858993459)) + ((((l0 - (((l0.toUInt32 >>> ((nI 1).toUInt32 &&& Int32.toUInt32 31)).toInt32) &&& (nI 1431655765))).toUInt32 >>> ((nI 2).toUInt32 &&& Int32.toUInt32 31)).toInt32) &&& (nI 858993459))) + (((((l0 - (((l0.toUInt32 >>> ((nI 1).toUInt32 &&& Int32.toUInt32 31)).toInt32) &&& (nI 1431655765))) &&& (nI 858993459)) + ((((l0 - (((l0.toUInt32 >>> ((nI 1).toUInt32 &&& Int32.toUInt32 31)).toInt32) &&& (nI 1431655765))).toUInt32 >>> ((nI 2).toUInt32 &&& Int32.toUInt32 31)).toInt32) &&& (nI 858993459))).toUInt32 >>> ((nI 4).toUInt32 &&& Int32.toUInt32 31)).toInt32)) &&& (nI 252645135)) + (((((((l0 - (((l0.toUInt32 >>> ((nI 1).toUInt32 &&& Int32.toUInt32 31)).toInt32) &&& (nI 1431655765))) &&& (nI 858993459)) + ((((l0 - (((l0.toUInt32 >>> ((nI 1).toUInt32 &&& Int32.toUInt32 31)).toInt32) &&& (nI 1431655765))).toUInt32 >>> ((nI 2).toUInt32 &&& Int32.toUInt32 31)).toInt32) &&& (nI 858993459))) + (((((l0 - (((l0.toUInt32 >>> ((nI 1).toUInt32 &&& Int32.toUInt32 31)).toInt32) &&& (nI 1431655765))) &&& (nI 858993459)) + ((((l0 - (((l0.toUInt32 >>> ((nI 1).toUInt32 &&& Int32.toUInt32 31)).toInt32) &&& (nI 1431655765))).toUInt32 >>> ((nI 2).toUInt32 &&& Int32.toUInt32 31)).toInt32) &&& (nI 858993459))).toUInt32 >>> ((nI 4).toUInt32 &&& Int32.toUInt32 31)).toInt32)) &&& (nI 252645135)).toUInt32 >>> ((nI 8).toUInt32 &&& Int32.toUInt32 31)).toInt32)) + ((((((((l0 - (((l0.toUInt32 >>> ((nI 1).toUInt32 &&& Int32.toUInt32 31)).toInt32) &&& (nI 1431655765))) &&& (nI 858993459)) + ((((l0 - (((l0.toUInt32 >>> ((nI 1).toUInt32 &&& Int32.toUInt32 31)).toInt32) &&& (nI 1431655765))).toUInt32 >>> ((nI 2).toUInt32 &&& Int32.toUInt32 31)).toInt32) &&& (nI 858993459))) + (((((l0 - (((l0.toUInt32 >>> ((nI 1).toUInt32 &&& Int32.toUInt32 31)).toInt32) &&& (nI 1431655765))) &&& (nI 858993459)) + ((((l0 - (((l0.toUInt32 >>> ((nI 1).toUInt32 &&& Int32.toUInt32 31)).toInt32) &&& (nI 1431655765))).toUInt32 >>> ((nI 2).toUInt32 &&& Int32.toUInt32 31)).toInt32) &&& (nI 858993459))).toUInt32 >>> ((nI 4).toUInt32 &&& Int32.toUInt32 31)).toInt32)) &&& (nI 252645135)) + (((((((l0 - (((l0.toUInt32 >>> ((nI 1).toUInt32 &&& Int32.toUInt32 31)).toInt32) &&& (nI 1431655765))) &&& (nI 858993459)) + ((((l0 - (((l0.toUInt32 >>> ((nI 1).toUInt32 &&& Int32.toUInt32 31)).toInt32) &&& (nI 1431655765))).toUInt32 >>> ((nI 2).toUInt32 &&& Int32.toUInt32 31)).toInt32) &&& (nI 858993459))) + (((((l0 - (((l0.toUInt32 >>> ((nI 1).toUInt32 &&& Int32.toUInt32 31)).toInt32) &&& (nI 1431655765))) &&& (nI 858993459)) + ((((l0 - (((l0.toUInt32 >>> ((nI 1).toUInt32 &&& Int32.toUInt32 31)).toInt32) &&& (nI 1431655765))).toUInt32 >>> ((nI 2).toUInt32 &&& Int32.toUInt32 31)).toInt32) &&& (nI 858993459))).toUInt32 >>> ((nI 4).toUInt32 &&& Int32.toUInt32 31)).toInt32)) &&& (nI 252645135)).toUInt32 >>> ((nI 8).toUInt32 &&& Int32.toUInt32 31)).toInt32)).toUInt32 >>> ((nI 16).toUInt32 &&& Int32.toUInt32 31)).toInt32)))]) (by decide +kernel) (by decide) rfl ?_
  refine ex_iload_n (pc := 48) (k := 0) (by decide +kernel) rfl ?_
  refine ex_bipush (pc := 49) (k := 63) (v := nI 63) (by decide +kernel) (by decide) ?_
  refine ex_iand (pc := 51) (by decide +kernel) ?_
  exact ex_ireturn (pc := 52) (by decide +kernel) rfl rfl h
theorem k_Arrays_checkLength_0 {d bc bs : Nat} {l0 : Int32} {l1 : Int32} {M : Mem} {Φ : Option Value → Mem → Prop} (hF : Fx M) (h : (l0 ≤ l1 → Φ none M) ∧ (¬ l0 ≤ l1 → False)) : Ex (d + 1) m_Arrays_checkLength bc bs 0 [some (.int l0), some (.int l1)] [] M Φ := by
  refine ex_iload_n (pc := 0) (k := 1) (by decide +kernel) rfl ?_
  refine ex_iload_n (pc := 1) (k := 0) (by decide +kernel) rfl ?_
  refine ex_icmp_ge (pc := 2) (off := 35) (tgt := 37) (by decide +kernel) (by decide) (fun hc => ?_) (fun hc => ?_)
  · replace h := h.1 hc
    exact ex_return (pc := 37) (by decide +kernel) rfl h
  · replace h := h.2 hc
    exact h.elim
theorem k_Arrays_copyOf_0 {d bc bs : Nat} {l0 : Nat} {l1 : Int32} {M : Mem} {Φ : Option Value → Mem → Prop} (hF : Fx M) (h : ∃ N1 : Nat, (sh M)[l0]? = some (100, N1) ∧ (¬ l1 = (nI N1) → ¬ l1 < 0 ∧ l1.toNatClampNeg ≤ 1000000 ∧ (1 ≤ bc ∧ l1.toNatClampNeg ≤ bs) ∧ (sh M).length < 1048576 ∧ ∃ N2 : Nat, (sh (nw M 100 l1.toNatClampNeg))[l0]? = some (100, N2) ∧ ∃ N3 N4 : Nat, (sh (nw M 100 l1.toNatClampNeg))[l0]? = some (100, N3) ∧ (sh (nw M 100 l1.toNatClampNeg))[((sh M).length)]? = some (100, N4) ∧ ¬ (nI 0) < 0 ∧ ¬ (nI 0) < 0 ∧ ¬ (if l1 < (nI N2) then l1 else (nI N2)) < 0 ∧ (nI 0).toNatClampNeg + (if l1 < (nI N2) then l1 else (nI N2)).toNatClampNeg ≤ N3 ∧ (nI 0).toNatClampNeg + (if l1 < (nI N2) then l1 else (nI N2)).toNatClampNeg ≤ N4 ∧ Φ (some (rv (some ((sh M).length)))) (wrow (nw M 100 l1.toNatClampNeg) ((sh M).length) (va_cpy (mi (nw M 100 l1.toNatClampNeg) l0) (mi (nw M 100 l1.toNatClampNeg) ((sh M).length)) (nI 0).toNatClampNeg (nI 0).toNatClampNeg (if l1 < (nI N2) then l1 else (nI N2)).toNatClampNeg))) ∧ (l1 = (nI N1) → False)) : Ex (d + 1) m_Arrays_copyOf bc bs 0 [some (.ref l0), some (.int l1), none] [] M Φ := by
  refine ex_iload_n (pc := 0) (k := 1) (by decide +kernel) rfl ?_
  refine ex_aload_n (pc := 1) (k := 0) (by decide +kernel) rfl ?_
  obtain ⟨N1, g1, h⟩ := h
  refine ex_alen (pc := 2) (by decide +kernel) g1 (by decide) ?_
  refine ex_icmp_ne (pc := 3) (off := 11) (tgt := 14) (by decide +kernel) (by decide) (fun hc => ?_) (fun hc => ?_)
  · replace h := h.1 hc
    refine ex_iload_n (pc := 14) (k := 1) (by decide +kernel) rfl ?_
    obtain ⟨g2, g3, g4, g5, h⟩ := h
    refine ex_newa_int (pc := 15) (by decide +kernel) (in_t1 (i := 99) rfl rfl) g2 rfl g3 g4 g5 ?_
    refine ex_astore_n (pc := 17) (k := 2) (lo2 := [some (.ref l0), some (.int l1), some (.ref ((sh M).length))]) (by decide +kernel) (by decide) rfl ?_
    refine ex_aload_n (pc := 18) (k := 0) (by decide +kernel) rfl ?_
    refine ex_iconst (pc := 19) (k := 0) (v := nI 0) (by decide +kernel) (by decide) ?_
    refine ex_aload_n (pc := 20) (k := 2) (by decide +kernel) rfl ?_
    refine ex_iconst (pc := 21) (k := 0) (v := nI 0) (by decide +kernel) (by decide) ?_
    refine ex_aload_n (pc := 22) (k := 0) (by decide +kernel) rfl ?_
    obtain ⟨N2, g6, h⟩ := h
    refine ex_alen (pc := 23) (by decide +kernel) g6 (by decide) ?_
    refine ex_iload_n (pc := 24) (k := 1) (by decide +kernel) rfl ?_
    refine ex_min (pc := 25) (by decide +kernel) (in_t2 (i := 205) rfl rfl) (Nat.le_of_ble_eq_true rfl) (Nat.succ_le_succ (Nat.zero_le _)) ?_
    obtain ⟨N3, N4, g7, g8, g9, g10, g11, g12, g13, h⟩ := h
    refine ex_acopy (pc := 28) (by decide +kernel) (in_t2 (i := 208) rfl rfl) g7 g8 g9 g10 g11 g12 g13 (Nat.le_of_ble_eq_true rfl) (Nat.succ_le_succ (Nat.zero_le _)) ?_
    refine ex_aload_n (pc := 31) (k := 2) (by decide +kernel) rfl ?_
    exact ex_areturn (pc := 32) (by decide +kernel) rfl (Or.inr ⟨_, rfl⟩) h
  · replace h := h.2 hc
    refine ex_aload_n (pc := 6) (k := 0) (by decide +kernel) rfl ?_
    exact h.elim
theorem k_Arrays_copyOfRange_0 {d bc bs : Nat} {l0 : Nat} {l1 : Int32} {l2 : Int32} {M : Mem} {Φ : Option Value → Mem → Prop} (hF : Fx M) (h : (¬ l1 = 0 → Ex (d + 1) m_Arrays_copyOfRange bc bs 10 [some (.ref l0), some (.int l1), some (.int l2)] [] M Φ) ∧ (l1 = 0 → ∃ N1 : Nat, (sh M)[l0]? = some (100, N1) ∧ (l2 = (nI N1) → False) ∧ (¬ l2 = (nI N1) → Ex (d + 1) m_Arrays_copyOfRange bc bs 10 [some (.ref l0), some (.int l1), some (.int l2)] [] M Φ))) : Ex (d + 1) m_Arrays_copyOfRange bc bs 0 [some (.ref l0), some (.int l1), some (.int l2)] [] M Φ := by
  refine ex_iload_n (pc := 0) (k := 1) (by decide +kernel) rfl ?_
  refine ex_if_ne (pc := 1) (off := 9) (tgt := 10) (by decide +kernel) (by decide) (fun hc => ?_) (fun hc => ?_)
  · replace h := h.1 hc
    exact h
  · replace h := h.2 hc
    refine ex_iload_n (pc := 4) (k := 2) (by decide +kernel) rfl ?_
    refine ex_aload_n (pc := 5) (k := 0) (by decide +kernel) rfl ?_
    obtain ⟨N1, g1, h⟩ := h
    refine ex_alen (pc := 6) (by decide +kernel) g1 (by decide) ?_
    refine ex_icmp_eq (pc := 7) (off := 10) (tgt := 17) (by decide +kernel) (by decide) (fun hc => ?_) (fun hc => ?_)
    · replace h := h.1 hc
      refine ex_aload_n (pc := 17) (k := 0) (by decide +kernel) rfl ?_
      exact h.elim
    · replace h := h.2 hc
      exact h
theorem k_Arrays_copyOfRange_10 {d bc bs : Nat} {l0 : Nat} {l1 : Int32} {l2 : Int32} {M : Mem} {Φ : Option Value → Mem → Prop} (hF : Fx M) (h : (1 ≤ bc ∧ 160 ≤ bs) ∧ Con d m_Arrays_copyOfRangeInt 1 160 [.ref l0, .int l1, .int l2] M (PR fun r1 M1 => Fx M1 ∧ (r1 = none → Φ (some (rv none)) M1) ∧ (∀ a2 : Nat, r1 = some a2 → Φ (some (rv (some a2))) M1))) : Ex (d + 1) m_Arrays_copyOfRange bc bs 10 [some (.ref l0), some (.int l1), some (.int l2)] [] M Φ := by
  refine ex_aload_n (pc := 10) (k := 0) (by decide +kernel) rfl ?_
  refine ex_iload_n (pc := 11) (k := 1) (by decide +kernel) rfl ?_
  refine ex_iload_n (pc := 12) (k := 2) (by decide +kernel) rfl ?_
  obtain ⟨g1, h⟩ := h
  refine ex_callS (pc := 13) (as := [.ref l0, .int l1, .int l2]) (by decide +kernel) F_Arrays_copyOfRangeInt (in_t2 (i := 199) rfl rfl) rfl rfl (Nat.le_of_ble_eq_true rfl) (Nat.lt_succ_self _) g1 (KC_R (Con.mono h ?_))
  intro o M1 ⟨r1, e9, hF1, h⟩
  refine ⟨r1, e9, ?_⟩
  cases r1 with
  | none =>
    replace h := h.1 rfl
    show Ex _ _ _ _ _ _ (Value.null :: _) _ _
    exact ex_areturnN (pc := 16) (by decide +kernel) rfl (Or.inr ⟨_, rfl⟩) h
  | some a2 =>
    replace h := h.2 a2 rfl
    show Ex _ _ _ _ _ _ (Value.ref a2 :: _) _ _
    exact ex_areturn (pc := 16) (by decide +kernel) rfl (Or.inr ⟨_, rfl⟩) h
theorem k_Arrays_copyOfRangeInt_0 {d bc bs : Nat} {l0 : Nat} {l1 : Int32} {l2 : Int32} {M : Mem} {Φ : Option Value → Mem → Prop} (hF : Fx M) (h : Con d m_Arrays_checkLength 0 0 [.int l1, .int l2] M (PV fun M1 => Fx M1 ∧ ¬ (l2 - l1) < 0 ∧ (l2 - l1).toNatClampNeg ≤ 1000000 ∧ (1 ≤ bc ∧ (l2 - l1).toNatClampNeg ≤ bs) ∧ (sh M1).length < 1048576 ∧ ∃ N1 : Nat, (sh (nw M1 100 ((l2 - l1).toNatClampNeg)))[l0]? = some (100, N1) ∧ ∃ N2 N3 : Nat, (sh (nw M1 100 ((l2 - l1).toNatClampNeg)))[l0]? = some (100, N2) ∧ (sh (nw M1 100 ((l2 - l1).toNatClampNeg)))[((sh M1).length)]? = some (100, N3) ∧ ¬ l1 < 0 ∧ ¬ (nI 0) < 0 ∧ ¬ (if (l2 - l1) < ((nI N1) - l1) then (l2 - l1) else ((nI N1) - l1)) < 0 ∧ l1.toNatClampNeg + (if (l2 - l1) < ((nI N1) - l1) then (l2 - l1) else ((nI N1) - l1)).toNatClampNeg ≤ N2 ∧ (nI 0).toNatClampNeg + (if (l2 - l1) < ((nI N1) - l1) then (l2 - l1) else ((nI N1) - l1)).toNatClampNeg ≤ N3 ∧ Φ (some (rv (some ((sh M1).length)))) (wrow (nw M1 100 ((l2 - l1).toNatClampNeg)) ((sh M1).length) (va_cpy (mi (nw M1 100 ((l2 - l1).toNatClampNeg)) l0) (mi (nw M1 100 ((l2 - l1).toNatClampNeg)) ((sh M1).length)) l1.toNatClampNeg (nI 0).toNatClampNeg (if (l2 - l1) < ((nI N1) - l1) then (l2 - l1) else ((nI N1) - l1)).toNatClampNeg)))) : Ex (d + 1) m_Arrays_copyOfRangeInt bc bs 0 [some (.ref l0), some (.int l1), some (.int l2), none, none] [] M Φ := by
  refine ex_iload_n (pc := 0) (k := 1) (by decide +kernel) rfl ?_
  refine ex_iload_n (pc := 1) (k := 2) (by decide +kernel) rfl ?_
  refine ex_callS (pc := 2) (as := [.int l1, .int l2]) (by decide +kernel) F_Arrays_checkLength (in_t2 (i := 202) rfl rfl) rfl rfl (Nat.le_of_ble_eq_true rfl) (Nat.lt_succ_self _) ⟨Nat.zero_le _, Nat.zero_le _⟩ (KC_V (Con.mono h ?_))
  intro o M1 ⟨e9, hF1, h⟩
  refine ⟨e9, ?_⟩
  refine ex_iload_n (pc := 5) (k := 2) (by decide +kernel) rfl ?_
  refine ex_iload_n (pc := 6) (k := 1) (by decide +kernel) rfl ?_
  refine ex_isub (pc := 7) (by decide +kernel) ?_
  refine ex_istore_n (pc := 8) (k := 3) (lo2 := [some (.ref l0), some (.int l1), some (.int l2), some (.int (l2 - l1)), none]) (by decide +kernel) (by decide) rfl ?_
  refine ex_iload_n (pc := 9) (k := 3) (by decide +kernel) rfl ?_
  obtain ⟨g1, g2, g3, g4, h⟩ := h
  refine ex_newa_int (pc := 10) (by decide +kernel) (in_t1 (i := 99) rfl rfl) g1 rfl g2 g3 g4 ?_
  refine ex_astore (pc := 12) (k := 4) (lo2 := [some (.ref l0), some (.int l1), some (.int l2), some (.int (l2 - l1)), some (.ref ((sh M1).length))]) (by decide +kernel) (by decide) rfl ?_
  refine ex_aload_n (pc := 14) (k := 0) (by decide +kernel) rfl ?_
  refine ex_iload_n (pc := 15) (k := 1) (by decide +kernel) rfl ?_
  refine ex_aload (pc := 16) (k := 4) (by decide +kernel) rfl ?_
  refine ex_iconst (pc := 18) (k := 0) (v := nI 0) (by decide +kernel) (by decide) ?_
  refine ex_aload_n (pc := 19) (k := 0) (by decide +kernel) rfl ?_
  obtain ⟨N1, g5, h⟩ := h
  refine ex_alen (pc := 20) (by decide +kernel) g5 (by decide) ?_
  refine ex_iload_n (pc := 21) (k := 1) (by decide +kernel) rfl ?_
  refine ex_isub (pc := 22) (by decide +kernel) ?_
  refine ex_iload_n (pc := 23) (k := 3) (by decide +kernel) rfl ?_
  refine ex_min (pc := 24) (by decide +kernel) (in_t2 (i := 205) rfl rfl) (Nat.le_of_ble_eq_true rfl) (Nat.succ_le_succ (Nat.zero_le _)) ?_
  obtain ⟨N2, N3, g6, g7, g8, g9, g10, g11, g12, h⟩ := h
  refine ex_acopy (pc := 27) (by decide +kernel) (in_t2 (i := 208) rfl rfl) g6 g7 g8 g9 g10 g11 g12 (Nat.le_of_ble_eq_true rfl) (Nat.succ_le_succ (Nat.zero_le _)) ?_
  refine ex_aload (pc := 30) (k := 4) (by decide +kernel) rfl ?_
  exact ex_areturn (pc := 32) (by decide +kernel) rfl (Or.inr ⟨_, rfl⟩) h
theorem k_Arrays_fill_0 {d bc bs : Nat} {l0 : Nat} {l1 : Int32} {M : Mem} {Φ : Option Value → Mem → Prop} (hF : Fx M) (h : ∃ N1 : Nat, (sh M)[l0]? = some (100, N1) ∧ Ex (d + 1) m_Arrays_fill bc bs 5 [some (.ref l0), some (.int l1), some (.int (nI 0)), some (.int (nI N1))] [] M Φ) : Ex (d + 1) m_Arrays_fill bc bs 0 [some (.ref l0), some (.int l1), none, none] [] M Φ := by
  refine ex_iconst (pc := 0) (k := 0) (v := nI 0) (by decide +kernel) (by decide) ?_
  refine ex_istore_n (pc := 1) (k := 2) (lo2 := [some (.ref l0), some (.int l1), some (.int (nI 0)), none]) (by decide +kernel) (by decide) rfl ?_
  refine ex_aload_n (pc := 2) (k := 0) (by decide +kernel) rfl ?_
  obtain ⟨N1, g1, h⟩ := h
  refine ex_alen (pc := 3) (by decide +kernel) g1 (by decide) ?_
  refine ex_istore_n (pc := 4) (k := 3) (lo2 := [some (.ref l0), some (.int l1), some (.int (nI 0)), some (.int (nI N1))]) (by decide +kernel) (by decide) rfl ?_
  exact h
theorem k_Arrays_fill_5 {d bc bs : Nat} {l0 : Nat} {l1 : Int32} {l2 : Int32} {l3 : Int32} {M : Mem} {Φ : Option Value → Mem → Prop} (hF : Fx M) (h : (l3 ≤ l2 → Φ none M) ∧ (¬ l3 ≤ l2 → ∃ N1 : Nat, (sh M)[l0]? = some (100, N1) ∧ vp_in l2 N1 ∧ Ex (d + 1) m_Arrays_fill bc bs 5 [some (.ref l0), some (.int l1), some (.int (l2 + nI 1)), some (.int l3)] [] (wi M l0 l2.toNatClampNeg l1) Φ)) : Ex (d + 1) m_Arrays_fill bc bs 5 [some (.ref l0), some (.int l1), some (.int l2), some (.int l3)] [] M Φ := by
  refine ex_iload_n (pc := 5) (k := 2) (by decide +kernel) rfl ?_
  refine ex_iload_n (pc := 6) (k := 3) (by decide +kernel) rfl ?_
  refine ex_icmp_ge (pc := 7) (off := 13) (tgt := 20) (by decide +kernel) (by decide) (fun hc => ?_) (fun hc => ?_)
  · replace h := h.1 hc
    exact ex_return (pc := 20) (by decide +kernel) rfl h
  · replace h := h.2 hc
    refine ex_aload_n (pc := 10) (k := 0) (by decide +kernel) rfl ?_
    refine ex_iload_n (pc := 11) (k := 2) (by decide +kernel) rfl ?_
    refine ex_iload_n (pc := 12) (k := 1) (by decide +kernel) rfl ?_
    obtain ⟨N1, g1, h⟩ := h
    obtain ⟨g2, h⟩ := h
    refine ey_iast (pc := 13) (by decide +kernel) g1 g2 rfl ?_
    refine ex_iinc (pc := 14) (i := 2) (k := 1) (v := l2 + nI 1) (lo2 := [some (.ref l0), some (.int l1), some (.int (l2 + nI 1)), some (.int l3)]) (by decide +kernel) (by decide) rfl rfl rfl ?_
    refine ex_goto (pc := 17) (off := -12) (tgt := 5) (by decide +kernel) (by decide) ?_
    exact h
