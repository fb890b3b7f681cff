/-! printed block: MarketDays.<init>, the loop over the first TEXT -/
theorem k_MD_init_164 {d bc bs : Nat} {l1 : Int32} {M : Mem} {Φ : Option Value → Mem → Prop} (hF : Fx M) (h : (1048576 ≤ 1048576 ∧ 1048576 < 1048588) ∧ Con d m_String_length 0 0 [.ref 1048576] M (PI fun r1 M1 => Fx M1 ∧ (r1 ≤ l1 → (3 ≤ bc ∧ 330 ≤ bs) ∧ Con d m_Tape_readRule 3 330 [.ref 43] M1 (PR fun r2 M2 => Fx M2 ∧ (r2 = none → Con d m_Law_learn 0 0 [.ref 46, .null] M2 (PV fun M3 => Fx M3 ∧ Φ none M3)) ∧ (∀ a3 : Nat, r2 = some a3 → Con d m_Law_learn 0 0 [.ref 46, .ref a3] M2 (PV fun M4 => Fx M4 ∧ Φ none M4)))) ∧ (¬ r1 ≤ l1 → (1048576 ≤ 1048576 ∧ 1048576 < 1048588) ∧ Con d m_String_charAt 0 0 [.ref 1048576, .int l1] M1 (PI fun r4 M5 => Fx M5 ∧ Con d m_Tape_put 0 0 [.ref 43, .int r4] M5 (PV fun M6 => Fx M6 ∧ Ex (d + 1) m_MD_init bc bs 164 [some (.ref 0), some (.int (l1 + nI 1))] [] M6 Φ))))) : Ex (d + 1) m_MD_init bc bs 164 [some (.ref 0), some (.int l1)] [] M Φ := by
  refine ex_iload_n (pc := 164) (k := 1) (by decide +kernel) rfl ?_
  refine ex_ldcS (pc := 165) (i := 0) (by decide +kernel) rfl (by decide) ?_
  obtain ⟨g1, h⟩ := h
  refine ex_callT (pc := 167) (as := []) (by decide +kernel) F_String_length (in_t2 (i := 60) rfl rfl) g1 rfl rfl rfl (Nat.le_of_ble_eq_true rfl) (Nat.lt_succ_self _) ⟨Nat.zero_le _, Nat.zero_le _⟩ (KC_I (Con.mono h ?_))
  intro o M1 ⟨r1, e9, hF1, h⟩
  refine ⟨r1, e9, ?_⟩
  refine ex_icmp_ge (pc := 170) (off := 22) (tgt := 192) (by decide +kernel) (by decide) (fun hc => ?_) (fun hc => ?_)
  · replace h := h.1 hc
    refine ex_aload_n (pc := 192) (k := 0) (by decide +kernel) rfl ?_
    refine ex_getR (pc := 193) (a := 46) (by decide +kernel) lf_MD_35 (hF1.s (j := 0) rfl) (hF1.r (j := 0) (k := 4) rfl rfl) ?_
    refine ex_aload_n (pc := 196) (k := 0) (by decide +kernel) rfl ?_
    refine ex_getR (pc := 197) (a := 43) (by decide +kernel) lf_MD_26 (hF1.s (j := 0) rfl) (hF1.r (j := 0) (k := 3) rfl rfl) ?_
    obtain ⟨g2, h⟩ := h
    refine ex_callV (pc := 200) (as := []) (by decide +kernel) F_Tape_readRule (in_t2 (i := 112) rfl rfl) (hF1.s (j := 43) rfl) rfl (by decide) rfl rfl (Nat.le_of_ble_eq_true rfl) (Nat.lt_succ_self _) g2 (KC_R (Con.mono h ?_))
    intro o M2 ⟨r2, e9, hF2, h⟩
    refine ⟨r2, e9, ?_⟩
    cases r2 with
    | none =>
      replace h := h.1 rfl
      show Ex _ _ _ _ _ _ (Value.null :: _) _ _
      refine ex_callV (pc := 203) (as := [.null]) (by decide +kernel) F_Law_learn (in_t2 (i := 232) rfl rfl) (hF2.s (j := 46) rfl) rfl (by decide) rfl rfl (Nat.le_of_ble_eq_true rfl) (Nat.lt_succ_self _) ⟨Nat.zero_le _, Nat.zero_le _⟩ (KC_V (Con.mono h ?_))
      intro o M3 ⟨e9, hF3, h⟩
      refine ⟨e9, ?_⟩
      exact ex_return (pc := 206) (by decide +kernel) rfl h
    | some a3 =>
      replace h := h.2 a3 rfl
      show Ex _ _ _ _ _ _ (Value.ref a3 :: _) _ _
      refine ex_callV (pc := 203) (as := [.ref a3]) (by decide +kernel) F_Law_learn (in_t2 (i := 232) rfl rfl) (hF2.s (j := 46) rfl) rfl (by decide) rfl rfl (Nat.le_of_ble_eq_true rfl) (Nat.lt_succ_self _) ⟨Nat.zero_le _, Nat.zero_le _⟩ (KC_V (Con.mono h ?_))
      intro o M4 ⟨e9, hF4, h⟩
      refine ⟨e9, ?_⟩
      exact ex_return (pc := 206) (by decide +kernel) rfl h
  · replace h := h.2 hc
    refine ex_aload_n (pc := 173) (k := 0) (by decide +kernel) rfl ?_
    refine ex_getR (pc := 174) (a := 43) (by decide +kernel) lf_MD_26 (hF1.s (j := 0) rfl) (hF1.r (j := 0) (k := 3) rfl rfl) ?_
    refine ex_ldcS (pc := 177) (i := 0) (by decide +kernel) rfl (by decide) ?_
    refine ex_iload_n (pc := 179) (k := 1) (by decide +kernel) rfl ?_
    obtain ⟨g3, h⟩ := h
    refine ex_callT (pc := 180) (as := [.int l1]) (by decide +kernel) F_String_charAt (in_t2 (i := 70) rfl rfl) g3 rfl rfl rfl (Nat.le_of_ble_eq_true rfl) (Nat.lt_succ_self _) ⟨Nat.zero_le _, Nat.zero_le _⟩ (KC_I (Con.mono h ?_))
    intro o M5 ⟨r4, e9, hF5, h⟩
    refine ⟨r4, e9, ?_⟩
    refine ex_callV (pc := 183) (as := [.int r4]) (by decide +kernel) F_Tape_put (in_t2 (i := 108) rfl rfl) (hF5.s (j := 43) rfl) rfl (by decide) rfl rfl (Nat.le_of_ble_eq_true rfl) (Nat.lt_succ_self _) ⟨Nat.zero_le _, Nat.zero_le _⟩ (KC_V (Con.mono h ?_))
    intro o M6 ⟨e9, hF6, h⟩
    refine ⟨e9, ?_⟩
    refine ex_iinc (pc := 186) (i := 1) (k := 1) (v := l1 + nI 1) (lo2 := [some (.ref 0), some (.int (l1 + nI 1))]) (by decide +kernel) (by decide) rfl rfl rfl ?_
    refine ex_goto (pc := 189) (off := -25) (tgt := 164) (by decide +kernel) (by decide) ?_
    exact h
