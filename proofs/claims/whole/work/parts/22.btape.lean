/-! printed blocks: MarketDays$Tape -/
theorem k_Tape_put_0 {d bc bs : Nat} {l1 : Int32} {M : Mem} {Φ : Option Value → Mem → Prop} (hF : Fx M) (h : ((nI 160) ≤ (mi M 43 1) → Φ none M) ∧ (¬ (nI 160) ≤ (mi M 43 1) → vp_in (mi M 43 1) 160 ∧ Φ none (wi (wi M 44 ((mi M 43 1).toNatClampNeg) l1) 43 1 ((mi M 43 1) + (nI 1))))) : Ex (d + 1) m_Tape_put bc bs 0 [some (.ref 43), some (.int l1)] [] M Φ := by
  refine ex_aload_n (pc := 0) (k := 0) (by decide +kernel) rfl ?_
  refine ey_getI (pc := 1) (v := mi M 43 1) (by decide +kernel) lf_Tape_15 (hF.s (j := 43) rfl) rfl ?_
  refine ex_sipush (pc := 4) (k := 160) (v := nI 160) (by decide +kernel) (by decide) ?_
  refine ex_icmp_ge (pc := 7) (off := 23) (tgt := 30) (by decide +kernel) (by decide) (fun hc => ?_) (fun hc => ?_)
  · replace h := h.1 hc
    exact ex_return (pc := 30) (by decide +kernel) rfl h
  · replace h := h.2 hc
    refine ex_aload_n (pc := 10) (k := 0) (by decide +kernel) rfl ?_
    refine ex_getR (pc := 11) (a := 44) (by decide +kernel) lf_Tape_9 (hF.s (j := 43) rfl) (hF.r (j := 43) (k := 0) rfl rfl) ?_
    refine ex_aload_n (pc := 14) (k := 0) (by decide +kernel) rfl ?_
    refine ey_getI (pc := 15) (v := mi M 43 1) (by decide +kernel) lf_Tape_15 (hF.s (j := 43) rfl) rfl ?_
    refine ex_iload_n (pc := 18) (k := 1) (by decide +kernel) rfl ?_
    obtain ⟨g1, h⟩ := h
    refine ey_iast (pc := 19) (by decide +kernel) (hF.s (j := 44) rfl) g1 rfl ?_
    refine ex_aload_n (pc := 20) (k := 0) (by decide +kernel) rfl ?_
    refine ex_dup (pc := 21) (by decide +kernel) rfl ?_
    refine ey_getI (pc := 22) (v := mi M 43 1) (by decide +kernel) lf_Tape_15 (hF.s (j := 43) rfl) rfl ?_
    refine ex_iconst (pc := 25) (k := 1) (v := nI 1) (by decide +kernel) (by decide) ?_
    refine ex_iadd (pc := 26) (by decide +kernel) ?_
    refine ex_putI (pc := 27) (index := 15) (ci := 9) (k := 1) (fin := false) (by decide +kernel) ⟨_, _, _, _, cf_Tape, by decide, in_t1 (i := 107) rfl rfl, rfl, (fun h => by cases h), rfl, rfl⟩ rfl (fun h => by cases h) (hF.s (j := 43) rfl) ?_
    exact ex_return (pc := 30) (by decide +kernel) rfl h
theorem k_Tape_readRule_0 {d bc bs : Nat}  {M : Mem} {Φ : Option Value → Mem → Prop} (hF : Fx M) (h : Con d m_Tape_advance 0 0 [.ref 43] (wi (wi (wi (wi M 43 2 (-1)) 43 3 (nI 0)) 43 7 (nI 0)) 43 9 (nI 0)) (PV fun M1 => Fx M1 ∧ Con d m_Tape_expect 0 0 [.ref 43, .int (nI 259)] M1 (PV fun M2 => Fx M2 ∧ Con d m_Tape_readEither 0 0 [.ref 43] M2 (PV fun M3 => Fx M3 ∧ Con d m_Tape_expect 0 0 [.ref 43, .int (nI 59)] M3 (PV fun M4 => Fx M4 ∧ Con d m_Tape_expect 0 0 [.ref 43, .int (nI 260)] M4 (PV fun M5 => Fx M5 ∧ Con d m_Tape_readEither 0 0 [.ref 43] M5 (PV fun M6 => Fx M6 ∧ Con d m_Tape_expect 0 0 [.ref 43, .int (nI 59)] M6 (PV fun M7 => Fx M7 ∧ ((mi M7 43 5) = (nI 256) → Ex (d + 1) m_Tape_readRule bc bs 77 [some (.ref 43), some (.int (mi M4 43 9))] [] M7 Φ) ∧ (¬ (mi M7 43 5) = (nI 256) → Con d m_Tape_fail 0 0 [.ref 43] M7 (PV fun M8 => Fx M8 ∧ Ex (d + 1) m_Tape_readRule bc bs 77 [some (.ref 43), some (.int (mi M4 43 9))] [] M8 Φ)))))))))) : Ex (d + 1) m_Tape_readRule bc bs 0 [some (.ref 43), none] [] M Φ := by
  refine ex_aload_n (pc := 0) (k := 0) (by decide +kernel) rfl ?_
  refine ex_iconst (pc := 1) (k := -1) (v := -1) (by decide +kernel) (by decide) ?_
  refine ex_putI (pc := 2) (index := 19) (ci := 9) (k := 2) (fin := false) (by decide +kernel) ⟨_, _, _, _, cf_Tape, by decide, in_t1 (i := 109) rfl rfl, rfl, (fun h => by cases h), rfl, rfl⟩ rfl (fun h => by cases h) (hF.s (j := 43) rfl) ?_
  refine ex_aload_n (pc := 5) (k := 0) (by decide +kernel) rfl ?_
  refine ex_iconst (pc := 6) (k := 0) (v := nI 0) (by decide +kernel) (by decide) ?_
  refine ex_putI (pc := 7) (index := 22) (ci := 9) (k := 3) (fin := false) (by decide +kernel) ⟨_, _, _, _, cf_Tape, by decide, in_t1 (i := 111) rfl rfl, rfl, (fun h => by cases h), rfl, rfl⟩ rfl (fun h => by cases h) (hF.s (j := 43) rfl) ?_
  refine ex_aload_n (pc := 10) (k := 0) (by decide +kernel) rfl ?_
  refine ex_iconst (pc := 11) (k := 0) (v := nI 0) (by decide +kernel) (by decide) ?_
  refine ex_putI (pc := 12) (index := 34) (ci := 9) (k := 7) (fin := false) (by decide +kernel) ⟨_, _, _, _, cf_Tape, by decide, in_t1 (i := 115) rfl rfl, rfl, (fun h => by cases h), rfl, rfl⟩ rfl (fun h => by cases h) (hF.s (j := 43) rfl) ?_
  refine ex_aload_n (pc := 15) (k := 0) (by decide +kernel) rfl ?_
  refine ex_iconst (pc := 16) (k := 0) (v := nI 0) (by decide +kernel) (by decide) ?_
  refine ex_putI (pc := 17) (index := 40) (ci := 9) (k := 9) (fin := false) (by decide +kernel) ⟨_, _, _, _, cf_Tape, by decide, in_t1 (i := 117) rfl rfl, rfl, (fun h => by cases h), rfl, rfl⟩ rfl (fun h => by cases h) (hF.s (j := 43) rfl) ?_
  refine ex_aload_n (pc := 20) (k := 0) (by decide +kernel) rfl ?_
  refine ex_callV (pc := 21) (as := []) (by decide +kernel) F_Tape_advance (in_t2 (i := 116) rfl rfl) (hF.s (j := 43) rfl) rfl (by decide) rfl rfl (Nat.le_of_ble_eq_true rfl) (Nat.lt_succ_self _) ⟨Nat.zero_le _, Nat.zero_le _⟩ (KC_V (Con.mono h ?_))
  intro o M1 ⟨e9, hF1, h⟩
  refine ⟨e9, ?_⟩
  refine ex_aload_n (pc := 24) (k := 0) (by decide +kernel) rfl ?_
  refine ex_sipush (pc := 25) (k := 259) (v := nI 259) (by decide +kernel) (by decide) ?_
  refine ex_callV (pc := 28) (as := [.int (nI 259)]) (by decide +kernel) F_Tape_expect (in_t2 (i := 154) rfl rfl) (hF1.s (j := 43) rfl) rfl (by decide) rfl rfl (Nat.le_of_ble_eq_true rfl) (Nat.lt_succ_self _) ⟨Nat.zero_le _, Nat.zero_le _⟩ (KC_V (Con.mono h ?_))
  intro o M2 ⟨e9, hF2, h⟩
  refine ⟨e9, ?_⟩
  refine ex_aload_n (pc := 31) (k := 0) (by decide +kernel) rfl ?_
  refine ex_callV (pc := 32) (as := []) (by decide +kernel) F_Tape_readEither (in_t2 (i := 162) rfl rfl) (hF2.s (j := 43) rfl) rfl (by decide) rfl rfl (Nat.le_of_ble_eq_true rfl) (Nat.lt_succ_self _) ⟨Nat.zero_le _, Nat.zero_le _⟩ (KC_V (Con.mono h ?_))
  intro o M3 ⟨e9, hF3, h⟩
  refine ⟨e9, ?_⟩
  refine ex_aload_n (pc := 35) (k := 0) (by decide +kernel) rfl ?_
  refine ex_bipush (pc := 36) (k := 59) (v := nI 59) (by decide +kernel) (by decide) ?_
  refine ex_callV (pc := 38) (as := [.int (nI 59)]) (by decide +kernel) F_Tape_expect (in_t2 (i := 154) rfl rfl) (hF3.s (j := 43) rfl) rfl (by decide) rfl rfl (Nat.le_of_ble_eq_true rfl) (Nat.lt_succ_self _) ⟨Nat.zero_le _, Nat.zero_le _⟩ (KC_V (Con.mono h ?_))
  intro o M4 ⟨e9, hF4, h⟩
  refine ⟨e9, ?_⟩
  refine ex_aload_n (pc := 41) (k := 0) (by decide +kernel) rfl ?_
  refine ey_getI (pc := 42) (v := mi M4 43 9) (by decide +kernel) lf_Tape_40 (hF4.s (j := 43) rfl) rfl ?_
  refine ex_istore_n (pc := 45) (k := 1) (lo2 := [some (.ref 43), some (.int (mi M4 43 9))]) (by decide +kernel) (by decide) rfl ?_
  refine ex_aload_n (pc := 46) (k := 0) (by decide +kernel) rfl ?_
  refine ex_sipush (pc := 47) (k := 260) (v := nI 260) (by decide +kernel) (by decide) ?_
  refine ex_callV (pc := 50) (as := [.int (nI 260)]) (by decide +kernel) F_Tape_expect (in_t2 (i := 154) rfl rfl) (hF4.s (j := 43) rfl) rfl (by decide) rfl rfl (Nat.le_of_ble_eq_true rfl) (Nat.lt_succ_self _) ⟨Nat.zero_le _, Nat.zero_le _⟩ (KC_V (Con.mono h ?_))
  intro o M5 ⟨e9, hF5, h⟩
  refine ⟨e9, ?_⟩
  refine ex_aload_n (pc := 53) (k := 0) (by decide +kernel) rfl ?_
  refine ex_callV (pc := 54) (as := []) (by decide +kernel) F_Tape_readEither (in_t2 (i := 162) rfl rfl) (hF5.s (j := 43) rfl) rfl (by decide) rfl rfl (Nat.le_of_ble_eq_true rfl) (Nat.lt_succ_self _) ⟨Nat.zero_le _, Nat.zero_le _⟩ (KC_V (Con.mono h ?_))
  intro o M6 ⟨e9, hF6, h⟩
  refine ⟨e9, ?_⟩
  refine ex_aload_n (pc := 57) (k := 0) (by decide +kernel) rfl ?_
  refine ex_bipush (pc := 58) (k := 59) (v := nI 59) (by decide +kernel) (by decide) ?_
  refine ex_callV (pc := 60) (as := [.int (nI 59)]) (by decide +kernel) F_Tape_expect (in_t2 (i := 154) rfl rfl) (hF6.s (j := 43) rfl) rfl (by decide) rfl rfl (Nat.le_of_ble_eq_true rfl) (Nat.lt_succ_self _) ⟨Nat.zero_le _, Nat.zero_le _⟩ (KC_V (Con.mono h ?_))
  intro o M7 ⟨e9, hF7, h⟩
  refine ⟨e9, ?_⟩
  refine ex_aload_n (pc := 63) (k := 0) (by decide +kernel) rfl ?_
  refine ey_getI (pc := 64) (v := mi M7 43 5) (by decide +kernel) lf_Tape_28 (hF7.s (j := 43) rfl) rfl ?_
  refine ex_sipush (pc := 67) (k := 256) (v := nI 256) (by decide +kernel) (by decide) ?_
  refine ex_icmp_eq (pc := 70) (off := 7) (tgt := 77) (by decide +kernel) (by decide) (fun hc => ?_) (fun hc => ?_)
  · replace h := h.1 hc
    exact h
  · replace h := h.2 hc
    refine ex_aload_n (pc := 73) (k := 0) (by decide +kernel) rfl ?_
    refine ex_callV (pc := 74) (as := []) (by decide +kernel) F_Tape_fail (in_t2 (i := 158) rfl rfl) (hF7.s (j := 43) rfl) rfl (by decide) rfl rfl (Nat.le_of_ble_eq_true rfl) (Nat.lt_succ_self _) ⟨Nat.zero_le _, Nat.zero_le _⟩ (KC_V (Con.mono h ?_))
    intro o M8 ⟨e9, hF8, h⟩
    refine ⟨e9, ?_⟩
    exact h
theorem k_Tape_readRule_77 {d bc bs : Nat} {l1 : Int32} {M : Mem} {Φ : Option Value → Mem → Prop} (hF : Fx M) (h : ((mi M 43 2) = (-1) → (1 ≤ bc ∧ 2 ≤ bs) ∧ (sh (wi M 43 1 (nI 0))).length < 1048576 ∧ (1 ≤ bc - 1 ∧ 160 ≤ bs - 2) ∧ Con d m_Arrays_copyOfRange 1 160 [.ref 45, .int (nI 0), .int l1] (nw (wi M 43 1 (nI 0)) 7 2) (PR fun r1 M1 => Fx M1 ∧ (r1 = none → (1 ≤ bc - 1 - 1 ∧ 160 ≤ bs - 2 - 160) ∧ Con d m_Arrays_copyOfRange 1 160 [.ref 45, .int l1, .int (mi M1 43 9)] M1 (PR fun r3 M2 => Fx M2 ∧ (r3 = none → Con d m_Rule_init 0 0 [.ref ((sh (wi M 43 1 (nI 0))).length), .null, .null] M2 (PV fun M3 => Fx M3 ∧ Φ (some (rv (some ((sh (wi M 43 1 (nI 0))).length)))) M3)) ∧ (∀ a4 : Nat, r3 = some a4 → Con d m_Rule_init 0 0 [.ref ((sh (wi M 43 1 (nI 0))).length), .null, .ref a4] M2 (PV fun M4 => Fx M4 ∧ Φ (some (rv (some ((sh (wi M 43 1 (nI 0))).length)))) M4)))) ∧ (∀ a2 : Nat, r1 = some a2 → (1 ≤ bc - 1 - 1 ∧ 160 ≤ bs - 2 - 160) ∧ Con d m_Arrays_copyOfRange 1 160 [.ref 45, .int l1, .int (mi M1 43 9)] M1 (PR fun r5 M5 => Fx M5 ∧ (r5 = none → Con d m_Rule_init 0 0 [.ref ((sh (wi M 43 1 (nI 0))).length), .ref a2, .null] M5 (PV fun M6 => Fx M6 ∧ Φ (some (rv (some ((sh (wi M 43 1 (nI 0))).length)))) M6)) ∧ (∀ a6 : Nat, r5 = some a6 → Con d m_Rule_init 0 0 [.ref ((sh (wi M 43 1 (nI 0))).length), .ref a2, .ref a6] M5 (PV fun M7 => Fx M7 ∧ Φ (some (rv (some ((sh (wi M 43 1 (nI 0))).length)))) M7)))))) ∧ (¬ (mi M 43 2) = (-1) → Φ (some (rv none)) (wi M 43 1 (nI 0)))) : Ex (d + 1) m_Tape_readRule bc bs 77 [some (.ref 43), some (.int l1)] [] M Φ := by
  refine ex_aload_n (pc := 77) (k := 0) (by decide +kernel) rfl ?_
  refine ex_iconst (pc := 78) (k := 0) (v := nI 0) (by decide +kernel) (by decide) ?_
  refine ex_putI (pc := 79) (index := 15) (ci := 9) (k := 1) (fin := false) (by decide +kernel) ⟨_, _, _, _, cf_Tape, by decide, in_t1 (i := 107) rfl rfl, rfl, (fun h => by cases h), rfl, rfl⟩ rfl (fun h => by cases h) (hF.s (j := 43) rfl) ?_
  refine ex_aload_n (pc := 82) (k := 0) (by decide +kernel) rfl ?_
  refine ey_getI (pc := 83) (v := mi M 43 2) (by decide +kernel) lf_Tape_19 (hF.s (j := 43) rfl) rfl ?_
  refine ex_iconst (pc := 86) (k := -1) (v := -1) (by decide +kernel) (by decide) ?_
  refine ex_icmp_eq (pc := 87) (off := 5) (tgt := 92) (by decide +kernel) (by decide) (fun hc => ?_) (fun hc => ?_)
  · replace h := h.1 hc
    obtain ⟨g1, g2, h⟩ := h
    refine ex_new (pc := 92) (by decide +kernel) (in_t2 (i := 194) rfl rfl) (in_t2 (i := 195) rfl rfl) (in_t1 (i := 14) rfl rfl) cf_Rule udv_Rule g1 g2 ?_
    refine ex_dup (pc := 95) (by decide +kernel) rfl ?_
    refine ex_aload_n (pc := 96) (k := 0) (by decide +kernel) rfl ?_
    refine ex_getR (pc := 97) (a := 45) (by decide +kernel) lf_Tape_37 ((Fx.fnw (M := (wi M 43 1 (nI 0))) hF 7 2).s (j := 43) rfl) ((Fx.fnw (M := (wi M 43 1 (nI 0))) hF 7 2).r (j := 43) (k := 8) rfl rfl) ?_
    refine ex_iconst (pc := 100) (k := 0) (v := nI 0) (by decide +kernel) (by decide) ?_
    refine ex_iload_n (pc := 101) (k := 1) (by decide +kernel) rfl ?_
    obtain ⟨g3, h⟩ := h
    refine ex_callS (pc := 102) (as := [.ref 45, .int (nI 0), .int l1]) (by decide +kernel) F_Arrays_copyOfRange (in_t2 (i := 196) rfl rfl) rfl rfl (Nat.le_of_ble_eq_true rfl) (Nat.lt_succ_self _) g3 (KC_R (Con.mono h ?_))
    intro o M1 ⟨r1, e9, hF1, h⟩
    refine ⟨r1, e9, ?_⟩
    cases r1 with
    | none =>
      replace h := h.1 rfl
      show Ex _ _ _ _ _ _ (Value.null :: _) _ _
      refine ex_aload_n (pc := 105) (k := 0) (by decide +kernel) rfl ?_
      refine ex_getR (pc := 106) (a := 45) (by decide +kernel) lf_Tape_37 (hF1.s (j := 43) rfl) (hF1.r (j := 43) (k := 8) rfl rfl) ?_
      refine ex_iload_n (pc := 109) (k := 1) (by decide +kernel) rfl ?_
      refine ex_aload_n (pc := 110) (k := 0) (by decide +kernel) rfl ?_
      refine ey_getI (pc := 111) (v := mi M1 43 9) (by decide +kernel) lf_Tape_40 (hF1.s (j := 43) rfl) rfl ?_
      obtain ⟨g4, h⟩ := h
      refine ex_callS (pc := 114) (as := [.ref 45, .int l1, .int (mi M1 43 9)]) (by decide +kernel) F_Arrays_copyOfRange (in_t2 (i := 196) rfl rfl) rfl rfl (Nat.le_of_ble_eq_true rfl) (Nat.lt_succ_self _) g4 (KC_R (Con.mono h ?_))
      intro o M2 ⟨r3, e9, hF2, h⟩
      refine ⟨r3, e9, ?_⟩
      cases r3 with
      | none =>
        replace h := h.1 rfl
        show Ex _ _ _ _ _ _ (Value.null :: _) _ _
        refine ex_callI (pc := 117) (as := [.null, .null]) (by decide +kernel) F_Rule_init (in_t2 (i := 218) rfl rfl) rfl rfl rfl (Nat.le_of_ble_eq_true rfl) (Nat.lt_succ_self _) ⟨Nat.zero_le _, Nat.zero_le _⟩ (KC_V (Con.mono h ?_))
        intro o M3 ⟨e9, hF3, h⟩
        refine ⟨e9, ?_⟩
        exact ex_areturn (pc := 120) (by decide +kernel) rfl (Or.inl ⟨_, rfl⟩) h
      | some a4 =>
        replace h := h.2 a4 rfl
        show Ex _ _ _ _ _ _ (Value.ref a4 :: _) _ _
        refine ex_callI (pc := 117) (as := [.null, .ref a4]) (by decide +kernel) F_Rule_init (in_t2 (i := 218) rfl rfl) rfl rfl rfl (Nat.le_of_ble_eq_true rfl) (Nat.lt_succ_self _) ⟨Nat.zero_le _, Nat.zero_le _⟩ (KC_V (Con.mono h ?_))
        intro o M4 ⟨e9, hF4, h⟩
        refine ⟨e9, ?_⟩
        exact ex_areturn (pc := 120) (by decide +kernel) rfl (Or.inl ⟨_, rfl⟩) h
    | some a2 =>
      replace h := h.2 a2 rfl
      show Ex _ _ _ _ _ _ (Value.ref a2 :: _) _ _
      refine ex_aload_n (pc := 105) (k := 0) (by decide +kernel) rfl ?_
      refine ex_getR (pc := 106) (a := 45) (by decide +kernel) lf_Tape_37 (hF1.s (j := 43) rfl) (hF1.r (j := 43) (k := 8) rfl rfl) ?_
      refine ex_iload_n (pc := 109) (k := 1) (by decide +kernel) rfl ?_
      refine ex_aload_n (pc := 110) (k := 0) (by decide +kernel) rfl ?_
      refine ey_getI (pc := 111) (v := mi M1 43 9) (by decide +kernel) lf_Tape_40 (hF1.s (j := 43) rfl) rfl ?_
      obtain ⟨g5, h⟩ := h
      refine ex_callS (pc := 114) (as := [.ref 45, .int l1, .int (mi M1 43 9)]) (by decide +kernel) F_Arrays_copyOfRange (in_t2 (i := 196) rfl rfl) rfl rfl (Nat.le_of_ble_eq_true rfl) (Nat.lt_succ_self _) g5 (KC_R (Con.mono h ?_))
      intro o M5 ⟨r5, e9, hF5, h⟩
      refine ⟨r5, e9, ?_⟩
      cases r5 with
      | none =>
        replace h := h.1 rfl
        show Ex _ _ _ _ _ _ (Value.null :: _) _ _
        refine ex_callI (pc := 117) (as := [.ref a2, .null]) (by decide +kernel) F_Rule_init (in_t2 (i := 218) rfl rfl) rfl rfl rfl (Nat.le_of_ble_eq_true rfl) (Nat.lt_succ_self _) ⟨Nat.zero_le _, Nat.zero_le _⟩ (KC_V (Con.mono h ?_))
        intro o M6 ⟨e9, hF6, h⟩
        refine ⟨e9, ?_⟩
        exact ex_areturn (pc := 120) (by decide +kernel) rfl (Or.inl ⟨_, rfl⟩) h
      | some a6 =>
        replace h := h.2 a6 rfl
        show Ex _ _ _ _ _ _ (Value.ref a6 :: _) _ _
        refine ex_callI (pc := 117) (as := [.ref a2, .ref a6]) (by decide +kernel) F_Rule_init (in_t2 (i := 218) rfl rfl) rfl rfl rfl (Nat.le_of_ble_eq_true rfl) (Nat.lt_succ_self _) ⟨Nat.zero_le _, Nat.zero_le _⟩ (KC_V (Con.mono h ?_))
        intro o M7 ⟨e9, hF7, h⟩
        refine ⟨e9, ?_⟩
        exact ex_areturn (pc := 120) (by decide +kernel) rfl (Or.inl ⟨_, rfl⟩) h
  · replace h := h.2 hc
    refine ex_null (pc := 90) (by decide +kernel) ?_
    exact ex_areturnN (pc := 91) (by decide +kernel) rfl (Or.inl ⟨_, rfl⟩) h
theorem k_Tape_readEither_0 {d bc bs : Nat}  {M : Mem} {Φ : Option Value → Mem → Prop} (hF : Fx M) (h : Con d m_Tape_readBoth 0 0 [.ref 43] M (PV fun M1 => Fx M1 ∧ Ex (d + 1) m_Tape_readEither bc bs 6 [some (.ref 43), some (.int (nI 0))] [] M1 Φ)) : Ex (d + 1) m_Tape_readEither bc bs 0 [some (.ref 43), none] [] M Φ := by
  refine ex_aload_n (pc := 0) (k := 0) (by decide +kernel) rfl ?_
  refine ex_callV (pc := 1) (as := []) (by decide +kernel) F_Tape_readBoth (in_t2 (i := 166) rfl rfl) (hF.s (j := 43) rfl) rfl (by decide) rfl rfl (Nat.le_of_ble_eq_true rfl) (Nat.lt_succ_self _) ⟨Nat.zero_le _, Nat.zero_le _⟩ (KC_V (Con.mono h ?_))
  intro o M1 ⟨e9, hF1, h⟩
  refine ⟨e9, ?_⟩
  refine ex_iconst (pc := 4) (k := 0) (v := nI 0) (by decide +kernel) (by decide) ?_
  refine ex_istore_n (pc := 5) (k := 1) (lo2 := [some (.ref 43), some (.int (nI 0))]) (by decide +kernel) (by decide) rfl ?_
  exact h
theorem k_Tape_readEither_6 {d bc bs : Nat} {l1 : Int32} {M : Mem} {Φ : Option Value → Mem → Prop} (hF : Fx M) (h : ((nI 160) ≤ l1 → Φ none M) ∧ (¬ (nI 160) ≤ l1 → (¬ (mi M 43 5) = (-7) → Φ none M) ∧ ((mi M 43 5) = (-7) → Con d m_Tape_advance 0 0 [.ref 43] M (PV fun M1 => Fx M1 ∧ Con d m_Tape_readBoth 0 0 [.ref 43] M1 (PV fun M2 => Fx M2 ∧ Con d m_Tape_write 0 0 [.ref 43, .int (-7)] M2 (PV fun M3 => Fx M3 ∧ Ex (d + 1) m_Tape_readEither bc bs 6 [some (.ref 43), some (.int (l1 + nI 1))] [] M3 Φ)))))) : Ex (d + 1) m_Tape_readEither bc bs 6 [some (.ref 43), some (.int l1)] [] M Φ := by
  refine ex_iload_n (pc := 6) (k := 1) (by decide +kernel) rfl ?_
  refine ex_sipush (pc := 7) (k := 160) (v := nI 160) (by decide +kernel) (by decide) ?_
  refine ex_icmp_ge (pc := 10) (off := 32) (tgt := 42) (by decide +kernel) (by decide) (fun hc => ?_) (fun hc => ?_)
  · replace h := h.1 hc
    exact ex_return (pc := 42) (by decide +kernel) rfl h
  · replace h := h.2 hc
    refine ex_aload_n (pc := 13) (k := 0) (by decide +kernel) rfl ?_
    refine ey_getI (pc := 14) (v := mi M 43 5) (by decide +kernel) lf_Tape_28 (hF.s (j := 43) rfl) rfl ?_
    refine ex_bipush (pc := 17) (k := -7) (v := -7) (by decide +kernel) (by decide) ?_
    refine ex_icmp_ne (pc := 19) (off := 23) (tgt := 42) (by decide +kernel) (by decide) (fun hc => ?_) (fun hc => ?_)
    · replace h := h.1 hc
      exact ex_return (pc := 42) (by decide +kernel) rfl h
    · replace h := h.2 hc
      refine ex_aload_n (pc := 22) (k := 0) (by decide +kernel) rfl ?_
      refine ex_callV (pc := 23) (as := []) (by decide +kernel) F_Tape_advance (in_t2 (i := 116) rfl rfl) (hF.s (j := 43) rfl) rfl (by decide) rfl rfl (Nat.le_of_ble_eq_true rfl) (Nat.lt_succ_self _) ⟨Nat.zero_le _, Nat.zero_le _⟩ (KC_V (Con.mono h ?_))
      intro o M1 ⟨e9, hF1, h⟩
      refine ⟨e9, ?_⟩
      refine ex_aload_n (pc := 26) (k := 0) (by decide +kernel) rfl ?_
      refine ex_callV (pc := 27) (as := []) (by decide +kernel) F_Tape_readBoth (in_t2 (i := 166) rfl rfl) (hF1.s (j := 43) rfl) rfl (by decide) rfl rfl (Nat.le_of_ble_eq_true rfl) (Nat.lt_succ_self _) ⟨Nat.zero_le _, Nat.zero_le _⟩ (KC_V (Con.mono h ?_))
      intro o M2 ⟨e9, hF2, h⟩
      refine ⟨e9, ?_⟩
      refine ex_aload_n (pc := 30) (k := 0) (by decide +kernel) rfl ?_
      refine ex_bipush (pc := 31) (k := -7) (v := -7) (by decide +kernel) (by decide) ?_
      refine ex_callV (pc := 33) (as := [.int (-7)]) (by decide +kernel) F_Tape_write (in_t2 (i := 178) rfl rfl) (hF2.s (j := 43) rfl) rfl (by decide) rfl rfl (Nat.le_of_ble_eq_true rfl) (Nat.lt_succ_self _) ⟨Nat.zero_le _, Nat.zero_le _⟩ (KC_V (Con.mono h ?_))
      intro o M3 ⟨e9, hF3, h⟩
      refine ⟨e9, ?_⟩
      refine ex_iinc (pc := 36) (i := 1) (k := 1) (v := l1 + nI 1) (lo2 := [some (.ref 43), some (.int (l1 + nI 1))]) (by decide +kernel) (by decide) rfl rfl rfl ?_
      refine ex_goto (pc := 39) (off := -33) (tgt := 6) (by decide +kernel) (by decide) ?_
      exact h
theorem k_Tape_readBoth_0 {d bc bs : Nat}  {M : Mem} {Φ : Option Value → Mem → Prop} (hF : Fx M) (h : Con d m_Tape_readNot 0 0 [.ref 43] M (PV fun M1 => Fx M1 ∧ Ex (d + 1) m_Tape_readBoth bc bs 6 [some (.ref 43), some (.int (nI 0))] [] M1 Φ)) : Ex (d + 1) m_Tape_readBoth bc bs 0 [some (.ref 43), none] [] M Φ := by
  refine ex_aload_n (pc := 0) (k := 0) (by decide +kernel) rfl ?_
  refine ex_callV (pc := 1) (as := []) (by decide +kernel) F_Tape_readNot (in_t2 (i := 170) rfl rfl) (hF.s (j := 43) rfl) rfl (by decide) rfl rfl (Nat.le_of_ble_eq_true rfl) (Nat.lt_succ_self _) ⟨Nat.zero_le _, Nat.zero_le _⟩ (KC_V (Con.mono h ?_))
  intro o M1 ⟨e9, hF1, h⟩
  refine ⟨e9, ?_⟩
  refine ex_iconst (pc := 4) (k := 0) (v := nI 0) (by decide +kernel) (by decide) ?_
  refine ex_istore_n (pc := 5) (k := 1) (lo2 := [some (.ref 43), some (.int (nI 0))]) (by decide +kernel) (by decide) rfl ?_
  exact h
theorem k_Tape_readBoth_6 {d bc bs : Nat} {l1 : Int32} {M : Mem} {Φ : Option Value → Mem → Prop} (hF : Fx M) (h : ((nI 160) ≤ l1 → Φ none M) ∧ (¬ (nI 160) ≤ l1 → (¬ (mi M 43 5) = (-8) → Φ none M) ∧ ((mi M 43 5) = (-8) → Con d m_Tape_advance 0 0 [.ref 43] M (PV fun M1 => Fx M1 ∧ Con d m_Tape_readNot 0 0 [.ref 43] M1 (PV fun M2 => Fx M2 ∧ Con d m_Tape_write 0 0 [.ref 43, .int (-8)] M2 (PV fun M3 => Fx M3 ∧ Ex (d + 1) m_Tape_readBoth bc bs 6 [some (.ref 43), some (.int (l1 + nI 1))] [] M3 Φ)))))) : Ex (d + 1) m_Tape_readBoth bc bs 6 [some (.ref 43), some (.int l1)] [] M Φ := by
  refine ex_iload_n (pc := 6) (k := 1) (by decide +kernel) rfl ?_
  refine ex_sipush (pc := 7) (k := 160) (v := nI 160) (by decide +kernel) (by decide) ?_
  refine ex_icmp_ge (pc := 10) (off := 32) (tgt := 42) (by decide +kernel) (by decide) (fun hc => ?_) (fun hc => ?_)
  · replace h := h.1 hc
    exact ex_return (pc := 42) (by decide +kernel) rfl h
  · replace h := h.2 hc
    refine ex_aload_n (pc := 13) (k := 0) (by decide +kernel) rfl ?_
    refine ey_getI (pc := 14) (v := mi M 43 5) (by decide +kernel) lf_Tape_28 (hF.s (j := 43) rfl) rfl ?_
    refine ex_bipush (pc := 17) (k := -8) (v := -8) (by decide +kernel) (by decide) ?_
    refine ex_icmp_ne (pc := 19) (off := 23) (tgt := 42) (by decide +kernel) (by decide) (fun hc => ?_) (fun hc => ?_)
    · replace h := h.1 hc
      exact ex_return (pc := 42) (by decide +kernel) rfl h
    · replace h := h.2 hc
      refine ex_aload_n (pc := 22) (k := 0) (by decide +kernel) rfl ?_
      refine ex_callV (pc := 23) (as := []) (by decide +kernel) F_Tape_advance (in_t2 (i := 116) rfl rfl) (hF.s (j := 43) rfl) rfl (by decide) rfl rfl (Nat.le_of_ble_eq_true rfl) (Nat.lt_succ_self _) ⟨Nat.zero_le _, Nat.zero_le _⟩ (KC_V (Con.mono h ?_))
      intro o M1 ⟨e9, hF1, h⟩
      refine ⟨e9, ?_⟩
      refine ex_aload_n (pc := 26) (k := 0) (by decide +kernel) rfl ?_
      refine ex_callV (pc := 27) (as := []) (by decide +kernel) F_Tape_readNot (in_t2 (i := 170) rfl rfl) (hF1.s (j := 43) rfl) rfl (by decide) rfl rfl (Nat.le_of_ble_eq_true rfl) (Nat.lt_succ_self _) ⟨Nat.zero_le _, Nat.zero_le _⟩ (KC_V (Con.mono h ?_))
      intro o M2 ⟨e9, hF2, h⟩
      refine ⟨e9, ?_⟩
      refine ex_aload_n (pc := 30) (k := 0) (by decide +kernel) rfl ?_
      refine ex_bipush (pc := 31) (k := -8) (v := -8) (by decide +kernel) (by decide) ?_
      refine ex_callV (pc := 33) (as := [.int (-8)]) (by decide +kernel) F_Tape_write (in_t2 (i := 178) rfl rfl) (hF2.s (j := 43) rfl) rfl (by decide) rfl rfl (Nat.le_of_ble_eq_true rfl) (Nat.lt_succ_self _) ⟨Nat.zero_le _, Nat.zero_le _⟩ (KC_V (Con.mono h ?_))
      intro o M3 ⟨e9, hF3, h⟩
      refine ⟨e9, ?_⟩
      refine ex_iinc (pc := 36) (i := 1) (k := 1) (v := l1 + nI 1) (lo2 := [some (.ref 43), some (.int (l1 + nI 1))]) (by decide +kernel) (by decide) rfl rfl rfl ?_
      refine ex_goto (pc := 39) (off := -33) (tgt := 6) (by decide +kernel) (by decide) ?_
      exact h
theorem k_Tape_readNot_0 {d bc bs : Nat}  {M : Mem} {Φ : Option Value → Mem → Prop} (hF : Fx M) (h : (¬ (mi M 43 5) = (-14) → Con d m_Tape_readSum 0 0 [.ref 43] M (PV fun M1 => Fx M1 ∧ ((mi M1 43 5) = (nI 60) → Ex (d + 1) m_Tape_readNot bc bs 63 [some (.ref 43), none] [] M1 Φ) ∧ (¬ (mi M1 43 5) = (nI 60) → (¬ (mi M1 43 5) = (nI 61) → Φ none M1) ∧ ((mi M1 43 5) = (nI 61) → Ex (d + 1) m_Tape_readNot bc bs 63 [some (.ref 43), none] [] M1 Φ)))) ∧ ((mi M 43 5) = (-14) → Con d m_Tape_opens 0 0 [.ref 43] M (PB fun r1 M2 => Fx M2 ∧ (r1 = false → Φ none M2) ∧ (r1 = true → Con d m_Tape_advance 0 0 [.ref 43] M2 (PV fun M3 => Fx M3 ∧ Con d m_Tape_readNot 0 0 [.ref 43] M3 (PV fun M4 => Fx M4 ∧ Con d m_Tape_write 0 0 [.ref 43, .int (-14)] (wi M4 43 7 ((mi M4 43 7) - (nI 1))) (PV fun M5 => Fx M5 ∧ Φ none M5))))))) : Ex (d + 1) m_Tape_readNot bc bs 0 [some (.ref 43), none] [] M Φ := by
  refine ex_aload_n (pc := 0) (k := 0) (by decide +kernel) rfl ?_
  refine ey_getI (pc := 1) (v := mi M 43 5) (by decide +kernel) lf_Tape_28 (hF.s (j := 43) rfl) rfl ?_
  refine ex_bipush (pc := 4) (k := -14) (v := -14) (by decide +kernel) (by decide) ?_
  refine ex_icmp_ne (pc := 6) (off := 35) (tgt := 41) (by decide +kernel) (by decide) (fun hc => ?_) (fun hc => ?_)
  · replace h := h.1 hc
    refine ex_aload_n (pc := 41) (k := 0) (by decide +kernel) rfl ?_
    refine ex_callV (pc := 42) (as := []) (by decide +kernel) F_Tape_readSum (in_t2 (i := 182) rfl rfl) (hF.s (j := 43) rfl) rfl (by decide) rfl rfl (Nat.le_of_ble_eq_true rfl) (Nat.lt_succ_self _) ⟨Nat.zero_le _, Nat.zero_le _⟩ (KC_V (Con.mono h ?_))
    intro o M1 ⟨e9, hF1, h⟩
    refine ⟨e9, ?_⟩
    refine ex_aload_n (pc := 45) (k := 0) (by decide +kernel) rfl ?_
    refine ey_getI (pc := 46) (v := mi M1 43 5) (by decide +kernel) lf_Tape_28 (hF1.s (j := 43) rfl) rfl ?_
    refine ex_bipush (pc := 49) (k := 60) (v := nI 60) (by decide +kernel) (by decide) ?_
    refine ex_icmp_eq (pc := 51) (off := 12) (tgt := 63) (by decide +kernel) (by decide) (fun hc => ?_) (fun hc => ?_)
    · replace h := h.1 hc
      exact h
    · replace h := h.2 hc
      refine ex_aload_n (pc := 54) (k := 0) (by decide +kernel) rfl ?_
      refine ey_getI (pc := 55) (v := mi M1 43 5) (by decide +kernel) lf_Tape_28 (hF1.s (j := 43) rfl) rfl ?_
      refine ex_bipush (pc := 58) (k := 61) (v := nI 61) (by decide +kernel) (by decide) ?_
      refine ex_icmp_ne (pc := 60) (off := 33) (tgt := 93) (by decide +kernel) (by decide) (fun hc => ?_) (fun hc => ?_)
      · replace h := h.1 hc
        exact ex_return (pc := 93) (by decide +kernel) rfl h
      · replace h := h.2 hc
        exact h
  · replace h := h.2 hc
    refine ex_aload_n (pc := 9) (k := 0) (by decide +kernel) rfl ?_
    refine ex_callV (pc := 10) (as := []) (by decide +kernel) F_Tape_opens (in_t2 (i := 174) rfl rfl) (hF.s (j := 43) rfl) rfl (by decide) rfl rfl (Nat.le_of_ble_eq_true rfl) (Nat.lt_succ_self _) ⟨Nat.zero_le _, Nat.zero_le _⟩ (KC_B (Con.mono h ?_))
    intro o M2 ⟨r1, e9, hF2, h⟩
    refine ⟨r1, e9, ?_⟩
    refine ey_ifeqB (pc := 13) (off := 27) (tgt := 40) (by decide +kernel) (by decide) (fun hc => ?_) (fun hc => ?_)
    · replace h := h.1 hc
      exact ex_return (pc := 40) (by decide +kernel) rfl h
    · replace h := h.2 hc
      refine ex_aload_n (pc := 16) (k := 0) (by decide +kernel) rfl ?_
      refine ex_callV (pc := 17) (as := []) (by decide +kernel) F_Tape_advance (in_t2 (i := 116) rfl rfl) (hF2.s (j := 43) rfl) rfl (by decide) rfl rfl (Nat.le_of_ble_eq_true rfl) (Nat.lt_succ_self _) ⟨Nat.zero_le _, Nat.zero_le _⟩ (KC_V (Con.mono h ?_))
      intro o M3 ⟨e9, hF3, h⟩
      refine ⟨e9, ?_⟩
      refine ex_aload_n (pc := 20) (k := 0) (by decide +kernel) rfl ?_
      refine ex_callV (pc := 21) (as := []) (by decide +kernel) F_Tape_readNot (in_t2 (i := 170) rfl rfl) (hF3.s (j := 43) rfl) rfl (by decide) rfl rfl (Nat.le_of_ble_eq_true rfl) (Nat.lt_succ_self _) ⟨Nat.zero_le _, Nat.zero_le _⟩ (KC_V (Con.mono h ?_))
      intro o M4 ⟨e9, hF4, h⟩
      refine ⟨e9, ?_⟩
      refine ex_aload_n (pc := 24) (k := 0) (by decide +kernel) rfl ?_
      refine ex_dup (pc := 25) (by decide +kernel) rfl ?_
      refine ey_getI (pc := 26) (v := mi M4 43 7) (by decide +kernel) lf_Tape_34 (hF4.s (j := 43) rfl) rfl ?_
      refine ex_iconst (pc := 29) (k := 1) (v := nI 1) (by decide +kernel) (by decide) ?_
      refine ex_isub (pc := 30) (by decide +kernel) ?_
      refine ex_putI (pc := 31) (index := 34) (ci := 9) (k := 7) (fin := false) (by decide +kernel) ⟨_, _, _, _, cf_Tape, by decide, in_t1 (i := 115) rfl rfl, rfl, (fun h => by cases h), rfl, rfl⟩ rfl (fun h => by cases h) (hF4.s (j := 43) rfl) ?_
      refine ex_aload_n (pc := 34) (k := 0) (by decide +kernel) rfl ?_
      refine ex_bipush (pc := 35) (k := -14) (v := -14) (by decide +kernel) (by decide) ?_
      refine ex_callV (pc := 37) (as := [.int (-14)]) (by decide +kernel) F_Tape_write (in_t2 (i := 178) rfl rfl) (hF4.s (j := 43) rfl) rfl (by decide) rfl rfl (Nat.le_of_ble_eq_true rfl) (Nat.lt_succ_self _) ⟨Nat.zero_le _, Nat.zero_le _⟩ (KC_V (Con.mono h ?_))
      intro o M5 ⟨e9, hF5, h⟩
      refine ⟨e9, ?_⟩
      exact ex_return (pc := 40) (by decide +kernel) rfl h
theorem k_Tape_readNot_63 {d bc bs : Nat}  {M : Mem} {Φ : Option Value → Mem → Prop} (hF : Fx M) (h : (¬ (mi M 43 5) = (nI 60) → Con d m_Tape_advance 0 0 [.ref 43] M (PV fun M1 => Fx M1 ∧ Con d m_Tape_readSum 0 0 [.ref 43] M1 (PV fun M2 => Fx M2 ∧ Con d m_Tape_write 0 0 [.ref 43, .int (-10)] M2 (PV fun M3 => Fx M3 ∧ Φ none M3)))) ∧ ((mi M 43 5) = (nI 60) → Con d m_Tape_advance 0 0 [.ref 43] M (PV fun M4 => Fx M4 ∧ Con d m_Tape_readSum 0 0 [.ref 43] M4 (PV fun M5 => Fx M5 ∧ Con d m_Tape_write 0 0 [.ref 43, .int (-9)] M5 (PV fun M6 => Fx M6 ∧ Φ none M6))))) : Ex (d + 1) m_Tape_readNot bc bs 63 [some (.ref 43), none] [] M Φ := by
  refine ex_aload_n (pc := 63) (k := 0) (by decide +kernel) rfl ?_
  refine ey_getI (pc := 64) (v := mi M 43 5) (by decide +kernel) lf_Tape_28 (hF.s (j := 43) rfl) rfl ?_
  refine ex_bipush (pc := 67) (k := 60) (v := nI 60) (by decide +kernel) (by decide) ?_
  refine ex_icmp_ne (pc := 69) (off := 8) (tgt := 77) (by decide +kernel) (by decide) (fun hc => ?_) (fun hc => ?_)
  · replace h := h.1 hc
    refine ex_bipush (pc := 77) (k := -10) (v := -10) (by decide +kernel) (by decide) ?_
    refine ex_istore_n (pc := 79) (k := 1) (lo2 := [some (.ref 43), some (.int (-10))]) (by decide +kernel) (by decide) rfl ?_
    refine ex_aload_n (pc := 80) (k := 0) (by decide +kernel) rfl ?_
    refine ex_callV (pc := 81) (as := []) (by decide +kernel) F_Tape_advance (in_t2 (i := 116) rfl rfl) (hF.s (j := 43) rfl) rfl (by decide) rfl rfl (Nat.le_of_ble_eq_true rfl) (Nat.lt_succ_self _) ⟨Nat.zero_le _, Nat.zero_le _⟩ (KC_V (Con.mono h ?_))
    intro o M1 ⟨e9, hF1, h⟩
    refine ⟨e9, ?_⟩
    refine ex_aload_n (pc := 84) (k := 0) (by decide +kernel) rfl ?_
    refine ex_callV (pc := 85) (as := []) (by decide +kernel) F_Tape_readSum (in_t2 (i := 182) rfl rfl) (hF1.s (j := 43) rfl) rfl (by decide) rfl rfl (Nat.le_of_ble_eq_true rfl) (Nat.lt_succ_self _) ⟨Nat.zero_le _, Nat.zero_le _⟩ (KC_V (Con.mono h ?_))
    intro o M2 ⟨e9, hF2, h⟩
    refine ⟨e9, ?_⟩
    refine ex_aload_n (pc := 88) (k := 0) (by decide +kernel) rfl ?_
    refine ex_iload_n (pc := 89) (k := 1) (by decide +kernel) rfl ?_
    refine ex_callV (pc := 90) (as := [.int (-10)]) (by decide +kernel) F_Tape_write (in_t2 (i := 178) rfl rfl) (hF2.s (j := 43) rfl) rfl (by decide) rfl rfl (Nat.le_of_ble_eq_true rfl) (Nat.lt_succ_self _) ⟨Nat.zero_le _, Nat.zero_le _⟩ (KC_V (Con.mono h ?_))
    intro o M3 ⟨e9, hF3, h⟩
    refine ⟨e9, ?_⟩
    exact ex_return (pc := 93) (by decide +kernel) rfl h
  · replace h := h.2 hc
    refine ex_bipush (pc := 72) (k := -9) (v := -9) (by decide +kernel) (by decide) ?_
    refine ex_goto (pc := 74) (off := 5) (tgt := 79) (by decide +kernel) (by decide) ?_
    refine ex_istore_n (pc := 79) (k := 1) (lo2 := [some (.ref 43), some (.int (-9))]) (by decide +kernel) (by decide) rfl ?_
    refine ex_aload_n (pc := 80) (k := 0) (by decide +kernel) rfl ?_
    refine ex_callV (pc := 81) (as := []) (by decide +kernel) F_Tape_advance (in_t2 (i := 116) rfl rfl) (hF.s (j := 43) rfl) rfl (by decide) rfl rfl (Nat.le_of_ble_eq_true rfl) (Nat.lt_succ_self _) ⟨Nat.zero_le _, Nat.zero_le _⟩ (KC_V (Con.mono h ?_))
    intro o M4 ⟨e9, hF4, h⟩
    refine ⟨e9, ?_⟩
    refine ex_aload_n (pc := 84) (k := 0) (by decide +kernel) rfl ?_
    refine ex_callV (pc := 85) (as := []) (by decide +kernel) F_Tape_readSum (in_t2 (i := 182) rfl rfl) (hF4.s (j := 43) rfl) rfl (by decide) rfl rfl (Nat.le_of_ble_eq_true rfl) (Nat.lt_succ_self _) ⟨Nat.zero_le _, Nat.zero_le _⟩ (KC_V (Con.mono h ?_))
    intro o M5 ⟨e9, hF5, h⟩
    refine ⟨e9, ?_⟩
    refine ex_aload_n (pc := 88) (k := 0) (by decide +kernel) rfl ?_
    refine ex_iload_n (pc := 89) (k := 1) (by decide +kernel) rfl ?_
    refine ex_callV (pc := 90) (as := [.int (-9)]) (by decide +kernel) F_Tape_write (in_t2 (i := 178) rfl rfl) (hF5.s (j := 43) rfl) rfl (by decide) rfl rfl (Nat.le_of_ble_eq_true rfl) (Nat.lt_succ_self _) ⟨Nat.zero_le _, Nat.zero_le _⟩ (KC_V (Con.mono h ?_))
    intro o M6 ⟨e9, hF6, h⟩
    refine ⟨e9, ?_⟩
    exact ex_return (pc := 93) (by decide +kernel) rfl h
theorem k_Tape_readSum_0 {d bc bs : Nat}  {M : Mem} {Φ : Option Value → Mem → Prop} (hF : Fx M) (h : Con d m_Tape_readTerm 0 0 [.ref 43] M (PV fun M1 => Fx M1 ∧ Ex (d + 1) m_Tape_readSum bc bs 6 [some (.ref 43), some (.int (nI 0)), none] [] M1 Φ)) : Ex (d + 1) m_Tape_readSum bc bs 0 [some (.ref 43), none, none] [] M Φ := by
  refine ex_aload_n (pc := 0) (k := 0) (by decide +kernel) rfl ?_
  refine ex_callV (pc := 1) (as := []) (by decide +kernel) F_Tape_readTerm (in_t2 (i := 186) rfl rfl) (hF.s (j := 43) rfl) rfl (by decide) rfl rfl (Nat.le_of_ble_eq_true rfl) (Nat.lt_succ_self _) ⟨Nat.zero_le _, Nat.zero_le _⟩ (KC_V (Con.mono h ?_))
  intro o M1 ⟨e9, hF1, h⟩
  refine ⟨e9, ?_⟩
  refine ex_iconst (pc := 4) (k := 0) (v := nI 0) (by decide +kernel) (by decide) ?_
  refine ex_istore_n (pc := 5) (k := 1) (lo2 := [some (.ref 43), some (.int (nI 0)), none]) (by decide +kernel) (by decide) rfl ?_
  exact h
theorem k_Tape_readSum_6 {d bc bs : Nat} {l1 : Int32} {M : Mem} {Φ : Option Value → Mem → Prop} (hF : Fx M) (h : ((nI 160) ≤ l1 → Φ none M) ∧ (¬ (nI 160) ≤ l1 → ((mi M 43 5) = (nI 43) → Ex (d + 1) m_Tape_readSum bc bs 31 [some (.ref 43), some (.int l1), none] [] M Φ) ∧ (¬ (mi M 43 5) = (nI 43) → (¬ (mi M 43 5) = (nI 45) → Φ none M) ∧ ((mi M 43 5) = (nI 45) → Ex (d + 1) m_Tape_readSum bc bs 31 [some (.ref 43), some (.int l1), none] [] M Φ)))) : Ex (d + 1) m_Tape_readSum bc bs 6 [some (.ref 43), some (.int l1), none] [] M Φ := by
  refine ex_iload_n (pc := 6) (k := 1) (by decide +kernel) rfl ?_
  refine ex_sipush (pc := 7) (k := 160) (v := nI 160) (by decide +kernel) (by decide) ?_
  refine ex_icmp_ge (pc := 10) (off := 57) (tgt := 67) (by decide +kernel) (by decide) (fun hc => ?_) (fun hc => ?_)
  · replace h := h.1 hc
    exact ex_return (pc := 67) (by decide +kernel) rfl h
  · replace h := h.2 hc
    refine ex_aload_n (pc := 13) (k := 0) (by decide +kernel) rfl ?_
    refine ey_getI (pc := 14) (v := mi M 43 5) (by decide +kernel) lf_Tape_28 (hF.s (j := 43) rfl) rfl ?_
    refine ex_bipush (pc := 17) (k := 43) (v := nI 43) (by decide +kernel) (by decide) ?_
    refine ex_icmp_eq (pc := 19) (off := 12) (tgt := 31) (by decide +kernel) (by decide) (fun hc => ?_) (fun hc => ?_)
    · replace h := h.1 hc
      exact h
    · replace h := h.2 hc
      refine ex_aload_n (pc := 22) (k := 0) (by decide +kernel) rfl ?_
      refine ey_getI (pc := 23) (v := mi M 43 5) (by decide +kernel) lf_Tape_28 (hF.s (j := 43) rfl) rfl ?_
      refine ex_bipush (pc := 26) (k := 45) (v := nI 45) (by decide +kernel) (by decide) ?_
      refine ex_icmp_ne (pc := 28) (off := 39) (tgt := 67) (by decide +kernel) (by decide) (fun hc => ?_) (fun hc => ?_)
      · replace h := h.1 hc
        exact ex_return (pc := 67) (by decide +kernel) rfl h
      · replace h := h.2 hc
        exact h
theorem k_Tape_readSum_31 {d bc bs : Nat} {l1 : Int32} {M : Mem} {Φ : Option Value → Mem → Prop} (hF : Fx M) (h : (¬ (mi M 43 5) = (nI 43) → Con d m_Tape_advance 0 0 [.ref 43] M (PV fun M1 => Fx M1 ∧ Con d m_Tape_readTerm 0 0 [.ref 43] M1 (PV fun M2 => Fx M2 ∧ Con d m_Tape_write 0 0 [.ref 43, .int (-12)] M2 (PV fun M3 => Fx M3 ∧ Ex (d + 1) m_Tape_readSum bc bs 6 [some (.ref 43), some (.int (l1 + nI 1)), none] [] M3 Φ)))) ∧ ((mi M 43 5) = (nI 43) → Con d m_Tape_advance 0 0 [.ref 43] M (PV fun M4 => Fx M4 ∧ Con d m_Tape_readTerm 0 0 [.ref 43] M4 (PV fun M5 => Fx M5 ∧ Con d m_Tape_write 0 0 [.ref 43, .int (-11)] M5 (PV fun M6 => Fx M6 ∧ Ex (d + 1) m_Tape_readSum bc bs 6 [some (.ref 43), some (.int (l1 + nI 1)), none] [] M6 Φ))))) : Ex (d + 1) m_Tape_readSum bc bs 31 [some (.ref 43), some (.int l1), none] [] M Φ := by
  refine ex_aload_n (pc := 31) (k := 0) (by decide +kernel) rfl ?_
  refine ey_getI (pc := 32) (v := mi M 43 5) (by decide +kernel) lf_Tape_28 (hF.s (j := 43) rfl) rfl ?_
  refine ex_bipush (pc := 35) (k := 43) (v := nI 43) (by decide +kernel) (by decide) ?_
  refine ex_icmp_ne (pc := 37) (off := 8) (tgt := 45) (by decide +kernel) (by decide) (fun hc => ?_) (fun hc => ?_)
  · replace h := h.1 hc
    refine ex_bipush (pc := 45) (k := -12) (v := -12) (by decide +kernel) (by decide) ?_
    refine ex_istore_n (pc := 47) (k := 2) (lo2 := [some (.ref 43), some (.int l1), some (.int (-12))]) (by decide +kernel) (by decide) rfl ?_
    refine ex_aload_n (pc := 48) (k := 0) (by decide +kernel) rfl ?_
    refine ex_callV (pc := 49) (as := []) (by decide +kernel) F_Tape_advance (in_t2 (i := 116) rfl rfl) (hF.s (j := 43) rfl) rfl (by decide) rfl rfl (Nat.le_of_ble_eq_true rfl) (Nat.lt_succ_self _) ⟨Nat.zero_le _, Nat.zero_le _⟩ (KC_V (Con.mono h ?_))
    intro o M1 ⟨e9, hF1, h⟩
    refine ⟨e9, ?_⟩
    refine ex_aload_n (pc := 52) (k := 0) (by decide +kernel) rfl ?_
    refine ex_callV (pc := 53) (as := []) (by decide +kernel) F_Tape_readTerm (in_t2 (i := 186) rfl rfl) (hF1.s (j := 43) rfl) rfl (by decide) rfl rfl (Nat.le_of_ble_eq_true rfl) (Nat.lt_succ_self _) ⟨Nat.zero_le _, Nat.zero_le _⟩ (KC_V (Con.mono h ?_))
    intro o M2 ⟨e9, hF2, h⟩
    refine ⟨e9, ?_⟩
    refine ex_aload_n (pc := 56) (k := 0) (by decide +kernel) rfl ?_
    refine ex_iload_n (pc := 57) (k := 2) (by decide +kernel) rfl ?_
    refine ex_callV (pc := 58) (as := [.int (-12)]) (by decide +kernel) F_Tape_write (in_t2 (i := 178) rfl rfl) (hF2.s (j := 43) rfl) rfl (by decide) rfl rfl (Nat.le_of_ble_eq_true rfl) (Nat.lt_succ_self _) ⟨Nat.zero_le _, Nat.zero_le _⟩ (KC_V (Con.mono h ?_))
    intro o M3 ⟨e9, hF3, h⟩
    refine ⟨e9, ?_⟩
    refine ex_iinc (pc := 61) (i := 1) (k := 1) (v := l1 + nI 1) (lo2 := [some (.ref 43), some (.int (l1 + nI 1)), some (.int (-12))]) (by decide +kernel) (by decide) rfl rfl rfl ?_
    refine ex_goto (pc := 64) (off := -58) (tgt := 6) (by decide +kernel) (by decide) ?_
    exact Ex.msk [true, true, false] h
  · replace h := h.2 hc
    refine ex_bipush (pc := 40) (k := -11) (v := -11) (by decide +kernel) (by decide) ?_
    refine ex_goto (pc := 42) (off := 5) (tgt := 47) (by decide +kernel) (by decide) ?_
    refine ex_istore_n (pc := 47) (k := 2) (lo2 := [some (.ref 43), some (.int l1), some (.int (-11))]) (by decide +kernel) (by decide) rfl ?_
    refine ex_aload_n (pc := 48) (k := 0) (by decide +kernel) rfl ?_
    refine ex_callV (pc := 49) (as := []) (by decide +kernel) F_Tape_advance (in_t2 (i := 116) rfl rfl) (hF.s (j := 43) rfl) rfl (by decide) rfl rfl (Nat.le_of_ble_eq_true rfl) (Nat.lt_succ_self _) ⟨Nat.zero_le _, Nat.zero_le _⟩ (KC_V (Con.mono h ?_))
    intro o M4 ⟨e9, hF4, h⟩
    refine ⟨e9, ?_⟩
    refine ex_aload_n (pc := 52) (k := 0) (by decide +kernel) rfl ?_
    refine ex_callV (pc := 53) (as := []) (by decide +kernel) F_Tape_readTerm (in_t2 (i := 186) rfl rfl) (hF4.s (j := 43) rfl) rfl (by decide) rfl rfl (Nat.le_of_ble_eq_true rfl) (Nat.lt_succ_self _) ⟨Nat.zero_le _, Nat.zero_le _⟩ (KC_V (Con.mono h ?_))
    intro o M5 ⟨e9, hF5, h⟩
    refine ⟨e9, ?_⟩
    refine ex_aload_n (pc := 56) (k := 0) (by decide +kernel) rfl ?_
    refine ex_iload_n (pc := 57) (k := 2) (by decide +kernel) rfl ?_
    refine ex_callV (pc := 58) (as := [.int (-11)]) (by decide +kernel) F_Tape_write (in_t2 (i := 178) rfl rfl) (hF5.s (j := 43) rfl) rfl (by decide) rfl rfl (Nat.le_of_ble_eq_true rfl) (Nat.lt_succ_self _) ⟨Nat.zero_le _, Nat.zero_le _⟩ (KC_V (Con.mono h ?_))
    intro o M6 ⟨e9, hF6, h⟩
    refine ⟨e9, ?_⟩
    refine ex_iinc (pc := 61) (i := 1) (k := 1) (v := l1 + nI 1) (lo2 := [some (.ref 43), some (.int (l1 + nI 1)), some (.int (-11))]) (by decide +kernel) (by decide) rfl rfl rfl ?_
    refine ex_goto (pc := 64) (off := -58) (tgt := 6) (by decide +kernel) (by decide) ?_
    exact Ex.msk [true, true, false] h
theorem k_Tape_readTerm_0 {d bc bs : Nat}  {M : Mem} {Φ : Option Value → Mem → Prop} (hF : Fx M) (h : Con d m_Tape_readOne 0 0 [.ref 43] M (PV fun M1 => Fx M1 ∧ Ex (d + 1) m_Tape_readTerm bc bs 6 [some (.ref 43), some (.int (nI 0))] [] M1 Φ)) : Ex (d + 1) m_Tape_readTerm bc bs 0 [some (.ref 43), none] [] M Φ := by
  refine ex_aload_n (pc := 0) (k := 0) (by decide +kernel) rfl ?_
  refine ex_callV (pc := 1) (as := []) (by decide +kernel) F_Tape_readOne (in_t2 (i := 190) rfl rfl) (hF.s (j := 43) rfl) rfl (by decide) rfl rfl (Nat.le_of_ble_eq_true rfl) (Nat.lt_succ_self _) ⟨Nat.zero_le _, Nat.zero_le _⟩ (KC_V (Con.mono h ?_))
  intro o M1 ⟨e9, hF1, h⟩
  refine ⟨e9, ?_⟩
  refine ex_iconst (pc := 4) (k := 0) (v := nI 0) (by decide +kernel) (by decide) ?_
  refine ex_istore_n (pc := 5) (k := 1) (lo2 := [some (.ref 43), some (.int (nI 0))]) (by decide +kernel) (by decide) rfl ?_
  exact h
theorem k_Tape_readTerm_6 {d bc bs : Nat} {l1 : Int32} {M : Mem} {Φ : Option Value → Mem → Prop} (hF : Fx M) (h : ((nI 160) ≤ l1 → Φ none M) ∧ (¬ (nI 160) ≤ l1 → (¬ (mi M 43 5) = (nI 42) → Φ none M) ∧ ((mi M 43 5) = (nI 42) → Con d m_Tape_advance 0 0 [.ref 43] M (PV fun M1 => Fx M1 ∧ Con d m_Tape_readOne 0 0 [.ref 43] M1 (PV fun M2 => Fx M2 ∧ Con d m_Tape_write 0 0 [.ref 43, .int (-13)] M2 (PV fun M3 => Fx M3 ∧ Ex (d + 1) m_Tape_readTerm bc bs 6 [some (.ref 43), some (.int (l1 + nI 1))] [] M3 Φ)))))) : Ex (d + 1) m_Tape_readTerm bc bs 6 [some (.ref 43), some (.int l1)] [] M Φ := by
  refine ex_iload_n (pc := 6) (k := 1) (by decide +kernel) rfl ?_
  refine ex_sipush (pc := 7) (k := 160) (v := nI 160) (by decide +kernel) (by decide) ?_
  refine ex_icmp_ge (pc := 10) (off := 32) (tgt := 42) (by decide +kernel) (by decide) (fun hc => ?_) (fun hc => ?_)
  · replace h := h.1 hc
    exact ex_return (pc := 42) (by decide +kernel) rfl h
  · replace h := h.2 hc
    refine ex_aload_n (pc := 13) (k := 0) (by decide +kernel) rfl ?_
    refine ey_getI (pc := 14) (v := mi M 43 5) (by decide +kernel) lf_Tape_28 (hF.s (j := 43) rfl) rfl ?_
    refine ex_bipush (pc := 17) (k := 42) (v := nI 42) (by decide +kernel) (by decide) ?_
    refine ex_icmp_ne (pc := 19) (off := 23) (tgt := 42) (by decide +kernel) (by decide) (fun hc => ?_) (fun hc => ?_)
    · replace h := h.1 hc
      exact ex_return (pc := 42) (by decide +kernel) rfl h
    · replace h := h.2 hc
      refine ex_aload_n (pc := 22) (k := 0) (by decide +kernel) rfl ?_
      refine ex_callV (pc := 23) (as := []) (by decide +kernel) F_Tape_advance (in_t2 (i := 116) rfl rfl) (hF.s (j := 43) rfl) rfl (by decide) rfl rfl (Nat.le_of_ble_eq_true rfl) (Nat.lt_succ_self _) ⟨Nat.zero_le _, Nat.zero_le _⟩ (KC_V (Con.mono h ?_))
      intro o M1 ⟨e9, hF1, h⟩
      refine ⟨e9, ?_⟩
      refine ex_aload_n (pc := 26) (k := 0) (by decide +kernel) rfl ?_
      refine ex_callV (pc := 27) (as := []) (by decide +kernel) F_Tape_readOne (in_t2 (i := 190) rfl rfl) (hF1.s (j := 43) rfl) rfl (by decide) rfl rfl (Nat.le_of_ble_eq_true rfl) (Nat.lt_succ_self _) ⟨Nat.zero_le _, Nat.zero_le _⟩ (KC_V (Con.mono h ?_))
      intro o M2 ⟨e9, hF2, h⟩
      refine ⟨e9, ?_⟩
      refine ex_aload_n (pc := 30) (k := 0) (by decide +kernel) rfl ?_
      refine ex_bipush (pc := 31) (k := -13) (v := -13) (by decide +kernel) (by decide) ?_
      refine ex_callV (pc := 33) (as := [.int (-13)]) (by decide +kernel) F_Tape_write (in_t2 (i := 178) rfl rfl) (hF2.s (j := 43) rfl) rfl (by decide) rfl rfl (Nat.le_of_ble_eq_true rfl) (Nat.lt_succ_self _) ⟨Nat.zero_le _, Nat.zero_le _⟩ (KC_V (Con.mono h ?_))
      intro o M3 ⟨e9, hF3, h⟩
      refine ⟨e9, ?_⟩
      refine ex_iinc (pc := 36) (i := 1) (k := 1) (v := l1 + nI 1) (lo2 := [some (.ref 43), some (.int (l1 + nI 1))]) (by decide +kernel) (by decide) rfl rfl rfl ?_
      refine ex_goto (pc := 39) (off := -33) (tgt := 6) (by decide +kernel) (by decide) ?_
      exact h
theorem k_Tape_readOne_0 {d bc bs : Nat}  {M : Mem} {Φ : Option Value → Mem → Prop} (hF : Fx M) (h : (¬ (mi M 43 5) = (nI 258) → ((-1) < (mi M 43 5) → Ex (d + 1) m_Tape_readOne bc bs 57 [some (.ref 43)] [] M Φ) ∧ (¬ (-1) < (mi M 43 5) → ((mi M 43 5) < (-6) → Ex (d + 1) m_Tape_readOne bc bs 57 [some (.ref 43)] [] M Φ) ∧ (¬ (mi M 43 5) < (-6) → Con d m_Tape_write 0 0 [.ref 43, .int (mi M 43 5)] M (PV fun M1 => Fx M1 ∧ Con d m_Tape_advance 0 0 [.ref 43] M1 (PV fun M2 => Fx M2 ∧ Φ none M2))))) ∧ ((mi M 43 5) = (nI 258) → Con d m_Tape_write 0 0 [.ref 43, .int (mi M 43 6)] M (PV fun M3 => Fx M3 ∧ Con d m_Tape_advance 0 0 [.ref 43] M3 (PV fun M4 => Fx M4 ∧ Φ none M4)))) : Ex (d + 1) m_Tape_readOne bc bs 0 [some (.ref 43)] [] M Φ := by
  refine ex_aload_n (pc := 0) (k := 0) (by decide +kernel) rfl ?_
  refine ey_getI (pc := 1) (v := mi M 43 5) (by decide +kernel) lf_Tape_28 (hF.s (j := 43) rfl) rfl ?_
  refine ex_sipush (pc := 4) (k := 258) (v := nI 258) (by decide +kernel) (by decide) ?_
  refine ex_icmp_ne (pc := 7) (off := 18) (tgt := 25) (by decide +kernel) (by decide) (fun hc => ?_) (fun hc => ?_)
  · replace h := h.1 hc
    refine ex_aload_n (pc := 25) (k := 0) (by decide +kernel) rfl ?_
    refine ey_getI (pc := 26) (v := mi M 43 5) (by decide +kernel) lf_Tape_28 (hF.s (j := 43) rfl) rfl ?_
    refine ex_iconst (pc := 29) (k := -1) (v := -1) (by decide +kernel) (by decide) ?_
    refine ex_icmp_gt (pc := 30) (off := 27) (tgt := 57) (by decide +kernel) (by decide) (fun hc => ?_) (fun hc => ?_)
    · replace h := h.1 hc
      exact h
    · replace h := h.2 hc
      refine ex_aload_n (pc := 33) (k := 0) (by decide +kernel) rfl ?_
      refine ey_getI (pc := 34) (v := mi M 43 5) (by decide +kernel) lf_Tape_28 (hF.s (j := 43) rfl) rfl ?_
      refine ex_bipush (pc := 37) (k := -6) (v := -6) (by decide +kernel) (by decide) ?_
      refine ex_icmp_lt (pc := 39) (off := 18) (tgt := 57) (by decide +kernel) (by decide) (fun hc => ?_) (fun hc => ?_)
      · replace h := h.1 hc
        exact h
      · replace h := h.2 hc
        refine ex_aload_n (pc := 42) (k := 0) (by decide +kernel) rfl ?_
        refine ex_aload_n (pc := 43) (k := 0) (by decide +kernel) rfl ?_
        refine ey_getI (pc := 44) (v := mi M 43 5) (by decide +kernel) lf_Tape_28 (hF.s (j := 43) rfl) rfl ?_
        refine ex_callV (pc := 47) (as := [.int (mi M 43 5)]) (by decide +kernel) F_Tape_write (in_t2 (i := 178) rfl rfl) (hF.s (j := 43) rfl) rfl (by decide) rfl rfl (Nat.le_of_ble_eq_true rfl) (Nat.lt_succ_self _) ⟨Nat.zero_le _, Nat.zero_le _⟩ (KC_V (Con.mono h ?_))
        intro o M1 ⟨e9, hF1, h⟩
        refine ⟨e9, ?_⟩
        refine ex_aload_n (pc := 50) (k := 0) (by decide +kernel) rfl ?_
        refine ex_callV (pc := 51) (as := []) (by decide +kernel) F_Tape_advance (in_t2 (i := 116) rfl rfl) (hF1.s (j := 43) rfl) rfl (by decide) rfl rfl (Nat.le_of_ble_eq_true rfl) (Nat.lt_succ_self _) ⟨Nat.zero_le _, Nat.zero_le _⟩ (KC_V (Con.mono h ?_))
        intro o M2 ⟨e9, hF2, h⟩
        refine ⟨e9, ?_⟩
        refine ex_goto (pc := 54) (off := 93) (tgt := 147) (by decide +kernel) (by decide) ?_
        exact ex_return (pc := 147) (by decide +kernel) rfl h
  · replace h := h.2 hc
    refine ex_aload_n (pc := 10) (k := 0) (by decide +kernel) rfl ?_
    refine ex_aload_n (pc := 11) (k := 0) (by decide +kernel) rfl ?_
    refine ey_getI (pc := 12) (v := mi M 43 6) (by decide +kernel) lf_Tape_31 (hF.s (j := 43) rfl) rfl ?_
    refine ex_callV (pc := 15) (as := [.int (mi M 43 6)]) (by decide +kernel) F_Tape_write (in_t2 (i := 178) rfl rfl) (hF.s (j := 43) rfl) rfl (by decide) rfl rfl (Nat.le_of_ble_eq_true rfl) (Nat.lt_succ_self _) ⟨Nat.zero_le _, Nat.zero_le _⟩ (KC_V (Con.mono h ?_))
    intro o M3 ⟨e9, hF3, h⟩
    refine ⟨e9, ?_⟩
    refine ex_aload_n (pc := 18) (k := 0) (by decide +kernel) rfl ?_
    refine ex_callV (pc := 19) (as := []) (by decide +kernel) F_Tape_advance (in_t2 (i := 116) rfl rfl) (hF3.s (j := 43) rfl) rfl (by decide) rfl rfl (Nat.le_of_ble_eq_true rfl) (Nat.lt_succ_self _) ⟨Nat.zero_le _, Nat.zero_le _⟩ (KC_V (Con.mono h ?_))
    intro o M4 ⟨e9, hF4, h⟩
    refine ⟨e9, ?_⟩
    refine ex_goto (pc := 22) (off := 125) (tgt := 147) (by decide +kernel) (by decide) ?_
    exact ex_return (pc := 147) (by decide +kernel) rfl h
theorem k_Tape_readOne_57 {d bc bs : Nat}  {M : Mem} {Φ : Option Value → Mem → Prop} (hF : Fx M) (h : (¬ (mi M 43 5) = (nI 45) → Ex (d + 1) m_Tape_readOne bc bs 100 [some (.ref 43)] [] M Φ) ∧ ((mi M 43 5) = (nI 45) → Con d m_Tape_opens 0 0 [.ref 43] M (PB fun r1 M1 => Fx M1 ∧ (r1 = false → Ex (d + 1) m_Tape_readOne bc bs 100 [some (.ref 43)] [] M1 Φ) ∧ (r1 = true → Con d m_Tape_advance 0 0 [.ref 43] M1 (PV fun M2 => Fx M2 ∧ Con d m_Tape_readOne 0 0 [.ref 43] M2 (PV fun M3 => Fx M3 ∧ Con d m_Tape_write 0 0 [.ref 43, .int (-15)] (wi M3 43 7 ((mi M3 43 7) - (nI 1))) (PV fun M4 => Fx M4 ∧ Φ none M4))))))) : Ex (d + 1) m_Tape_readOne bc bs 57 [some (.ref 43)] [] M Φ := by
  refine ex_aload_n (pc := 57) (k := 0) (by decide +kernel) rfl ?_
  refine ey_getI (pc := 58) (v := mi M 43 5) (by decide +kernel) lf_Tape_28 (hF.s (j := 43) rfl) rfl ?_
  refine ex_bipush (pc := 61) (k := 45) (v := nI 45) (by decide +kernel) (by decide) ?_
  refine ex_icmp_ne (pc := 63) (off := 37) (tgt := 100) (by decide +kernel) (by decide) (fun hc => ?_) (fun hc => ?_)
  · replace h := h.1 hc
    exact h
  · replace h := h.2 hc
    refine ex_aload_n (pc := 66) (k := 0) (by decide +kernel) rfl ?_
    refine ex_callV (pc := 67) (as := []) (by decide +kernel) F_Tape_opens (in_t2 (i := 174) rfl rfl) (hF.s (j := 43) rfl) rfl (by decide) rfl rfl (Nat.le_of_ble_eq_true rfl) (Nat.lt_succ_self _) ⟨Nat.zero_le _, Nat.zero_le _⟩ (KC_B (Con.mono h ?_))
    intro o M1 ⟨r1, e9, hF1, h⟩
    refine ⟨r1, e9, ?_⟩
    refine ey_ifeqB (pc := 70) (off := 30) (tgt := 100) (by decide +kernel) (by decide) (fun hc => ?_) (fun hc => ?_)
    · replace h := h.1 hc
      exact h
    · replace h := h.2 hc
      refine ex_aload_n (pc := 73) (k := 0) (by decide +kernel) rfl ?_
      refine ex_callV (pc := 74) (as := []) (by decide +kernel) F_Tape_advance (in_t2 (i := 116) rfl rfl) (hF1.s (j := 43) rfl) rfl (by decide) rfl rfl (Nat.le_of_ble_eq_true rfl) (Nat.lt_succ_self _) ⟨Nat.zero_le _, Nat.zero_le _⟩ (KC_V (Con.mono h ?_))
      intro o M2 ⟨e9, hF2, h⟩
      refine ⟨e9, ?_⟩
      refine ex_aload_n (pc := 77) (k := 0) (by decide +kernel) rfl ?_
      refine ex_callV (pc := 78) (as := []) (by decide +kernel) F_Tape_readOne (in_t2 (i := 190) rfl rfl) (hF2.s (j := 43) rfl) rfl (by decide) rfl rfl (Nat.le_of_ble_eq_true rfl) (Nat.lt_succ_self _) ⟨Nat.zero_le _, Nat.zero_le _⟩ (KC_V (Con.mono h ?_))
      intro o M3 ⟨e9, hF3, h⟩
      refine ⟨e9, ?_⟩
      refine ex_aload_n (pc := 81) (k := 0) (by decide +kernel) rfl ?_
      refine ex_dup (pc := 82) (by decide +kernel) rfl ?_
      refine ey_getI (pc := 83) (v := mi M3 43 7) (by decide +kernel) lf_Tape_34 (hF3.s (j := 43) rfl) rfl ?_
      refine ex_iconst (pc := 86) (k := 1) (v := nI 1) (by decide +kernel) (by decide) ?_
      refine ex_isub (pc := 87) (by decide +kernel) ?_
      refine ex_putI (pc := 88) (index := 34) (ci := 9) (k := 7) (fin := false) (by decide +kernel) ⟨_, _, _, _, cf_Tape, by decide, in_t1 (i := 115) rfl rfl, rfl, (fun h => by cases h), rfl, rfl⟩ rfl (fun h => by cases h) (hF3.s (j := 43) rfl) ?_
      refine ex_aload_n (pc := 91) (k := 0) (by decide +kernel) rfl ?_
      refine ex_bipush (pc := 92) (k := -15) (v := -15) (by decide +kernel) (by decide) ?_
      refine ex_callV (pc := 94) (as := [.int (-15)]) (by decide +kernel) F_Tape_write (in_t2 (i := 178) rfl rfl) (hF3.s (j := 43) rfl) rfl (by decide) rfl rfl (Nat.le_of_ble_eq_true rfl) (Nat.lt_succ_self _) ⟨Nat.zero_le _, Nat.zero_le _⟩ (KC_V (Con.mono h ?_))
      intro o M4 ⟨e9, hF4, h⟩
      refine ⟨e9, ?_⟩
      refine ex_goto (pc := 97) (off := 50) (tgt := 147) (by decide +kernel) (by decide) ?_
      exact ex_return (pc := 147) (by decide +kernel) rfl h
theorem k_Tape_readOne_100 {d bc bs : Nat}  {M : Mem} {Φ : Option Value → Mem → Prop} (hF : Fx M) (h : (¬ (mi M 43 5) = (nI 40) → Ex (d + 1) m_Tape_readOne bc bs 143 [some (.ref 43)] [] M Φ) ∧ ((mi M 43 5) = (nI 40) → Con d m_Tape_opens 0 0 [.ref 43] M (PB fun r1 M1 => Fx M1 ∧ (r1 = false → Ex (d + 1) m_Tape_readOne bc bs 143 [some (.ref 43)] [] M1 Φ) ∧ (r1 = true → Con d m_Tape_advance 0 0 [.ref 43] M1 (PV fun M2 => Fx M2 ∧ Con d m_Tape_readEither 0 0 [.ref 43] M2 (PV fun M3 => Fx M3 ∧ Con d m_Tape_expect 0 0 [.ref 43, .int (nI 41)] M3 (PV fun M4 => Fx M4 ∧ Φ none (wi M4 43 7 ((mi M4 43 7) - (nI 1)))))))))) : Ex (d + 1) m_Tape_readOne bc bs 100 [some (.ref 43)] [] M Φ := by
  refine ex_aload_n (pc := 100) (k := 0) (by decide +kernel) rfl ?_
  refine ey_getI (pc := 101) (v := mi M 43 5) (by decide +kernel) lf_Tape_28 (hF.s (j := 43) rfl) rfl ?_
  refine ex_bipush (pc := 104) (k := 40) (v := nI 40) (by decide +kernel) (by decide) ?_
  refine ex_icmp_ne (pc := 106) (off := 37) (tgt := 143) (by decide +kernel) (by decide) (fun hc => ?_) (fun hc => ?_)
  · replace h := h.1 hc
    exact h
  · replace h := h.2 hc
    refine ex_aload_n (pc := 109) (k := 0) (by decide +kernel) rfl ?_
    refine ex_callV (pc := 110) (as := []) (by decide +kernel) F_Tape_opens (in_t2 (i := 174) rfl rfl) (hF.s (j := 43) rfl) rfl (by decide) rfl rfl (Nat.le_of_ble_eq_true rfl) (Nat.lt_succ_self _) ⟨Nat.zero_le _, Nat.zero_le _⟩ (KC_B (Con.mono h ?_))
    intro o M1 ⟨r1, e9, hF1, h⟩
    refine ⟨r1, e9, ?_⟩
    refine ey_ifeqB (pc := 113) (off := 30) (tgt := 143) (by decide +kernel) (by decide) (fun hc => ?_) (fun hc => ?_)
    · replace h := h.1 hc
      exact h
    · replace h := h.2 hc
      refine ex_aload_n (pc := 116) (k := 0) (by decide +kernel) rfl ?_
      refine ex_callV (pc := 117) (as := []) (by decide +kernel) F_Tape_advance (in_t2 (i := 116) rfl rfl) (hF1.s (j := 43) rfl) rfl (by decide) rfl rfl (Nat.le_of_ble_eq_true rfl) (Nat.lt_succ_self _) ⟨Nat.zero_le _, Nat.zero_le _⟩ (KC_V (Con.mono h ?_))
      intro o M2 ⟨e9, hF2, h⟩
      refine ⟨e9, ?_⟩
      refine ex_aload_n (pc := 120) (k := 0) (by decide +kernel) rfl ?_
      refine ex_callV (pc := 121) (as := []) (by decide +kernel) F_Tape_readEither (in_t2 (i := 162) rfl rfl) (hF2.s (j := 43) rfl) rfl (by decide) rfl rfl (Nat.le_of_ble_eq_true rfl) (Nat.lt_succ_self _) ⟨Nat.zero_le _, Nat.zero_le _⟩ (KC_V (Con.mono h ?_))
      intro o M3 ⟨e9, hF3, h⟩
      refine ⟨e9, ?_⟩
      refine ex_aload_n (pc := 124) (k := 0) (by decide +kernel) rfl ?_
      refine ex_bipush (pc := 125) (k := 41) (v := nI 41) (by decide +kernel) (by decide) ?_
      refine ex_callV (pc := 127) (as := [.int (nI 41)]) (by decide +kernel) F_Tape_expect (in_t2 (i := 154) rfl rfl) (hF3.s (j := 43) rfl) rfl (by decide) rfl rfl (Nat.le_of_ble_eq_true rfl) (Nat.lt_succ_self _) ⟨Nat.zero_le _, Nat.zero_le _⟩ (KC_V (Con.mono h ?_))
      intro o M4 ⟨e9, hF4, h⟩
      refine ⟨e9, ?_⟩
      refine ex_aload_n (pc := 130) (k := 0) (by decide +kernel) rfl ?_
      refine ex_dup (pc := 131) (by decide +kernel) rfl ?_
      refine ey_getI (pc := 132) (v := mi M4 43 7) (by decide +kernel) lf_Tape_34 (hF4.s (j := 43) rfl) rfl ?_
      refine ex_iconst (pc := 135) (k := 1) (v := nI 1) (by decide +kernel) (by decide) ?_
      refine ex_isub (pc := 136) (by decide +kernel) ?_
      refine ex_putI (pc := 137) (index := 34) (ci := 9) (k := 7) (fin := false) (by decide +kernel) ⟨_, _, _, _, cf_Tape, by decide, in_t1 (i := 115) rfl rfl, rfl, (fun h => by cases h), rfl, rfl⟩ rfl (fun h => by cases h) (hF4.s (j := 43) rfl) ?_
      refine ex_goto (pc := 140) (off := 7) (tgt := 147) (by decide +kernel) (by decide) ?_
      exact ex_return (pc := 147) (by decide +kernel) rfl h
theorem k_Tape_readOne_143 {d bc bs : Nat}  {M : Mem} {Φ : Option Value → Mem → Prop} (hF : Fx M) (h : Con d m_Tape_fail 0 0 [.ref 43] M (PV fun M1 => Fx M1 ∧ Φ none M1)) : Ex (d + 1) m_Tape_readOne bc bs 143 [some (.ref 43)] [] M Φ := by
  refine ex_aload_n (pc := 143) (k := 0) (by decide +kernel) rfl ?_
  refine ex_callV (pc := 144) (as := []) (by decide +kernel) F_Tape_fail (in_t2 (i := 158) rfl rfl) (hF.s (j := 43) rfl) rfl (by decide) rfl rfl (Nat.le_of_ble_eq_true rfl) (Nat.lt_succ_self _) ⟨Nat.zero_le _, Nat.zero_le _⟩ (KC_V (Con.mono h ?_))
  intro o M1 ⟨e9, hF1, h⟩
  refine ⟨e9, ?_⟩
  exact ex_return (pc := 147) (by decide +kernel) rfl h
theorem k_Tape_opens_0 {d bc bs : Nat}  {M : Mem} {Φ : Option Value → Mem → Prop} (hF : Fx M) (h : ((mi M 43 7) < (nI 5) → Φ (some (.int (b2i true))) (wi M 43 7 ((mi M 43 7) + (nI 1)))) ∧ (¬ (mi M 43 7) < (nI 5) → Con d m_Tape_fail 0 0 [.ref 43] M (PV fun M1 => Fx M1 ∧ Φ (some (.int (b2i false))) M1))) : Ex (d + 1) m_Tape_opens bc bs 0 [some (.ref 43)] [] M Φ := by
  refine ex_aload_n (pc := 0) (k := 0) (by decide +kernel) rfl ?_
  refine ey_getI (pc := 1) (v := mi M 43 7) (by decide +kernel) lf_Tape_34 (hF.s (j := 43) rfl) rfl ?_
  refine ex_iconst (pc := 4) (k := 5) (v := nI 5) (by decide +kernel) (by decide) ?_
  refine ex_icmp_lt (pc := 5) (off := 9) (tgt := 14) (by decide +kernel) (by decide) (fun hc => ?_) (fun hc => ?_)
  · replace h := h.1 hc
    refine ex_aload_n (pc := 14) (k := 0) (by decide +kernel) rfl ?_
    refine ex_dup (pc := 15) (by decide +kernel) rfl ?_
    refine ey_getI (pc := 16) (v := mi M 43 7) (by decide +kernel) lf_Tape_34 (hF.s (j := 43) rfl) rfl ?_
    refine ex_iconst (pc := 19) (k := 1) (v := nI 1) (by decide +kernel) (by decide) ?_
    refine ex_iadd (pc := 20) (by decide +kernel) ?_
    refine ex_putI (pc := 21) (index := 34) (ci := 9) (k := 7) (fin := false) (by decide +kernel) ⟨_, _, _, _, cf_Tape, by decide, in_t1 (i := 115) rfl rfl, rfl, (fun h => by cases h), rfl, rfl⟩ rfl (fun h => by cases h) (hF.s (j := 43) rfl) ?_
    refine ex_iconst (pc := 24) (k := 1) (v := nI 1) (by decide +kernel) (by decide) ?_
    exact ex_ireturn (pc := 25) (v := b2i true) (by decide +kernel) rfl (b2i_n _) h
  · replace h := h.2 hc
    refine ex_aload_n (pc := 8) (k := 0) (by decide +kernel) rfl ?_
    refine ex_callV (pc := 9) (as := []) (by decide +kernel) F_Tape_fail (in_t2 (i := 158) rfl rfl) (hF.s (j := 43) rfl) rfl (by decide) rfl rfl (Nat.le_of_ble_eq_true rfl) (Nat.lt_succ_self _) ⟨Nat.zero_le _, Nat.zero_le _⟩ (KC_V (Con.mono h ?_))
    intro o M1 ⟨e9, hF1, h⟩
    refine ⟨e9, ?_⟩
    refine ex_iconst (pc := 12) (k := 0) (v := nI 0) (by decide +kernel) (by decide) ?_
    exact ex_ireturn (pc := 13) (v := b2i false) (by decide +kernel) rfl (b2i_n _) h
theorem k_Tape_expect_0 {d bc bs : Nat} {l1 : Int32} {M : Mem} {Φ : Option Value → Mem → Prop} (hF : Fx M) (h : (¬ (mi M 43 5) = l1 → Con d m_Tape_fail 0 0 [.ref 43] M (PV fun M1 => Fx M1 ∧ Φ none M1)) ∧ ((mi M 43 5) = l1 → Con d m_Tape_advance 0 0 [.ref 43] M (PV fun M2 => Fx M2 ∧ Φ none M2))) : Ex (d + 1) m_Tape_expect bc bs 0 [some (.ref 43), some (.int l1)] [] M Φ := by
  refine ex_aload_n (pc := 0) (k := 0) (by decide +kernel) rfl ?_
  refine ey_getI (pc := 1) (v := mi M 43 5) (by decide +kernel) lf_Tape_28 (hF.s (j := 43) rfl) rfl ?_
  refine ex_iload_n (pc := 4) (k := 1) (by decide +kernel) rfl ?_
  refine ex_icmp_ne (pc := 5) (off := 10) (tgt := 15) (by decide +kernel) (by decide) (fun hc => ?_) (fun hc => ?_)
  · replace h := h.1 hc
    refine ex_aload_n (pc := 15) (k := 0) (by decide +kernel) rfl ?_
    refine ex_callV (pc := 16) (as := []) (by decide +kernel) F_Tape_fail (in_t2 (i := 158) rfl rfl) (hF.s (j := 43) rfl) rfl (by decide) rfl rfl (Nat.le_of_ble_eq_true rfl) (Nat.lt_succ_self _) ⟨Nat.zero_le _, Nat.zero_le _⟩ (KC_V (Con.mono h ?_))
    intro o M1 ⟨e9, hF1, h⟩
    refine ⟨e9, ?_⟩
    exact ex_return (pc := 19) (by decide +kernel) rfl h
  · replace h := h.2 hc
    refine ex_aload_n (pc := 8) (k := 0) (by decide +kernel) rfl ?_
    refine ex_callV (pc := 9) (as := []) (by decide +kernel) F_Tape_advance (in_t2 (i := 116) rfl rfl) (hF.s (j := 43) rfl) rfl (by decide) rfl rfl (Nat.le_of_ble_eq_true rfl) (Nat.lt_succ_self _) ⟨Nat.zero_le _, Nat.zero_le _⟩ (KC_V (Con.mono h ?_))
    intro o M2 ⟨e9, hF2, h⟩
    refine ⟨e9, ?_⟩
    refine ex_goto (pc := 12) (off := 7) (tgt := 19) (by decide +kernel) (by decide) ?_
    exact ex_return (pc := 19) (by decide +kernel) rfl h
theorem k_Tape_fail_0 {d bc bs : Nat}  {M : Mem} {Φ : Option Value → Mem → Prop} (hF : Fx M) (h : (¬ (mi M 43 2) = (-1) → Φ none (wi M 43 5 (nI 257))) ∧ ((mi M 43 2) = (-1) → Φ none (wi (wi M 43 2 (mi M 43 4)) 43 5 (nI 257)))) : Ex (d + 1) m_Tape_fail bc bs 0 [some (.ref 43)] [] M Φ := by
  refine ex_aload_n (pc := 0) (k := 0) (by decide +kernel) rfl ?_
  refine ey_getI (pc := 1) (v := mi M 43 2) (by decide +kernel) lf_Tape_19 (hF.s (j := 43) rfl) rfl ?_
  refine ex_iconst (pc := 4) (k := -1) (v := -1) (by decide +kernel) (by decide) ?_
  refine ex_icmp_ne (pc := 5) (off := 11) (tgt := 16) (by decide +kernel) (by decide) (fun hc => ?_) (fun hc => ?_)
  · replace h := h.1 hc
    refine ex_aload_n (pc := 16) (k := 0) (by decide +kernel) rfl ?_
    refine ex_sipush (pc := 17) (k := 257) (v := nI 257) (by decide +kernel) (by decide) ?_
    refine ex_putI (pc := 20) (index := 28) (ci := 9) (k := 5) (fin := false) (by decide +kernel) ⟨_, _, _, _, cf_Tape, by decide, in_t1 (i := 113) rfl rfl, rfl, (fun h => by cases h), rfl, rfl⟩ rfl (fun h => by cases h) (hF.s (j := 43) rfl) ?_
    exact ex_return (pc := 23) (by decide +kernel) rfl h
  · replace h := h.2 hc
    refine ex_aload_n (pc := 8) (k := 0) (by decide +kernel) rfl ?_
    refine ex_aload_n (pc := 9) (k := 0) (by decide +kernel) rfl ?_
    refine ey_getI (pc := 10) (v := mi M 43 4) (by decide +kernel) lf_Tape_25 (hF.s (j := 43) rfl) rfl ?_
    refine ex_putI (pc := 13) (index := 19) (ci := 9) (k := 2) (fin := false) (by decide +kernel) ⟨_, _, _, _, cf_Tape, by decide, in_t1 (i := 109) rfl rfl, rfl, (fun h => by cases h), rfl, rfl⟩ rfl (fun h => by cases h) (hF.s (j := 43) rfl) ?_
    refine ex_aload_n (pc := 16) (k := 0) (by decide +kernel) rfl ?_
    refine ex_sipush (pc := 17) (k := 257) (v := nI 257) (by decide +kernel) (by decide) ?_
    refine ex_putI (pc := 20) (index := 28) (ci := 9) (k := 5) (fin := false) (by decide +kernel) ⟨_, _, _, _, cf_Tape, by decide, in_t1 (i := 113) rfl rfl, rfl, (fun h => by cases h), rfl, rfl⟩ rfl (fun h => by cases h) (hF.s (j := 43) rfl) ?_
    exact ex_return (pc := 23) (by decide +kernel) rfl h
theorem k_Tape_write_0 {d bc bs : Nat} {l1 : Int32} {M : Mem} {Φ : Option Value → Mem → Prop} (hF : Fx M) (h : ((nI 160) ≤ (mi M 43 9) → Φ none M) ∧ (¬ (nI 160) ≤ (mi M 43 9) → vp_in (mi M 43 9) 160 ∧ Φ none (wi (wi M 45 ((mi M 43 9).toNatClampNeg) l1) 43 9 ((mi M 43 9) + (nI 1))))) : Ex (d + 1) m_Tape_write bc bs 0 [some (.ref 43), some (.int l1)] [] M Φ := by
  refine ex_aload_n (pc := 0) (k := 0) (by decide +kernel) rfl ?_
  refine ey_getI (pc := 1) (v := mi M 43 9) (by decide +kernel) lf_Tape_40 (hF.s (j := 43) rfl) rfl ?_
  refine ex_sipush (pc := 4) (k := 160) (v := nI 160) (by decide +kernel) (by decide) ?_
  refine ex_icmp_ge (pc := 7) (off := 23) (tgt := 30) (by decide +kernel) (by decide) (fun hc => ?_) (fun hc => ?_)
  · replace h := h.1 hc
    exact ex_return (pc := 30) (by decide +kernel) rfl h
  · replace h := h.2 hc
    refine ex_aload_n (pc := 10) (k := 0) (by decide +kernel) rfl ?_
    refine ex_getR (pc := 11) (a := 45) (by decide +kernel) lf_Tape_37 (hF.s (j := 43) rfl) (hF.r (j := 43) (k := 8) rfl rfl) ?_
    refine ex_aload_n (pc := 14) (k := 0) (by decide +kernel) rfl ?_
    refine ey_getI (pc := 15) (v := mi M 43 9) (by decide +kernel) lf_Tape_40 (hF.s (j := 43) rfl) rfl ?_
    refine ex_iload_n (pc := 18) (k := 1) (by decide +kernel) rfl ?_
    obtain ⟨g1, h⟩ := h
    refine ey_iast (pc := 19) (by decide +kernel) (hF.s (j := 45) rfl) g1 rfl ?_
    refine ex_aload_n (pc := 20) (k := 0) (by decide +kernel) rfl ?_
    refine ex_dup (pc := 21) (by decide +kernel) rfl ?_
    refine ey_getI (pc := 22) (v := mi M 43 9) (by decide +kernel) lf_Tape_40 (hF.s (j := 43) rfl) rfl ?_
    refine ex_iconst (pc := 25) (k := 1) (v := nI 1) (by decide +kernel) (by decide) ?_
    refine ex_iadd (pc := 26) (by decide +kernel) ?_
    refine ex_putI (pc := 27) (index := 40) (ci := 9) (k := 9) (fin := false) (by decide +kernel) ⟨_, _, _, _, cf_Tape, by decide, in_t1 (i := 117) rfl rfl, rfl, (fun h => by cases h), rfl, rfl⟩ rfl (fun h => by cases h) (hF.s (j := 43) rfl) ?_
    exact ex_return (pc := 30) (by decide +kernel) rfl h
theorem k_Tape_advance_0 {d bc bs : Nat}  {M : Mem} {Φ : Option Value → Mem → Prop} (hF : Fx M) (h : ((mi M 43 1) ≤ (mi M 43 3) → Ex (d + 1) m_Tape_advance bc bs 52 [some (.ref 43)] [] M Φ) ∧ (¬ (mi M 43 1) ≤ (mi M 43 3) → vp_in (mi M 43 3) 160 ∧ ((mi M 44 ((mi M 43 3).toNatClampNeg)) = (nI 32) → Ex (d + 1) m_Tape_advance bc bs 39 [some (.ref 43)] [] M Φ) ∧ (¬ (mi M 44 ((mi M 43 3).toNatClampNeg)) = (nI 32) → vp_in (mi M 43 3) 160 ∧ (¬ (mi M 44 ((mi M 43 3).toNatClampNeg)) = (nI 10) → Ex (d + 1) m_Tape_advance bc bs 52 [some (.ref 43)] [] M Φ) ∧ ((mi M 44 ((mi M 43 3).toNatClampNeg)) = (nI 10) → Ex (d + 1) m_Tape_advance bc bs 39 [some (.ref 43)] [] M Φ)))) : Ex (d + 1) m_Tape_advance bc bs 0 [some (.ref 43)] [] M Φ := by
  refine ex_aload_n (pc := 0) (k := 0) (by decide +kernel) rfl ?_
  refine ey_getI (pc := 1) (v := mi M 43 3) (by decide +kernel) lf_Tape_22 (hF.s (j := 43) rfl) rfl ?_
  refine ex_aload_n (pc := 4) (k := 0) (by decide +kernel) rfl ?_
  refine ey_getI (pc := 5) (v := mi M 43 1) (by decide +kernel) lf_Tape_15 (hF.s (j := 43) rfl) rfl ?_
  refine ex_icmp_ge (pc := 8) (off := 44) (tgt := 52) (by decide +kernel) (by decide) (fun hc => ?_) (fun hc => ?_)
  · replace h := h.1 hc
    exact h
  · replace h := h.2 hc
    refine ex_aload_n (pc := 11) (k := 0) (by decide +kernel) rfl ?_
    refine ex_getR (pc := 12) (a := 44) (by decide +kernel) lf_Tape_9 (hF.s (j := 43) rfl) (hF.r (j := 43) (k := 0) rfl rfl) ?_
    refine ex_aload_n (pc := 15) (k := 0) (by decide +kernel) rfl ?_
    refine ey_getI (pc := 16) (v := mi M 43 3) (by decide +kernel) lf_Tape_22 (hF.s (j := 43) rfl) rfl ?_
    obtain ⟨g1, h⟩ := h
    refine ey_iald (pc := 19) (v := mi M 44 ((mi M 43 3).toNatClampNeg)) (by decide +kernel) (hF.s (j := 44) rfl) g1 rfl rfl ?_
    refine ex_bipush (pc := 20) (k := 32) (v := nI 32) (by decide +kernel) (by decide) ?_
    refine ex_icmp_eq (pc := 22) (off := 17) (tgt := 39) (by decide +kernel) (by decide) (fun hc => ?_) (fun hc => ?_)
    · replace h := h.1 hc
      exact h
    · replace h := h.2 hc
      refine ex_aload_n (pc := 25) (k := 0) (by decide +kernel) rfl ?_
      refine ex_getR (pc := 26) (a := 44) (by decide +kernel) lf_Tape_9 (hF.s (j := 43) rfl) (hF.r (j := 43) (k := 0) rfl rfl) ?_
      refine ex_aload_n (pc := 29) (k := 0) (by decide +kernel) rfl ?_
      refine ey_getI (pc := 30) (v := mi M 43 3) (by decide +kernel) lf_Tape_22 (hF.s (j := 43) rfl) rfl ?_
      obtain ⟨g2, h⟩ := h
      refine ey_iald (pc := 33) (v := mi M 44 ((mi M 43 3).toNatClampNeg)) (by decide +kernel) (hF.s (j := 44) rfl) g2 rfl rfl ?_
      refine ex_bipush (pc := 34) (k := 10) (v := nI 10) (by decide +kernel) (by decide) ?_
      refine ex_icmp_ne (pc := 36) (off := 16) (tgt := 52) (by decide +kernel) (by decide) (fun hc => ?_) (fun hc => ?_)
      · replace h := h.1 hc
        exact h
      · replace h := h.2 hc
        exact h
theorem k_Tape_advance_39 {d bc bs : Nat}  {M : Mem} {Φ : Option Value → Mem → Prop} (hF : Fx M) (h : Ex (d + 1) m_Tape_advance bc bs 0 [some (.ref 43)] [] (wi M 43 3 ((mi M 43 3) + (nI 1))) Φ) : Ex (d + 1) m_Tape_advance bc bs 39 [some (.ref 43)] [] M Φ := by
  refine ex_aload_n (pc := 39) (k := 0) (by decide +kernel) rfl ?_
  refine ex_dup (pc := 40) (by decide +kernel) rfl ?_
  refine ey_getI (pc := 41) (v := mi M 43 3) (by decide +kernel) lf_Tape_22 (hF.s (j := 43) rfl) rfl ?_
  refine ex_iconst (pc := 44) (k := 1) (v := nI 1) (by decide +kernel) (by decide) ?_
  refine ex_iadd (pc := 45) (by decide +kernel) ?_
  refine ex_putI (pc := 46) (index := 22) (ci := 9) (k := 3) (fin := false) (by decide +kernel) ⟨_, _, _, _, cf_Tape, by decide, in_t1 (i := 111) rfl rfl, rfl, (fun h => by cases h), rfl, rfl⟩ rfl (fun h => by cases h) (hF.s (j := 43) rfl) ?_
  refine ex_goto (pc := 49) (off := -49) (tgt := 0) (by decide +kernel) (by decide) ?_
  exact h
theorem k_Tape_advance_52 {d bc bs : Nat}  {M : Mem} {Φ : Option Value → Mem → Prop} (hF : Fx M) (h : ((mi M 43 3) < (mi M 43 1) → vp_in (mi M 43 3) 160 ∧ Con d m_Tape_isLetter 0 0 [.int (mi M 44 ((mi M 43 3).toNatClampNeg))] (wi M 43 4 (mi M 43 3)) (PB fun r1 M1 => Fx M1 ∧ (r1 = false → vp_in (mi M1 43 3) 160 ∧ Con d m_Tape_isDigit 0 0 [.int (mi M1 44 ((mi M1 43 3).toNatClampNeg))] M1 (PB fun r2 M2 => Fx M2 ∧ (r2 = false → vp_in (mi M2 43 3) 160 ∧ Con d m_Tape_isSign 0 0 [.int (mi M2 44 ((mi M2 43 3).toNatClampNeg))] M2 (PB fun r3 M3 => Fx M3 ∧ (r3 = false → Φ none (wi (wi M3 43 5 (nI 257)) 43 3 ((mi M3 43 3) + (nI 1)))) ∧ (r3 = true → vp_in (mi M3 43 3) 160 ∧ Φ none (wi (wi M3 43 5 (mi M3 44 ((mi M3 43 3).toNatClampNeg))) 43 3 ((mi M3 43 3) + (nI 1)))))) ∧ (r2 = true → Con d m_Tape_readNumber 0 0 [.ref 43] M2 (PV fun M4 => Fx M4 ∧ Φ none M4)))) ∧ (r1 = true → Con d m_Tape_readWord 0 0 [.ref 43] M1 (PV fun M5 => Fx M5 ∧ Φ none M5)))) ∧ (¬ (mi M 43 3) < (mi M 43 1) → Φ none (wi (wi M 43 4 (mi M 43 3)) 43 5 (nI 256)))) : Ex (d + 1) m_Tape_advance bc bs 52 [some (.ref 43)] [] M Φ := by
  refine ex_aload_n (pc := 52) (k := 0) (by decide +kernel) rfl ?_
  refine ex_aload_n (pc := 53) (k := 0) (by decide +kernel) rfl ?_
  refine ey_getI (pc := 54) (v := mi M 43 3) (by decide +kernel) lf_Tape_22 (hF.s (j := 43) rfl) rfl ?_
  refine ex_putI (pc := 57) (index := 25) (ci := 9) (k := 4) (fin := false) (by decide +kernel) ⟨_, _, _, _, cf_Tape, by decide, in_t1 (i := 112) rfl rfl, rfl, (fun h => by cases h), rfl, rfl⟩ rfl (fun h => by cases h) (hF.s (j := 43) rfl) ?_
  refine ex_aload_n (pc := 60) (k := 0) (by decide +kernel) rfl ?_
  refine ey_getI (pc := 61) (v := mi M 43 3) (by decide +kernel) lf_Tape_22 (hF.s (j := 43) rfl) rfl ?_
  refine ex_aload_n (pc := 64) (k := 0) (by decide +kernel) rfl ?_
  refine ey_getI (pc := 65) (v := mi M 43 1) (by decide +kernel) lf_Tape_15 (hF.s (j := 43) rfl) rfl ?_
  refine ex_icmp_lt (pc := 68) (off := 13) (tgt := 81) (by decide +kernel) (by decide) (fun hc => ?_) (fun hc => ?_)
  · replace h := h.1 hc
    refine ex_aload_n (pc := 81) (k := 0) (by decide +kernel) rfl ?_
    refine ex_getR (pc := 82) (a := 44) (by decide +kernel) lf_Tape_9 (hF.s (j := 43) rfl) (hF.r (j := 43) (k := 0) rfl rfl) ?_
    refine ex_aload_n (pc := 85) (k := 0) (by decide +kernel) rfl ?_
    refine ey_getI (pc := 86) (v := mi M 43 3) (by decide +kernel) lf_Tape_22 (hF.s (j := 43) rfl) rfl ?_
    obtain ⟨g1, h⟩ := h
    refine ey_iald (pc := 89) (v := mi M 44 ((mi M 43 3).toNatClampNeg)) (by decide +kernel) (hF.s (j := 44) rfl) g1 rfl rfl ?_
    refine ex_callS (pc := 90) (as := [.int (mi M 44 ((mi M 43 3).toNatClampNeg))]) (by decide +kernel) F_Tape_isLetter (in_t2 (i := 120) rfl rfl) rfl rfl (Nat.le_of_ble_eq_true rfl) (Nat.lt_succ_self _) ⟨Nat.zero_le _, Nat.zero_le _⟩ (KC_B (Con.mono h ?_))
    intro o M1 ⟨r1, e9, hF1, h⟩
    refine ⟨r1, e9, ?_⟩
    refine ey_ifeqB (pc := 93) (off := 10) (tgt := 103) (by decide +kernel) (by decide) (fun hc => ?_) (fun hc => ?_)
    · replace h := h.1 hc
      refine ex_aload_n (pc := 103) (k := 0) (by decide +kernel) rfl ?_
      refine ex_getR (pc := 104) (a := 44) (by decide +kernel) lf_Tape_9 (hF1.s (j := 43) rfl) (hF1.r (j := 43) (k := 0) rfl rfl) ?_
      refine ex_aload_n (pc := 107) (k := 0) (by decide +kernel) rfl ?_
      refine ey_getI (pc := 108) (v := mi M1 43 3) (by decide +kernel) lf_Tape_22 (hF1.s (j := 43) rfl) rfl ?_
      obtain ⟨g2, h⟩ := h
      refine ey_iald (pc := 111) (v := mi M1 44 ((mi M1 43 3).toNatClampNeg)) (by decide +kernel) (hF1.s (j := 44) rfl) g2 rfl rfl ?_
      refine ex_callS (pc := 112) (as := [.int (mi M1 44 ((mi M1 43 3).toNatClampNeg))]) (by decide +kernel) F_Tape_isDigit (in_t2 (i := 144) rfl rfl) rfl rfl (Nat.le_of_ble_eq_true rfl) (Nat.lt_succ_self _) ⟨Nat.zero_le _, Nat.zero_le _⟩ (KC_B (Con.mono h ?_))
      intro o M2 ⟨r2, e9, hF2, h⟩
      refine ⟨r2, e9, ?_⟩
      refine ey_ifeqB (pc := 115) (off := 10) (tgt := 125) (by decide +kernel) (by decide) (fun hc => ?_) (fun hc => ?_)
      · replace h := h.1 hc
        refine ex_aload_n (pc := 125) (k := 0) (by decide +kernel) rfl ?_
        refine ex_aload_n (pc := 126) (k := 0) (by decide +kernel) rfl ?_
        refine ex_getR (pc := 127) (a := 44) (by decide +kernel) lf_Tape_9 (hF2.s (j := 43) rfl) (hF2.r (j := 43) (k := 0) rfl rfl) ?_
        refine ex_aload_n (pc := 130) (k := 0) (by decide +kernel) rfl ?_
        refine ey_getI (pc := 131) (v := mi M2 43 3) (by decide +kernel) lf_Tape_22 (hF2.s (j := 43) rfl) rfl ?_
        obtain ⟨g3, h⟩ := h
        refine ey_iald (pc := 134) (v := mi M2 44 ((mi M2 43 3).toNatClampNeg)) (by decide +kernel) (hF2.s (j := 44) rfl) g3 rfl rfl ?_
        refine ex_callS (pc := 135) (as := [.int (mi M2 44 ((mi M2 43 3).toNatClampNeg))]) (by decide +kernel) F_Tape_isSign (in_t2 (i := 151) rfl rfl) rfl rfl (Nat.le_of_ble_eq_true rfl) (Nat.lt_succ_self _) ⟨Nat.zero_le _, Nat.zero_le _⟩ (KC_B (Con.mono h ?_))
        intro o M3 ⟨r3, e9, hF3, h⟩
        refine ⟨r3, e9, ?_⟩
        refine ey_ifeqB (pc := 138) (off := 15) (tgt := 153) (by decide +kernel) (by decide) (fun hc => ?_) (fun hc => ?_)
        · replace h := h.1 hc
          refine ex_sipush (pc := 153) (k := 257) (v := nI 257) (by decide +kernel) (by decide) ?_
          refine ex_putI (pc := 156) (index := 28) (ci := 9) (k := 5) (fin := false) (by decide +kernel) ⟨_, _, _, _, cf_Tape, by decide, in_t1 (i := 113) rfl rfl, rfl, (fun h => by cases h), rfl, rfl⟩ rfl (fun h => by cases h) (hF3.s (j := 43) rfl) ?_
          refine ex_aload_n (pc := 159) (k := 0) (by decide +kernel) rfl ?_
          refine ex_dup (pc := 160) (by decide +kernel) rfl ?_
          refine ey_getI (pc := 161) (v := mi M3 43 3) (by decide +kernel) lf_Tape_22 (hF3.s (j := 43) rfl) rfl ?_
          refine ex_iconst (pc := 164) (k := 1) (v := nI 1) (by decide +kernel) (by decide) ?_
          refine ex_iadd (pc := 165) (by decide +kernel) ?_
          refine ex_putI (pc := 166) (index := 22) (ci := 9) (k := 3) (fin := false) (by decide +kernel) ⟨_, _, _, _, cf_Tape, by decide, in_t1 (i := 111) rfl rfl, rfl, (fun h => by cases h), rfl, rfl⟩ rfl (fun h => by cases h) (hF3.s (j := 43) rfl) ?_
          exact ex_return (pc := 169) (by decide +kernel) rfl h
        · replace h := h.2 hc
          refine ex_aload_n (pc := 141) (k := 0) (by decide +kernel) rfl ?_
          refine ex_getR (pc := 142) (a := 44) (by decide +kernel) lf_Tape_9 (hF3.s (j := 43) rfl) (hF3.r (j := 43) (k := 0) rfl rfl) ?_
          refine ex_aload_n (pc := 145) (k := 0) (by decide +kernel) rfl ?_
          refine ey_getI (pc := 146) (v := mi M3 43 3) (by decide +kernel) lf_Tape_22 (hF3.s (j := 43) rfl) rfl ?_
          obtain ⟨g4, h⟩ := h
          refine ey_iald (pc := 149) (v := mi M3 44 ((mi M3 43 3).toNatClampNeg)) (by decide +kernel) (hF3.s (j := 44) rfl) g4 rfl rfl ?_
          refine ex_goto (pc := 150) (off := 6) (tgt := 156) (by decide +kernel) (by decide) ?_
          refine ex_putI (pc := 156) (index := 28) (ci := 9) (k := 5) (fin := false) (by decide +kernel) ⟨_, _, _, _, cf_Tape, by decide, in_t1 (i := 113) rfl rfl, rfl, (fun h => by cases h), rfl, rfl⟩ rfl (fun h => by cases h) (hF3.s (j := 43) rfl) ?_
          refine ex_aload_n (pc := 159) (k := 0) (by decide +kernel) rfl ?_
          refine ex_dup (pc := 160) (by decide +kernel) rfl ?_
          refine ey_getI (pc := 161) (v := mi M3 43 3) (by decide +kernel) lf_Tape_22 (hF3.s (j := 43) rfl) rfl ?_
          refine ex_iconst (pc := 164) (k := 1) (v := nI 1) (by decide +kernel) (by decide) ?_
          refine ex_iadd (pc := 165) (by decide +kernel) ?_
          refine ex_putI (pc := 166) (index := 22) (ci := 9) (k := 3) (fin := false) (by decide +kernel) ⟨_, _, _, _, cf_Tape, by decide, in_t1 (i := 111) rfl rfl, rfl, (fun h => by cases h), rfl, rfl⟩ rfl (fun h => by cases h) (hF3.s (j := 43) rfl) ?_
          exact ex_return (pc := 169) (by decide +kernel) rfl h
      · replace h := h.2 hc
        refine ex_aload_n (pc := 118) (k := 0) (by decide +kernel) rfl ?_
        refine ex_callV (pc := 119) (as := []) (by decide +kernel) F_Tape_readNumber (in_t2 (i := 147) rfl rfl) (hF2.s (j := 43) rfl) rfl (by decide) rfl rfl (Nat.le_of_ble_eq_true rfl) (Nat.lt_succ_self _) ⟨Nat.zero_le _, Nat.zero_le _⟩ (KC_V (Con.mono h ?_))
        intro o M4 ⟨e9, hF4, h⟩
        refine ⟨e9, ?_⟩
        refine ex_goto (pc := 122) (off := 47) (tgt := 169) (by decide +kernel) (by decide) ?_
        exact ex_return (pc := 169) (by decide +kernel) rfl h
    · replace h := h.2 hc
      refine ex_aload_n (pc := 96) (k := 0) (by decide +kernel) rfl ?_
      refine ex_callV (pc := 97) (as := []) (by decide +kernel) F_Tape_readWord (in_t2 (i := 123) rfl rfl) (hF1.s (j := 43) rfl) rfl (by decide) rfl rfl (Nat.le_of_ble_eq_true rfl) (Nat.lt_succ_self _) ⟨Nat.zero_le _, Nat.zero_le _⟩ (KC_V (Con.mono h ?_))
      intro o M5 ⟨e9, hF5, h⟩
      refine ⟨e9, ?_⟩
      refine ex_goto (pc := 100) (off := 69) (tgt := 169) (by decide +kernel) (by decide) ?_
      exact ex_return (pc := 169) (by decide +kernel) rfl h
  · replace h := h.2 hc
    refine ex_aload_n (pc := 71) (k := 0) (by decide +kernel) rfl ?_
    refine ex_sipush (pc := 72) (k := 256) (v := nI 256) (by decide +kernel) (by decide) ?_
    refine ex_putI (pc := 75) (index := 28) (ci := 9) (k := 5) (fin := false) (by decide +kernel) ⟨_, _, _, _, cf_Tape, by decide, in_t1 (i := 113) rfl rfl, rfl, (fun h => by cases h), rfl, rfl⟩ rfl (fun h => by cases h) (hF.s (j := 43) rfl) ?_
    refine ex_goto (pc := 78) (off := 91) (tgt := 169) (by decide +kernel) (by decide) ?_
    exact ex_return (pc := 169) (by decide +kernel) rfl h
theorem k_Tape_readNumber_0 {d bc bs : Nat}  {M : Mem} {Φ : Option Value → Mem → Prop} (hF : Fx M) (h : Ex (d + 1) m_Tape_readNumber bc bs 5 [some (.ref 43)] [] (wi M 43 6 (nI 0)) Φ) : Ex (d + 1) m_Tape_readNumber bc bs 0 [some (.ref 43)] [] M Φ := by
  refine ex_aload_n (pc := 0) (k := 0) (by decide +kernel) rfl ?_
  refine ex_iconst (pc := 1) (k := 0) (v := nI 0) (by decide +kernel) (by decide) ?_
  refine ex_putI (pc := 2) (index := 31) (ci := 9) (k := 6) (fin := false) (by decide +kernel) ⟨_, _, _, _, cf_Tape, by decide, in_t1 (i := 114) rfl rfl, rfl, (fun h => by cases h), rfl, rfl⟩ rfl (fun h => by cases h) (hF.s (j := 43) rfl) ?_
  exact h
theorem k_Tape_readNumber_5 {d bc bs : Nat}  {M : Mem} {Φ : Option Value → Mem → Prop} (hF : Fx M) (h : ((mi M 43 1) ≤ (mi M 43 3) → Ex (d + 1) m_Tape_readNumber bc bs 68 [some (.ref 43)] [] M Φ) ∧ (¬ (mi M 43 1) ≤ (mi M 43 3) → vp_in (mi M 43 3) 160 ∧ Con d m_Tape_isDigit 0 0 [.int (mi M 44 ((mi M 43 3).toNatClampNeg))] M (PB fun r1 M1 => Fx M1 ∧ (r1 = false → Ex (d + 1) m_Tape_readNumber bc bs 68 [some (.ref 43)] [] M1 Φ) ∧ (r1 = true → vp_in (mi M1 43 3) 160 ∧ Ex (d + 1) m_Tape_readNumber bc bs 5 [some (.ref 43)] [] (wi (wi M1 43 6 ((((mi M1 43 6) * (nI 10)) + (mi M1 44 ((mi M1 43 3).toNatClampNeg))) - (nI 48))) 43 3 ((mi M1 43 3) + (nI 1))) Φ)))) : Ex (d + 1) m_Tape_readNumber bc bs 5 [some (.ref 43)] [] M Φ := by
  refine ex_aload_n (pc := 5) (k := 0) (by decide +kernel) rfl ?_
  refine ey_getI (pc := 6) (v := mi M 43 3) (by decide +kernel) lf_Tape_22 (hF.s (j := 43) rfl) rfl ?_
  refine ex_aload_n (pc := 9) (k := 0) (by decide +kernel) rfl ?_
  refine ey_getI (pc := 10) (v := mi M 43 1) (by decide +kernel) lf_Tape_15 (hF.s (j := 43) rfl) rfl ?_
  refine ex_icmp_ge (pc := 13) (off := 55) (tgt := 68) (by decide +kernel) (by decide) (fun hc => ?_) (fun hc => ?_)
  · replace h := h.1 hc
    exact h
  · replace h := h.2 hc
    refine ex_aload_n (pc := 16) (k := 0) (by decide +kernel) rfl ?_
    refine ex_getR (pc := 17) (a := 44) (by decide +kernel) lf_Tape_9 (hF.s (j := 43) rfl) (hF.r (j := 43) (k := 0) rfl rfl) ?_
    refine ex_aload_n (pc := 20) (k := 0) (by decide +kernel) rfl ?_
    refine ey_getI (pc := 21) (v := mi M 43 3) (by decide +kernel) lf_Tape_22 (hF.s (j := 43) rfl) rfl ?_
    obtain ⟨g1, h⟩ := h
    refine ey_iald (pc := 24) (v := mi M 44 ((mi M 43 3).toNatClampNeg)) (by decide +kernel) (hF.s (j := 44) rfl) g1 rfl rfl ?_
    refine ex_callS (pc := 25) (as := [.int (mi M 44 ((mi M 43 3).toNatClampNeg))]) (by decide +kernel) F_Tape_isDigit (in_t2 (i := 144) rfl rfl) rfl rfl (Nat.le_of_ble_eq_true rfl) (Nat.lt_succ_self _) ⟨Nat.zero_le _, Nat.zero_le _⟩ (KC_B (Con.mono h ?_))
    intro o M1 ⟨r1, e9, hF1, h⟩
    refine ⟨r1, e9, ?_⟩
    refine ey_ifeqB (pc := 28) (off := 40) (tgt := 68) (by decide +kernel) (by decide) (fun hc => ?_) (fun hc => ?_)
    · replace h := h.1 hc
      exact h
    · replace h := h.2 hc
      refine ex_aload_n (pc := 31) (k := 0) (by decide +kernel) rfl ?_
      refine ex_aload_n (pc := 32) (k := 0) (by decide +kernel) rfl ?_
      refine ey_getI (pc := 33) (v := mi M1 43 6) (by decide +kernel) lf_Tape_31 (hF1.s (j := 43) rfl) rfl ?_
      refine ex_bipush (pc := 36) (k := 10) (v := nI 10) (by decide +kernel) (by decide) ?_
      refine ex_imul (pc := 38) (by decide +kernel) ?_
      refine ex_aload_n (pc := 39) (k := 0) (by decide +kernel) rfl ?_
      refine ex_getR (pc := 40) (a := 44) (by decide +kernel) lf_Tape_9 (hF1.s (j := 43) rfl) (hF1.r (j := 43) (k := 0) rfl rfl) ?_
      refine ex_aload_n (pc := 43) (k := 0) (by decide +kernel) rfl ?_
      refine ey_getI (pc := 44) (v := mi M1 43 3) (by decide +kernel) lf_Tape_22 (hF1.s (j := 43) rfl) rfl ?_
      obtain ⟨g2, h⟩ := h
      refine ey_iald (pc := 47) (v := mi M1 44 ((mi M1 43 3).toNatClampNeg)) (by decide +kernel) (hF1.s (j := 44) rfl) g2 rfl rfl ?_
      refine ex_iadd (pc := 48) (by decide +kernel) ?_
      refine ex_bipush (pc := 49) (k := 48) (v := nI 48) (by decide +kernel) (by decide) ?_
      refine ex_isub (pc := 51) (by decide +kernel) ?_
      refine ex_putI (pc := 52) (index := 31) (ci := 9) (k := 6) (fin := false) (by decide +kernel) ⟨_, _, _, _, cf_Tape, by decide, in_t1 (i := 114) rfl rfl, rfl, (fun h => by cases h), rfl, rfl⟩ rfl (fun h => by cases h) (hF1.s (j := 43) rfl) ?_
      refine ex_aload_n (pc := 55) (k := 0) (by decide +kernel) rfl ?_
      refine ex_dup (pc := 56) (by decide +kernel) rfl ?_
      refine ey_getI (pc := 57) (v := mi M1 43 3) (by decide +kernel) lf_Tape_22 (hF1.s (j := 43) rfl) rfl ?_
      refine ex_iconst (pc := 60) (k := 1) (v := nI 1) (by decide +kernel) (by decide) ?_
      refine ex_iadd (pc := 61) (by decide +kernel) ?_
      refine ex_putI (pc := 62) (index := 22) (ci := 9) (k := 3) (fin := false) (by decide +kernel) ⟨_, _, _, _, cf_Tape, by decide, in_t1 (i := 111) rfl rfl, rfl, (fun h => by cases h), rfl, rfl⟩ rfl (fun h => by cases h) (hF1.s (j := 43) rfl) ?_
      refine ex_goto (pc := 65) (off := -60) (tgt := 5) (by decide +kernel) (by decide) ?_
      exact h
theorem k_Tape_readNumber_68 {d bc bs : Nat}  {M : Mem} {Φ : Option Value → Mem → Prop} (hF : Fx M) (h : (((mi M 43 3) - (mi M 43 4)) ≤ (nI 4) → Φ none (wi M 43 5 (nI 258))) ∧ (¬ ((mi M 43 3) - (mi M 43 4)) ≤ (nI 4) → Φ none (wi M 43 5 (nI 257)))) : Ex (d + 1) m_Tape_readNumber bc bs 68 [some (.ref 43)] [] M Φ := by
  refine ex_aload_n (pc := 68) (k := 0) (by decide +kernel) rfl ?_
  refine ex_aload_n (pc := 69) (k := 0) (by decide +kernel) rfl ?_
  refine ey_getI (pc := 70) (v := mi M 43 3) (by decide +kernel) lf_Tape_22 (hF.s (j := 43) rfl) rfl ?_
  refine ex_aload_n (pc := 73) (k := 0) (by decide +kernel) rfl ?_
  refine ey_getI (pc := 74) (v := mi M 43 4) (by decide +kernel) lf_Tape_25 (hF.s (j := 43) rfl) rfl ?_
  refine ex_isub (pc := 77) (by decide +kernel) ?_
  refine ex_iconst (pc := 78) (k := 4) (v := nI 4) (by decide +kernel) (by decide) ?_
  refine ex_icmp_le (pc := 79) (off := 9) (tgt := 88) (by decide +kernel) (by decide) (fun hc => ?_) (fun hc => ?_)
  · replace h := h.1 hc
    refine ex_sipush (pc := 88) (k := 258) (v := nI 258) (by decide +kernel) (by decide) ?_
    refine ex_putI (pc := 91) (index := 28) (ci := 9) (k := 5) (fin := false) (by decide +kernel) ⟨_, _, _, _, cf_Tape, by decide, in_t1 (i := 113) rfl rfl, rfl, (fun h => by cases h), rfl, rfl⟩ rfl (fun h => by cases h) (hF.s (j := 43) rfl) ?_
    exact ex_return (pc := 94) (by decide +kernel) rfl h
  · replace h := h.2 hc
    refine ex_sipush (pc := 82) (k := 257) (v := nI 257) (by decide +kernel) (by decide) ?_
    refine ex_goto (pc := 85) (off := 6) (tgt := 91) (by decide +kernel) (by decide) ?_
    refine ex_putI (pc := 91) (index := 28) (ci := 9) (k := 5) (fin := false) (by decide +kernel) ⟨_, _, _, _, cf_Tape, by decide, in_t1 (i := 113) rfl rfl, rfl, (fun h => by cases h), rfl, rfl⟩ rfl (fun h => by cases h) (hF.s (j := 43) rfl) ?_
    exact ex_return (pc := 94) (by decide +kernel) rfl h
theorem k_Tape_readWord_0 {d bc bs : Nat}  {M : Mem} {Φ : Option Value → Mem → Prop} (hF : Fx M) (h : ((mi M 43 1) ≤ (mi M 43 3) → Ex (d + 1) m_Tape_readWord bc bs 39 [some (.ref 43)] [] M Φ) ∧ (¬ (mi M 43 1) ≤ (mi M 43 3) → vp_in (mi M 43 3) 160 ∧ Con d m_Tape_isLetter 0 0 [.int (mi M 44 ((mi M 43 3).toNatClampNeg))] M (PB fun r1 M1 => Fx M1 ∧ (r1 = false → Ex (d + 1) m_Tape_readWord bc bs 39 [some (.ref 43)] [] M1 Φ) ∧ (r1 = true → Ex (d + 1) m_Tape_readWord bc bs 0 [some (.ref 43)] [] (wi M1 43 3 ((mi M1 43 3) + (nI 1))) Φ)))) : Ex (d + 1) m_Tape_readWord bc bs 0 [some (.ref 43)] [] M Φ := by
  refine ex_aload_n (pc := 0) (k := 0) (by decide +kernel) rfl ?_
  refine ey_getI (pc := 1) (v := mi M 43 3) (by decide +kernel) lf_Tape_22 (hF.s (j := 43) rfl) rfl ?_
  refine ex_aload_n (pc := 4) (k := 0) (by decide +kernel) rfl ?_
  refine ey_getI (pc := 5) (v := mi M 43 1) (by decide +kernel) lf_Tape_15 (hF.s (j := 43) rfl) rfl ?_
  refine ex_icmp_ge (pc := 8) (off := 31) (tgt := 39) (by decide +kernel) (by decide) (fun hc => ?_) (fun hc => ?_)
  · replace h := h.1 hc
    exact h
  · replace h := h.2 hc
    refine ex_aload_n (pc := 11) (k := 0) (by decide +kernel) rfl ?_
    refine ex_getR (pc := 12) (a := 44) (by decide +kernel) lf_Tape_9 (hF.s (j := 43) rfl) (hF.r (j := 43) (k := 0) rfl rfl) ?_
    refine ex_aload_n (pc := 15) (k := 0) (by decide +kernel) rfl ?_
    refine ey_getI (pc := 16) (v := mi M 43 3) (by decide +kernel) lf_Tape_22 (hF.s (j := 43) rfl) rfl ?_
    obtain ⟨g1, h⟩ := h
    refine ey_iald (pc := 19) (v := mi M 44 ((mi M 43 3).toNatClampNeg)) (by decide +kernel) (hF.s (j := 44) rfl) g1 rfl rfl ?_
    refine ex_callS (pc := 20) (as := [.int (mi M 44 ((mi M 43 3).toNatClampNeg))]) (by decide +kernel) F_Tape_isLetter (in_t2 (i := 120) rfl rfl) rfl rfl (Nat.le_of_ble_eq_true rfl) (Nat.lt_succ_self _) ⟨Nat.zero_le _, Nat.zero_le _⟩ (KC_B (Con.mono h ?_))
    intro o M1 ⟨r1, e9, hF1, h⟩
    refine ⟨r1, e9, ?_⟩
    refine ey_ifeqB (pc := 23) (off := 16) (tgt := 39) (by decide +kernel) (by decide) (fun hc => ?_) (fun hc => ?_)
    · replace h := h.1 hc
      exact h
    · replace h := h.2 hc
      refine ex_aload_n (pc := 26) (k := 0) (by decide +kernel) rfl ?_
      refine ex_dup (pc := 27) (by decide +kernel) rfl ?_
      refine ey_getI (pc := 28) (v := mi M1 43 3) (by decide +kernel) lf_Tape_22 (hF1.s (j := 43) rfl) rfl ?_
      refine ex_iconst (pc := 31) (k := 1) (v := nI 1) (by decide +kernel) (by decide) ?_
      refine ex_iadd (pc := 32) (by decide +kernel) ?_
      refine ex_putI (pc := 33) (index := 22) (ci := 9) (k := 3) (fin := false) (by decide +kernel) ⟨_, _, _, _, cf_Tape, by decide, in_t1 (i := 111) rfl rfl, rfl, (fun h => by cases h), rfl, rfl⟩ rfl (fun h => by cases h) (hF1.s (j := 43) rfl) ?_
      refine ex_goto (pc := 36) (off := -36) (tgt := 0) (by decide +kernel) (by decide) ?_
      exact h
theorem k_Tape_readWord_39 {d bc bs : Nat}  {M : Mem} {Φ : Option Value → Mem → Prop} (hF : Fx M) (h : Con d m_Tape_spells 0 0 [.ref 43, .ref 1048577] M (PB fun r1 M1 => Fx M1 ∧ (r1 = false → Con d m_Tape_spells 0 0 [.ref 43, .ref 1048578] M1 (PB fun r2 M2 => Fx M2 ∧ (r2 = false → Con d m_Tape_spells 0 0 [.ref 43, .ref 1048579] M2 (PB fun r3 M3 => Fx M3 ∧ (r3 = false → Con d m_Tape_spells 0 0 [.ref 43, .ref 1048580] M3 (PB fun r4 M4 => Fx M4 ∧ (r4 = false → Con d m_Tape_spells 0 0 [.ref 43, .ref 1048581] M4 (PB fun r5 M5 => Fx M5 ∧ (r5 = false → Con d m_Tape_spells 0 0 [.ref 43, .ref 1048582] M5 (PB fun r6 M6 => Fx M6 ∧ (r6 = false → Con d m_Tape_spells 0 0 [.ref 43, .ref 1048583] M6 (PB fun r7 M7 => Fx M7 ∧ (r7 = false → Con d m_Tape_spells 0 0 [.ref 43, .ref 1048584] M7 (PB fun r8 M8 => Fx M8 ∧ (r8 = false → Con d m_Tape_spells 0 0 [.ref 43, .ref 1048585] M8 (PB fun r9 M9 => Fx M9 ∧ (r9 = false → Con d m_Tape_spells 0 0 [.ref 43, .ref 1048586] M9 (PB fun r10 M10 => Fx M10 ∧ (r10 = false → Con d m_Tape_spells 0 0 [.ref 43, .ref 1048587] M10 (PB fun r11 M11 => Fx M11 ∧ (r11 = false → Φ none (wi M11 43 5 (nI 257))) ∧ (r11 = true → Φ none (wi M11 43 5 (-6))))) ∧ (r10 = true → Φ none (wi M10 43 5 (-5))))) ∧ (r9 = true → Φ none (wi M9 43 5 (-4))))) ∧ (r8 = true → Φ none (wi M8 43 5 (-3))))) ∧ (r7 = true → Φ none (wi M7 43 5 (-2))))) ∧ (r6 = true → Φ none (wi M6 43 5 (-1))))) ∧ (r5 = true → Φ none (wi M5 43 5 (-14))))) ∧ (r4 = true → Φ none (wi M4 43 5 (-8))))) ∧ (r3 = true → Φ none (wi M3 43 5 (-7))))) ∧ (r2 = true → Φ none (wi M2 43 5 (nI 260))))) ∧ (r1 = true → Φ none (wi M1 43 5 (nI 259))))) : Ex (d + 1) m_Tape_readWord bc bs 39 [some (.ref 43)] [] M Φ := by
  refine ex_aload_n (pc := 39) (k := 0) (by decide +kernel) rfl ?_
  refine ex_aload_n (pc := 40) (k := 0) (by decide +kernel) rfl ?_
  refine ex_ldcS (pc := 41) (i := 1) (by decide +kernel) rfl (by decide) ?_
  refine ex_callV (pc := 43) (as := [.ref 1048577]) (by decide +kernel) F_Tape_spells (in_t2 (i := 128) rfl rfl) (hF.s (j := 43) rfl) rfl (by decide) rfl rfl (Nat.le_of_ble_eq_true rfl) (Nat.lt_succ_self _) ⟨Nat.zero_le _, Nat.zero_le _⟩ (KC_B (Con.mono h ?_))
  intro o M1 ⟨r1, e9, hF1, h⟩
  refine ⟨r1, e9, ?_⟩
  refine ey_ifeqB (pc := 46) (off := 9) (tgt := 55) (by decide +kernel) (by decide) (fun hc => ?_) (fun hc => ?_)
  · replace h := h.1 hc
    refine ex_aload_n (pc := 55) (k := 0) (by decide +kernel) rfl ?_
    refine ex_ldcS (pc := 56) (i := 2) (by decide +kernel) rfl (by decide) ?_
    refine ex_callV (pc := 58) (as := [.ref 1048578]) (by decide +kernel) F_Tape_spells (in_t2 (i := 128) rfl rfl) (hF1.s (j := 43) rfl) rfl (by decide) rfl rfl (Nat.le_of_ble_eq_true rfl) (Nat.lt_succ_self _) ⟨Nat.zero_le _, Nat.zero_le _⟩ (KC_B (Con.mono h ?_))
    intro o M2 ⟨r2, e9, hF2, h⟩
    refine ⟨r2, e9, ?_⟩
    refine ey_ifeqB (pc := 61) (off := 9) (tgt := 70) (by decide +kernel) (by decide) (fun hc => ?_) (fun hc => ?_)
    · replace h := h.1 hc
      refine ex_aload_n (pc := 70) (k := 0) (by decide +kernel) rfl ?_
      refine ex_ldcS (pc := 71) (i := 3) (by decide +kernel) rfl (by decide) ?_
      refine ex_callV (pc := 73) (as := [.ref 1048579]) (by decide +kernel) F_Tape_spells (in_t2 (i := 128) rfl rfl) (hF2.s (j := 43) rfl) rfl (by decide) rfl rfl (Nat.le_of_ble_eq_true rfl) (Nat.lt_succ_self _) ⟨Nat.zero_le _, Nat.zero_le _⟩ (KC_B (Con.mono h ?_))
      intro o M3 ⟨r3, e9, hF3, h⟩
      refine ⟨r3, e9, ?_⟩
      refine ey_ifeqB (pc := 76) (off := 8) (tgt := 84) (by decide +kernel) (by decide) (fun hc => ?_) (fun hc => ?_)
      · replace h := h.1 hc
        refine ex_aload_n (pc := 84) (k := 0) (by decide +kernel) rfl ?_
        refine ex_ldcS (pc := 85) (i := 4) (by decide +kernel) rfl (by decide) ?_
        refine ex_callV (pc := 87) (as := [.ref 1048580]) (by decide +kernel) F_Tape_spells (in_t2 (i := 128) rfl rfl) (hF3.s (j := 43) rfl) rfl (by decide) rfl rfl (Nat.le_of_ble_eq_true rfl) (Nat.lt_succ_self _) ⟨Nat.zero_le _, Nat.zero_le _⟩ (KC_B (Con.mono h ?_))
        intro o M4 ⟨r4, e9, hF4, h⟩
        refine ⟨r4, e9, ?_⟩
        refine ey_ifeqB (pc := 90) (off := 8) (tgt := 98) (by decide +kernel) (by decide) (fun hc => ?_) (fun hc => ?_)
        · replace h := h.1 hc
          refine ex_aload_n (pc := 98) (k := 0) (by decide +kernel) rfl ?_
          refine ex_ldcS (pc := 99) (i := 5) (by decide +kernel) rfl (by decide) ?_
          refine ex_callV (pc := 101) (as := [.ref 1048581]) (by decide +kernel) F_Tape_spells (in_t2 (i := 128) rfl rfl) (hF4.s (j := 43) rfl) rfl (by decide) rfl rfl (Nat.le_of_ble_eq_true rfl) (Nat.lt_succ_self _) ⟨Nat.zero_le _, Nat.zero_le _⟩ (KC_B (Con.mono h ?_))
          intro o M5 ⟨r5, e9, hF5, h⟩
          refine ⟨r5, e9, ?_⟩
          refine ey_ifeqB (pc := 104) (off := 8) (tgt := 112) (by decide +kernel) (by decide) (fun hc => ?_) (fun hc => ?_)
          · replace h := h.1 hc
            refine ex_aload_n (pc := 112) (k := 0) (by decide +kernel) rfl ?_
            refine ex_ldcS (pc := 113) (i := 6) (by decide +kernel) rfl (by decide) ?_
            refine ex_callV (pc := 115) (as := [.ref 1048582]) (by decide +kernel) F_Tape_spells (in_t2 (i := 128) rfl rfl) (hF5.s (j := 43) rfl) rfl (by decide) rfl rfl (Nat.le_of_ble_eq_true rfl) (Nat.lt_succ_self _) ⟨Nat.zero_le _, Nat.zero_le _⟩ (KC_B (Con.mono h ?_))
            intro o M6 ⟨r6, e9, hF6, h⟩
            refine ⟨r6, e9, ?_⟩
            refine ey_ifeqB (pc := 118) (off := 7) (tgt := 125) (by decide +kernel) (by decide) (fun hc => ?_) (fun hc => ?_)
            · replace h := h.1 hc
              refine ex_aload_n (pc := 125) (k := 0) (by decide +kernel) rfl ?_
              refine ex_ldcS (pc := 126) (i := 7) (by decide +kernel) rfl (by decide) ?_
              refine ex_callV (pc := 128) (as := [.ref 1048583]) (by decide +kernel) F_Tape_spells (in_t2 (i := 128) rfl rfl) (hF6.s (j := 43) rfl) rfl (by decide) rfl rfl (Nat.le_of_ble_eq_true rfl) (Nat.lt_succ_self _) ⟨Nat.zero_le _, Nat.zero_le _⟩ (KC_B (Con.mono h ?_))
              intro o M7 ⟨r7, e9, hF7, h⟩
              refine ⟨r7, e9, ?_⟩
              refine ey_ifeqB (pc := 131) (off := 8) (tgt := 139) (by decide +kernel) (by decide) (fun hc => ?_) (fun hc => ?_)
              · replace h := h.1 hc
                refine ex_aload_n (pc := 139) (k := 0) (by decide +kernel) rfl ?_
                refine ex_ldcS (pc := 140) (i := 8) (by decide +kernel) rfl (by decide) ?_
                refine ex_callV (pc := 142) (as := [.ref 1048584]) (by decide +kernel) F_Tape_spells (in_t2 (i := 128) rfl rfl) (hF7.s (j := 43) rfl) rfl (by decide) rfl rfl (Nat.le_of_ble_eq_true rfl) (Nat.lt_succ_self _) ⟨Nat.zero_le _, Nat.zero_le _⟩ (KC_B (Con.mono h ?_))
                intro o M8 ⟨r8, e9, hF8, h⟩
                refine ⟨r8, e9, ?_⟩
                refine ey_ifeqB (pc := 145) (off := 8) (tgt := 153) (by decide +kernel) (by decide) (fun hc => ?_) (fun hc => ?_)
                · replace h := h.1 hc
                  refine ex_aload_n (pc := 153) (k := 0) (by decide +kernel) rfl ?_
                  refine ex_ldcS (pc := 154) (i := 9) (by decide +kernel) rfl (by decide) ?_
                  refine ex_callV (pc := 156) (as := [.ref 1048585]) (by decide +kernel) F_Tape_spells (in_t2 (i := 128) rfl rfl) (hF8.s (j := 43) rfl) rfl (by decide) rfl rfl (Nat.le_of_ble_eq_true rfl) (Nat.lt_succ_self _) ⟨Nat.zero_le _, Nat.zero_le _⟩ (KC_B (Con.mono h ?_))
                  intro o M9 ⟨r9, e9, hF9, h⟩
                  refine ⟨r9, e9, ?_⟩
                  refine ey_ifeqB (pc := 159) (off := 8) (tgt := 167) (by decide +kernel) (by decide) (fun hc => ?_) (fun hc => ?_)
                  · replace h := h.1 hc
                    refine ex_aload_n (pc := 167) (k := 0) (by decide +kernel) rfl ?_
                    refine ex_ldcS (pc := 168) (i := 10) (by decide +kernel) rfl (by decide) ?_
                    refine ex_callV (pc := 170) (as := [.ref 1048586]) (by decide +kernel) F_Tape_spells (in_t2 (i := 128) rfl rfl) (hF9.s (j := 43) rfl) rfl (by decide) rfl rfl (Nat.le_of_ble_eq_true rfl) (Nat.lt_succ_self _) ⟨Nat.zero_le _, Nat.zero_le _⟩ (KC_B (Con.mono h ?_))
                    intro o M10 ⟨r10, e9, hF10, h⟩
                    refine ⟨r10, e9, ?_⟩
                    refine ey_ifeqB (pc := 173) (off := 8) (tgt := 181) (by decide +kernel) (by decide) (fun hc => ?_) (fun hc => ?_)
                    · replace h := h.1 hc
                      refine ex_aload_n (pc := 181) (k := 0) (by decide +kernel) rfl ?_
                      refine ex_ldcS (pc := 182) (i := 11) (by decide +kernel) rfl (by decide) ?_
                      refine ex_callV (pc := 184) (as := [.ref 1048587]) (by decide +kernel) F_Tape_spells (in_t2 (i := 128) rfl rfl) (hF10.s (j := 43) rfl) rfl (by decide) rfl rfl (Nat.le_of_ble_eq_true rfl) (Nat.lt_succ_self _) ⟨Nat.zero_le _, Nat.zero_le _⟩ (KC_B (Con.mono h ?_))
                      intro o M11 ⟨r11, e9, hF11, h⟩
                      refine ⟨r11, e9, ?_⟩
                      refine ey_ifeqB (pc := 187) (off := 8) (tgt := 195) (by decide +kernel) (by decide) (fun hc => ?_) (fun hc => ?_)
                      · replace h := h.1 hc
                        refine ex_sipush (pc := 195) (k := 257) (v := nI 257) (by decide +kernel) (by decide) ?_
                        refine ex_putI (pc := 198) (index := 28) (ci := 9) (k := 5) (fin := false) (by decide +kernel) ⟨_, _, _, _, cf_Tape, by decide, in_t1 (i := 113) rfl rfl, rfl, (fun h => by cases h), rfl, rfl⟩ rfl (fun h => by cases h) (hF11.s (j := 43) rfl) ?_
                        exact ex_return (pc := 201) (by decide +kernel) rfl h
                      · replace h := h.2 hc
                        refine ex_bipush (pc := 190) (k := -6) (v := -6) (by decide +kernel) (by decide) ?_
                        refine ex_goto (pc := 192) (off := 6) (tgt := 198) (by decide +kernel) (by decide) ?_
                        refine ex_putI (pc := 198) (index := 28) (ci := 9) (k := 5) (fin := false) (by decide +kernel) ⟨_, _, _, _, cf_Tape, by decide, in_t1 (i := 113) rfl rfl, rfl, (fun h => by cases h), rfl, rfl⟩ rfl (fun h => by cases h) (hF11.s (j := 43) rfl) ?_
                        exact ex_return (pc := 201) (by decide +kernel) rfl h
                    · replace h := h.2 hc
                      refine ex_bipush (pc := 176) (k := -5) (v := -5) (by decide +kernel) (by decide) ?_
                      refine ex_goto (pc := 178) (off := 20) (tgt := 198) (by decide +kernel) (by decide) ?_
                      refine ex_putI (pc := 198) (index := 28) (ci := 9) (k := 5) (fin := false) (by decide +kernel) ⟨_, _, _, _, cf_Tape, by decide, in_t1 (i := 113) rfl rfl, rfl, (fun h => by cases h), rfl, rfl⟩ rfl (fun h => by cases h) (hF10.s (j := 43) rfl) ?_
                      exact ex_return (pc := 201) (by decide +kernel) rfl h
                  · replace h := h.2 hc
                    refine ex_bipush (pc := 162) (k := -4) (v := -4) (by decide +kernel) (by decide) ?_
                    refine ex_goto (pc := 164) (off := 34) (tgt := 198) (by decide +kernel) (by decide) ?_
                    refine ex_putI (pc := 198) (index := 28) (ci := 9) (k := 5) (fin := false) (by decide +kernel) ⟨_, _, _, _, cf_Tape, by decide, in_t1 (i := 113) rfl rfl, rfl, (fun h => by cases h), rfl, rfl⟩ rfl (fun h => by cases h) (hF9.s (j := 43) rfl) ?_
                    exact ex_return (pc := 201) (by decide +kernel) rfl h
                · replace h := h.2 hc
                  refine ex_bipush (pc := 148) (k := -3) (v := -3) (by decide +kernel) (by decide) ?_
                  refine ex_goto (pc := 150) (off := 48) (tgt := 198) (by decide +kernel) (by decide) ?_
                  refine ex_putI (pc := 198) (index := 28) (ci := 9) (k := 5) (fin := false) (by decide +kernel) ⟨_, _, _, _, cf_Tape, by decide, in_t1 (i := 113) rfl rfl, rfl, (fun h => by cases h), rfl, rfl⟩ rfl (fun h => by cases h) (hF8.s (j := 43) rfl) ?_
                  exact ex_return (pc := 201) (by decide +kernel) rfl h
              · replace h := h.2 hc
                refine ex_bipush (pc := 134) (k := -2) (v := -2) (by decide +kernel) (by decide) ?_
                refine ex_goto (pc := 136) (off := 62) (tgt := 198) (by decide +kernel) (by decide) ?_
                refine ex_putI (pc := 198) (index := 28) (ci := 9) (k := 5) (fin := false) (by decide +kernel) ⟨_, _, _, _, cf_Tape, by decide, in_t1 (i := 113) rfl rfl, rfl, (fun h => by cases h), rfl, rfl⟩ rfl (fun h => by cases h) (hF7.s (j := 43) rfl) ?_
                exact ex_return (pc := 201) (by decide +kernel) rfl h
            · replace h := h.2 hc
              refine ex_iconst (pc := 121) (k := -1) (v := -1) (by decide +kernel) (by decide) ?_
              refine ex_goto (pc := 122) (off := 76) (tgt := 198) (by decide +kernel) (by decide) ?_
              refine ex_putI (pc := 198) (index := 28) (ci := 9) (k := 5) (fin := false) (by decide +kernel) ⟨_, _, _, _, cf_Tape, by decide, in_t1 (i := 113) rfl rfl, rfl, (fun h => by cases h), rfl, rfl⟩ rfl (fun h => by cases h) (hF6.s (j := 43) rfl) ?_
              exact ex_return (pc := 201) (by decide +kernel) rfl h
          · replace h := h.2 hc
            refine ex_bipush (pc := 107) (k := -14) (v := -14) (by decide +kernel) (by decide) ?_
            refine ex_goto (pc := 109) (off := 89) (tgt := 198) (by decide +kernel) (by decide) ?_
            refine ex_putI (pc := 198) (index := 28) (ci := 9) (k := 5) (fin := false) (by decide +kernel) ⟨_, _, _, _, cf_Tape, by decide, in_t1 (i := 113) rfl rfl, rfl, (fun h => by cases h), rfl, rfl⟩ rfl (fun h => by cases h) (hF5.s (j := 43) rfl) ?_
            exact ex_return (pc := 201) (by decide +kernel) rfl h
        · replace h := h.2 hc
          refine ex_bipush (pc := 93) (k := -8) (v := -8) (by decide +kernel) (by decide) ?_
          refine ex_goto (pc := 95) (off := 103) (tgt := 198) (by decide +kernel) (by decide) ?_
          refine ex_putI (pc := 198) (index := 28) (ci := 9) (k := 5) (fin := false) (by decide +kernel) ⟨_, _, _, _, cf_Tape, by decide, in_t1 (i := 113) rfl rfl, rfl, (fun h => by cases h), rfl, rfl⟩ rfl (fun h => by cases h) (hF4.s (j := 43) rfl) ?_
          exact ex_return (pc := 201) (by decide +kernel) rfl h
      · replace h := h.2 hc
        refine ex_bipush (pc := 79) (k := -7) (v := -7) (by decide +kernel) (by decide) ?_
        refine ex_goto (pc := 81) (off := 117) (tgt := 198) (by decide +kernel) (by decide) ?_
        refine ex_putI (pc := 198) (index := 28) (ci := 9) (k := 5) (fin := false) (by decide +kernel) ⟨_, _, _, _, cf_Tape, by decide, in_t1 (i := 113) rfl rfl, rfl, (fun h => by cases h), rfl, rfl⟩ rfl (fun h => by cases h) (hF3.s (j := 43) rfl) ?_
        exact ex_return (pc := 201) (by decide +kernel) rfl h
    · replace h := h.2 hc
      refine ex_sipush (pc := 64) (k := 260) (v := nI 260) (by decide +kernel) (by decide) ?_
      refine ex_goto (pc := 67) (off := 131) (tgt := 198) (by decide +kernel) (by decide) ?_
      refine ex_putI (pc := 198) (index := 28) (ci := 9) (k := 5) (fin := false) (by decide +kernel) ⟨_, _, _, _, cf_Tape, by decide, in_t1 (i := 113) rfl rfl, rfl, (fun h => by cases h), rfl, rfl⟩ rfl (fun h => by cases h) (hF2.s (j := 43) rfl) ?_
      exact ex_return (pc := 201) (by decide +kernel) rfl h
  · replace h := h.2 hc
    refine ex_sipush (pc := 49) (k := 259) (v := nI 259) (by decide +kernel) (by decide) ?_
    refine ex_goto (pc := 52) (off := 146) (tgt := 198) (by decide +kernel) (by decide) ?_
    refine ex_putI (pc := 198) (index := 28) (ci := 9) (k := 5) (fin := false) (by decide +kernel) ⟨_, _, _, _, cf_Tape, by decide, in_t1 (i := 113) rfl rfl, rfl, (fun h => by cases h), rfl, rfl⟩ rfl (fun h => by cases h) (hF1.s (j := 43) rfl) ?_
    exact ex_return (pc := 201) (by decide +kernel) rfl h
theorem k_Tape_spells_0 {d bc bs : Nat} {l1 : Nat} {M : Mem} {Φ : Option Value → Mem → Prop} (hF : Fx M) (h : (1048576 ≤ l1 ∧ l1 < 1048588) ∧ Con d m_String_length 0 0 [.ref l1] M (PI fun r1 M1 => Fx M1 ∧ (((mi M 43 3) - (mi M 43 4)) = r1 → Ex (d + 1) m_Tape_spells bc bs 20 [some (.ref 43), some (.ref l1), some (.int (nI 0))] [] M1 Φ) ∧ (¬ ((mi M 43 3) - (mi M 43 4)) = r1 → Φ (some (.int (b2i false))) M1))) : Ex (d + 1) m_Tape_spells bc bs 0 [some (.ref 43), some (.ref l1), none] [] M Φ := by
  refine ex_aload_n (pc := 0) (k := 0) (by decide +kernel) rfl ?_
  refine ey_getI (pc := 1) (v := mi M 43 3) (by decide +kernel) lf_Tape_22 (hF.s (j := 43) rfl) rfl ?_
  refine ex_aload_n (pc := 4) (k := 0) (by decide +kernel) rfl ?_
  refine ey_getI (pc := 5) (v := mi M 43 4) (by decide +kernel) lf_Tape_25 (hF.s (j := 43) rfl) rfl ?_
  refine ex_isub (pc := 8) (by decide +kernel) ?_
  refine ex_aload_n (pc := 9) (k := 1) (by decide +kernel) rfl ?_
  obtain ⟨g1, h⟩ := h
  refine ex_callT (pc := 10) (as := []) (by decide +kernel) F_String_length (in_t2 (i := 132) rfl rfl) g1 rfl rfl rfl (Nat.le_of_ble_eq_true rfl) (Nat.lt_succ_self _) ⟨Nat.zero_le _, Nat.zero_le _⟩ (KC_I (Con.mono h ?_))
  intro o M1 ⟨r1, e9, hF1, h⟩
  refine ⟨r1, e9, ?_⟩
  refine ex_icmp_eq (pc := 13) (off := 5) (tgt := 18) (by decide +kernel) (by decide) (fun hc => ?_) (fun hc => ?_)
  · replace h := h.1 hc
    refine ex_iconst (pc := 18) (k := 0) (v := nI 0) (by decide +kernel) (by decide) ?_
    refine ex_istore_n (pc := 19) (k := 2) (lo2 := [some (.ref 43), some (.ref l1), some (.int (nI 0))]) (by decide +kernel) (by decide) rfl ?_
    exact h
  · replace h := h.2 hc
    refine ex_iconst (pc := 16) (k := 0) (v := nI 0) (by decide +kernel) (by decide) ?_
    exact ex_ireturn (pc := 17) (v := b2i false) (by decide +kernel) rfl (b2i_n _) h
theorem k_Tape_spells_20 {d bc bs : Nat} {l1 : Nat} {l2 : Int32} {M : Mem} {Φ : Option Value → Mem → Prop} (hF : Fx M) (h : (1048576 ≤ l1 ∧ l1 < 1048588) ∧ Con d m_String_length 0 0 [.ref l1] M (PI fun r1 M1 => Fx M1 ∧ (r1 ≤ l2 → Φ (some (.int (b2i true))) M1) ∧ (¬ r1 ≤ l2 → ((mi M1 43 1) ≤ ((mi M1 43 4) + l2) → Φ (some (.int (b2i true))) M1) ∧ (¬ (mi M1 43 1) ≤ ((mi M1 43 4) + l2) → vp_in ((mi M1 43 4) + l2) 160 ∧ (1048576 ≤ l1 ∧ l1 < 1048588) ∧ Con d m_String_charAt 0 0 [.ref l1, .int l2] M1 (PI fun r2 M2 => Fx M2 ∧ ((mi M1 44 (((mi M1 43 4) + l2).toNatClampNeg)) = r2 → Ex (d + 1) m_Tape_spells bc bs 20 [some (.ref 43), some (.ref l1), some (.int (l2 + nI 1))] [] M2 Φ) ∧ (¬ (mi M1 44 (((mi M1 43 4) + l2).toNatClampNeg)) = r2 → Φ (some (.int (b2i false))) M2)))))) : Ex (d + 1) m_Tape_spells bc bs 20 [some (.ref 43), some (.ref l1), some (.int l2)] [] M Φ := by
  refine ex_iload_n (pc := 20) (k := 2) (by decide +kernel) rfl ?_
  refine ex_aload_n (pc := 21) (k := 1) (by decide +kernel) rfl ?_
  obtain ⟨g1, h⟩ := h
  refine ex_callT (pc := 22) (as := []) (by decide +kernel) F_String_length (in_t2 (i := 132) rfl rfl) g1 rfl rfl rfl (Nat.le_of_ble_eq_true rfl) (Nat.lt_succ_self _) ⟨Nat.zero_le _, Nat.zero_le _⟩ (KC_I (Con.mono h ?_))
  intro o M1 ⟨r1, e9, hF1, h⟩
  refine ⟨r1, e9, ?_⟩
  refine ex_icmp_ge (pc := 25) (off := 43) (tgt := 68) (by decide +kernel) (by decide) (fun hc => ?_) (fun hc => ?_)
  · replace h := h.1 hc
    refine ex_iconst (pc := 68) (k := 1) (v := nI 1) (by decide +kernel) (by decide) ?_
    exact ex_ireturn (pc := 69) (v := b2i true) (by decide +kernel) rfl (b2i_n _) h
  · replace h := h.2 hc
    refine ex_aload_n (pc := 28) (k := 0) (by decide +kernel) rfl ?_
    refine ey_getI (pc := 29) (v := mi M1 43 4) (by decide +kernel) lf_Tape_25 (hF1.s (j := 43) rfl) rfl ?_
    refine ex_iload_n (pc := 32) (k := 2) (by decide +kernel) rfl ?_
    refine ex_iadd (pc := 33) (by decide +kernel) ?_
    refine ex_aload_n (pc := 34) (k := 0) (by decide +kernel) rfl ?_
    refine ey_getI (pc := 35) (v := mi M1 43 1) (by decide +kernel) lf_Tape_15 (hF1.s (j := 43) rfl) rfl ?_
    refine ex_icmp_ge (pc := 38) (off := 30) (tgt := 68) (by decide +kernel) (by decide) (fun hc => ?_) (fun hc => ?_)
    · replace h := h.1 hc
      refine ex_iconst (pc := 68) (k := 1) (v := nI 1) (by decide +kernel) (by decide) ?_
      exact ex_ireturn (pc := 69) (v := b2i true) (by decide +kernel) rfl (b2i_n _) h
    · replace h := h.2 hc
      refine ex_aload_n (pc := 41) (k := 0) (by decide +kernel) rfl ?_
      refine ex_getR (pc := 42) (a := 44) (by decide +kernel) lf_Tape_9 (hF1.s (j := 43) rfl) (hF1.r (j := 43) (k := 0) rfl rfl) ?_
      refine ex_aload_n (pc := 45) (k := 0) (by decide +kernel) rfl ?_
      refine ey_getI (pc := 46) (v := mi M1 43 4) (by decide +kernel) lf_Tape_25 (hF1.s (j := 43) rfl) rfl ?_
      refine ex_iload_n (pc := 49) (k := 2) (by decide +kernel) rfl ?_
      refine ex_iadd (pc := 50) (by decide +kernel) ?_
      obtain ⟨g2, h⟩ := h
      refine ey_iald (pc := 51) (v := mi M1 44 (((mi M1 43 4) + l2).toNatClampNeg)) (by decide +kernel) (hF1.s (j := 44) rfl) g2 rfl rfl ?_
      refine ex_aload_n (pc := 52) (k := 1) (by decide +kernel) rfl ?_
      refine ex_iload_n (pc := 53) (k := 2) (by decide +kernel) rfl ?_
      obtain ⟨g3, h⟩ := h
      refine ex_callT (pc := 54) (as := [.int l2]) (by decide +kernel) F_String_charAt (in_t2 (i := 133) rfl rfl) g3 rfl rfl rfl (Nat.le_of_ble_eq_true rfl) (Nat.lt_succ_self _) ⟨Nat.zero_le _, Nat.zero_le _⟩ (KC_I (Con.mono h ?_))
      intro o M2 ⟨r2, e9, hF2, h⟩
      refine ⟨r2, e9, ?_⟩
      refine ex_icmp_eq (pc := 57) (off := 5) (tgt := 62) (by decide +kernel) (by decide) (fun hc => ?_) (fun hc => ?_)
      · replace h := h.1 hc
        refine ex_iinc (pc := 62) (i := 2) (k := 1) (v := l2 + nI 1) (lo2 := [some (.ref 43), some (.ref l1), some (.int (l2 + nI 1))]) (by decide +kernel) (by decide) rfl rfl rfl ?_
        refine ex_goto (pc := 65) (off := -45) (tgt := 20) (by decide +kernel) (by decide) ?_
        exact h
      · replace h := h.2 hc
        refine ex_iconst (pc := 60) (k := 0) (v := nI 0) (by decide +kernel) (by decide) ?_
        exact ex_ireturn (pc := 61) (v := b2i false) (by decide +kernel) rfl (b2i_n _) h
theorem k_Tape_isLetter_0 {d bc bs : Nat} {l0 : Int32} {M : Mem} {Φ : Option Value → Mem → Prop} (hF : Fx M) (h : (l0 < (nI 97) → Φ (some (.int (b2i false))) M) ∧ (¬ l0 < (nI 97) → ((nI 122) < l0 → Φ (some (.int (b2i false))) M) ∧ (¬ (nI 122) < l0 → Φ (some (.int (b2i true))) M))) : Ex (d + 1) m_Tape_isLetter bc bs 0 [some (.int l0)] [] M Φ := by
  refine ex_iload_n (pc := 0) (k := 0) (by decide +kernel) rfl ?_
  refine ex_bipush (pc := 1) (k := 97) (v := nI 97) (by decide +kernel) (by decide) ?_
  refine ex_icmp_lt (pc := 3) (off := 13) (tgt := 16) (by decide +kernel) (by decide) (fun hc => ?_) (fun hc => ?_)
  · replace h := h.1 hc
    refine ex_iconst (pc := 16) (k := 0) (v := nI 0) (by decide +kernel) (by decide) ?_
    exact ex_ireturn (pc := 17) (v := b2i false) (by decide +kernel) rfl (b2i_n _) h
  · replace h := h.2 hc
    refine ex_iload_n (pc := 6) (k := 0) (by decide +kernel) rfl ?_
    refine ex_bipush (pc := 7) (k := 122) (v := nI 122) (by decide +kernel) (by decide) ?_
    refine ex_icmp_gt (pc := 9) (off := 7) (tgt := 16) (by decide +kernel) (by decide) (fun hc => ?_) (fun hc => ?_)
    · replace h := h.1 hc
      refine ex_iconst (pc := 16) (k := 0) (v := nI 0) (by decide +kernel) (by decide) ?_
      exact ex_ireturn (pc := 17) (v := b2i false) (by decide +kernel) rfl (b2i_n _) h
    · replace h := h.2 hc
      refine ex_iconst (pc := 12) (k := 1) (v := nI 1) (by decide +kernel) (by decide) ?_
      refine ex_goto (pc := 13) (off := 4) (tgt := 17) (by decide +kernel) (by decide) ?_
      exact ex_ireturn (pc := 17) (v := b2i true) (by decide +kernel) rfl (b2i_n _) h
theorem k_Tape_isDigit_0 {d bc bs : Nat} {l0 : Int32} {M : Mem} {Φ : Option Value → Mem → Prop} (hF : Fx M) (h : (l0 < (nI 48) → Φ (some (.int (b2i false))) M) ∧ (¬ l0 < (nI 48) → ((nI 57) < l0 → Φ (some (.int (b2i false))) M) ∧ (¬ (nI 57) < l0 → Φ (some (.int (b2i true))) M))) : Ex (d + 1) m_Tape_isDigit bc bs 0 [some (.int l0)] [] M Φ := by
  refine ex_iload_n (pc := 0) (k := 0) (by decide +kernel) rfl ?_
  refine ex_bipush (pc := 1) (k := 48) (v := nI 48) (by decide +kernel) (by decide) ?_
  refine ex_icmp_lt (pc := 3) (off := 13) (tgt := 16) (by decide +kernel) (by decide) (fun hc => ?_) (fun hc => ?_)
  · replace h := h.1 hc
    refine ex_iconst (pc := 16) (k := 0) (v := nI 0) (by decide +kernel) (by decide) ?_
    exact ex_ireturn (pc := 17) (v := b2i false) (by decide +kernel) rfl (b2i_n _) h
  · replace h := h.2 hc
    refine ex_iload_n (pc := 6) (k := 0) (by decide +kernel) rfl ?_
    refine ex_bipush (pc := 7) (k := 57) (v := nI 57) (by decide +kernel) (by decide) ?_
    refine ex_icmp_gt (pc := 9) (off := 7) (tgt := 16) (by decide +kernel) (by decide) (fun hc => ?_) (fun hc => ?_)
    · replace h := h.1 hc
      refine ex_iconst (pc := 16) (k := 0) (v := nI 0) (by decide +kernel) (by decide) ?_
      exact ex_ireturn (pc := 17) (v := b2i false) (by decide +kernel) rfl (b2i_n _) h
    · replace h := h.2 hc
      refine ex_iconst (pc := 12) (k := 1) (v := nI 1) (by decide +kernel) (by decide) ?_
      refine ex_goto (pc := 13) (off := 4) (tgt := 17) (by decide +kernel) (by decide) ?_
      exact ex_ireturn (pc := 17) (v := b2i true) (by decide +kernel) rfl (b2i_n _) h
theorem k_Tape_isSign_0 {d bc bs : Nat} {l0 : Int32} {M : Mem} {Φ : Option Value → Mem → Prop} (hF : Fx M) (h : (l0 = (nI 40) → Φ (some (.int (b2i true))) M) ∧ (¬ l0 = (nI 40) → (l0 = (nI 41) → Φ (some (.int (b2i true))) M) ∧ (¬ l0 = (nI 41) → (l0 = (nI 59) → Φ (some (.int (b2i true))) M) ∧ (¬ l0 = (nI 59) → (l0 = (nI 43) → Φ (some (.int (b2i true))) M) ∧ (¬ l0 = (nI 43) → (l0 = (nI 45) → Φ (some (.int (b2i true))) M) ∧ (¬ l0 = (nI 45) → (l0 = (nI 42) → Φ (some (.int (b2i true))) M) ∧ (¬ l0 = (nI 42) → (l0 = (nI 60) → Φ (some (.int (b2i true))) M) ∧ (¬ l0 = (nI 60) → (¬ l0 = (nI 61) → Φ (some (.int (b2i false))) M) ∧ (l0 = (nI 61) → Φ (some (.int (b2i true))) M))))))))) : Ex (d + 1) m_Tape_isSign bc bs 0 [some (.int l0)] [] M Φ := by
  refine ex_iload_n (pc := 0) (k := 0) (by decide +kernel) rfl ?_
  refine ex_bipush (pc := 1) (k := 40) (v := nI 40) (by decide +kernel) (by decide) ?_
  refine ex_icmp_eq (pc := 3) (off := 45) (tgt := 48) (by decide +kernel) (by decide) (fun hc => ?_) (fun hc => ?_)
  · replace h := h.1 hc
    refine ex_iconst (pc := 48) (k := 1) (v := nI 1) (by decide +kernel) (by decide) ?_
    refine ex_goto (pc := 49) (off := 4) (tgt := 53) (by decide +kernel) (by decide) ?_
    exact ex_ireturn (pc := 53) (v := b2i true) (by decide +kernel) rfl (b2i_n _) h
  · replace h := h.2 hc
    refine ex_iload_n (pc := 6) (k := 0) (by decide +kernel) rfl ?_
    refine ex_bipush (pc := 7) (k := 41) (v := nI 41) (by decide +kernel) (by decide) ?_
    refine ex_icmp_eq (pc := 9) (off := 39) (tgt := 48) (by decide +kernel) (by decide) (fun hc => ?_) (fun hc => ?_)
    · replace h := h.1 hc
      refine ex_iconst (pc := 48) (k := 1) (v := nI 1) (by decide +kernel) (by decide) ?_
      refine ex_goto (pc := 49) (off := 4) (tgt := 53) (by decide +kernel) (by decide) ?_
      exact ex_ireturn (pc := 53) (v := b2i true) (by decide +kernel) rfl (b2i_n _) h
    · replace h := h.2 hc
      refine ex_iload_n (pc := 12) (k := 0) (by decide +kernel) rfl ?_
      refine ex_bipush (pc := 13) (k := 59) (v := nI 59) (by decide +kernel) (by decide) ?_
      refine ex_icmp_eq (pc := 15) (off := 33) (tgt := 48) (by decide +kernel) (by decide) (fun hc => ?_) (fun hc => ?_)
      · replace h := h.1 hc
        refine ex_iconst (pc := 48) (k := 1) (v := nI 1) (by decide +kernel) (by decide) ?_
        refine ex_goto (pc := 49) (off := 4) (tgt := 53) (by decide +kernel) (by decide) ?_
        exact ex_ireturn (pc := 53) (v := b2i true) (by decide +kernel) rfl (b2i_n _) h
      · replace h := h.2 hc
        refine ex_iload_n (pc := 18) (k := 0) (by decide +kernel) rfl ?_
        refine ex_bipush (pc := 19) (k := 43) (v := nI 43) (by decide +kernel) (by decide) ?_
        refine ex_icmp_eq (pc := 21) (off := 27) (tgt := 48) (by decide +kernel) (by decide) (fun hc => ?_) (fun hc => ?_)
        · replace h := h.1 hc
          refine ex_iconst (pc := 48) (k := 1) (v := nI 1) (by decide +kernel) (by decide) ?_
          refine ex_goto (pc := 49) (off := 4) (tgt := 53) (by decide +kernel) (by decide) ?_
          exact ex_ireturn (pc := 53) (v := b2i true) (by decide +kernel) rfl (b2i_n _) h
        · replace h := h.2 hc
          refine ex_iload_n (pc := 24) (k := 0) (by decide +kernel) rfl ?_
          refine ex_bipush (pc := 25) (k := 45) (v := nI 45) (by decide +kernel) (by decide) ?_
          refine ex_icmp_eq (pc := 27) (off := 21) (tgt := 48) (by decide +kernel) (by decide) (fun hc => ?_) (fun hc => ?_)
          · replace h := h.1 hc
            refine ex_iconst (pc := 48) (k := 1) (v := nI 1) (by decide +kernel) (by decide) ?_
            refine ex_goto (pc := 49) (off := 4) (tgt := 53) (by decide +kernel) (by decide) ?_
            exact ex_ireturn (pc := 53) (v := b2i true) (by decide +kernel) rfl (b2i_n _) h
          · replace h := h.2 hc
            refine ex_iload_n (pc := 30) (k := 0) (by decide +kernel) rfl ?_
            refine ex_bipush (pc := 31) (k := 42) (v := nI 42) (by decide +kernel) (by decide) ?_
            refine ex_icmp_eq (pc := 33) (off := 15) (tgt := 48) (by decide +kernel) (by decide) (fun hc => ?_) (fun hc => ?_)
            · replace h := h.1 hc
              refine ex_iconst (pc := 48) (k := 1) (v := nI 1) (by decide +kernel) (by decide) ?_
              refine ex_goto (pc := 49) (off := 4) (tgt := 53) (by decide +kernel) (by decide) ?_
              exact ex_ireturn (pc := 53) (v := b2i true) (by decide +kernel) rfl (b2i_n _) h
            · replace h := h.2 hc
              refine ex_iload_n (pc := 36) (k := 0) (by decide +kernel) rfl ?_
              refine ex_bipush (pc := 37) (k := 60) (v := nI 60) (by decide +kernel) (by decide) ?_
              refine ex_icmp_eq (pc := 39) (off := 9) (tgt := 48) (by decide +kernel) (by decide) (fun hc => ?_) (fun hc => ?_)
              · replace h := h.1 hc
                refine ex_iconst (pc := 48) (k := 1) (v := nI 1) (by decide +kernel) (by decide) ?_
                refine ex_goto (pc := 49) (off := 4) (tgt := 53) (by decide +kernel) (by decide) ?_
                exact ex_ireturn (pc := 53) (v := b2i true) (by decide +kernel) rfl (b2i_n _) h
              · replace h := h.2 hc
                refine ex_iload_n (pc := 42) (k := 0) (by decide +kernel) rfl ?_
                refine ex_bipush (pc := 43) (k := 61) (v := nI 61) (by decide +kernel) (by decide) ?_
                refine ex_icmp_ne (pc := 45) (off := 7) (tgt := 52) (by decide +kernel) (by decide) (fun hc => ?_) (fun hc => ?_)
                · replace h := h.1 hc
                  refine ex_iconst (pc := 52) (k := 0) (v := nI 0) (by decide +kernel) (by decide) ?_
                  exact ex_ireturn (pc := 53) (v := b2i false) (by decide +kernel) rfl (b2i_n _) h
                · replace h := h.2 hc
                  refine ex_iconst (pc := 48) (k := 1) (v := nI 1) (by decide +kernel) (by decide) ?_
                  refine ex_goto (pc := 49) (off := 4) (tgt := 53) (by decide +kernel) (by decide) ?_
                  exact ex_ireturn (pc := 53) (v := b2i true) (by decide +kernel) rfl (b2i_n _) h
