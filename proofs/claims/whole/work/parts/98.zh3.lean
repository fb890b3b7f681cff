/-! the law's cases 9 to 17 -/
theorem lc_9 {L i n c : Nat} {xs : Nat → Int32} {σ : St} {M : Mem} {Φ : Option Value → Mem → Prop} (hL : L ≤ 3072) (hi : i + 6 ≤ L) (hc : c ≤ 10000) (I : LI L xs c σ M) (H : ∀ τ M2, LI L xs (c + 3) τ M2 → Ex 48 m_ML_law (3 * n) (330 * n) 1445 (lc4 i) [] M2 Φ) : Ex 48 m_ML_law (3 * n + 3) (330 * n + 330) 499 (lc4 i) [] M Φ := by
  have hlen := I.2.2.2.1.2
  refine ex_aload_n (pc := 499) (k := 1) (x := 0) (by decide +kernel) rfl ?_
  refine la_arg (pc := 500) (k := 1) (by decide +kernel) (by decide) I.2.2.2.2 hL (by omega) ?_
  refine ex_callV (pc := 505) (d2 := 47) (as := [.int (xs (i + 1))]) (by decide +kernel) F_MD_force (in_t3 (i := 98) rfl rfl) (I.2.1.1.s (j := 0) rfl) rfl (by decide) rfl rfl (Nat.le_of_ble_eq_true rfl) (by decide) ⟨Nat.zero_le _, Nat.zero_le _⟩ (KC_I (Con.grI (sX_force (d := 46) I.1 I.2.1 (fun M1 h1 g1 => ?_))))
  have s1 := I.2.2.2.2.gr g1
  have m1 := h1.2 σ I.2.2.1
  refine ex_aload_n (pc := 508) (k := 2) (x := 78) (by decide +kernel) rfl ?_
  refine la_arg (pc := 509) (k := 1) (by decide +kernel) (by decide) s1 hL (by omega) ?_
  refine ex_callV (pc := 514) (d2 := 47) (as := [.int (xs (i + 1))]) (by decide +kernel) F_MM_force (in_t6 (i := 98) rfl rfl) (m1.1.s (j := 78) rfl) rfl (by decide) rfl rfl (Nat.le_of_ble_eq_true rfl) (by decide) ⟨Nat.zero_le _, Nat.zero_le _⟩ (KC_I (Con.grI (sM_force (d := 45) I.1 m1 (fun M2 h2 g2 => ?_))))
  refine ex_icmp_eq (pc := 517) (off := 928) (tgt := 1445) (by decide +kernel) (by decide) (fun _ => ?_) (fun q => absurd rfl q)
  exact (H _ M2 (I.nx (I.1.force (xs (i + 1))) h1 g1 h2 g2 (by decide))).bud (by omega) (by omega)
theorem lc_10 {L i n c : Nat} {xs : Nat → Int32} {σ : St} {M : Mem} {Φ : Option Value → Mem → Prop} (hL : L ≤ 3072) (hi : i + 6 ≤ L) (hc : c ≤ 10000) (I : LI L xs c σ M) (H : ∀ τ M2, LI L xs (c + 3) τ M2 → Ex 48 m_ML_law (3 * n) (330 * n) 1445 (lc4 i) [] M2 Φ) : Ex 48 m_ML_law (3 * n + 3) (330 * n + 330) 522 (lc4 i) [] M Φ := by
  have hlen := I.2.2.2.1.2
  refine ex_aload_n (pc := 522) (k := 1) (x := 0) (by decide +kernel) rfl ?_
  refine la_arg (pc := 523) (k := 1) (by decide +kernel) (by decide) I.2.2.2.2 hL (by omega) ?_
  refine la_arg (pc := 528) (k := 2) (by decide +kernel) (by decide) I.2.2.2.2 hL (by omega) ?_
  refine ex_callV (pc := 533) (d2 := 47) (as := [.int (xs (i + 1)), .int (xs (i + 2))]) (by decide +kernel) F_MD_says (in_t3 (i := 102) rfl rfl) (I.2.1.1.s (j := 0) rfl) rfl (by decide) rfl rfl (Nat.le_of_ble_eq_true rfl) (by decide) ⟨Nat.zero_le _, Nat.zero_le _⟩ (KC_L (Con.grL (sX_says (d := 43) I.1 I.2.1 (fun M1 h1 g1 => ?_))))
  have s1 := I.2.2.2.2.gr g1
  have m1 := h1.2 σ I.2.2.1
  refine ex_aload_n (pc := 536) (k := 2) (x := 78) (by decide +kernel) rfl ?_
  refine la_arg (pc := 537) (k := 1) (by decide +kernel) (by decide) s1 hL (by omega) ?_
  refine la_arg (pc := 542) (k := 2) (by decide +kernel) (by decide) s1 hL (by omega) ?_
  refine ex_callV (pc := 547) (d2 := 47) (as := [.int (xs (i + 1)), .int (xs (i + 2))]) (by decide +kernel) F_MM_says (in_t6 (i := 102) rfl rfl) (m1.1.s (j := 78) rfl) rfl (by decide) rfl rfl (Nat.le_of_ble_eq_true rfl) (by decide) ⟨Nat.zero_le _, Nat.zero_le _⟩ (KC_L (Con.grL (sM_says (d := 43) I.1 m1 (fun M2 h2 g2 => ?_))))
  refine ex_lcmp (pc := 550) (by decide +kernel) ?_
  refine ex_if_eq (pc := 551) (off := 894) (tgt := 1445) (by decide +kernel) (by decide) (fun _ => ?_) (fun q => absurd (lg_0.mpr rfl) q)
  exact (H _ M2 (I.nx I.1 h1 g1 h2 g2 (by decide))).bud (by omega) (by omega)
theorem lc_11 {L i n c : Nat} {xs : Nat → Int32} {σ : St} {M : Mem} {Φ : Option Value → Mem → Prop} (hL : L ≤ 3072) (hi : i + 6 ≤ L) (hc : c ≤ 10000) (I : LI L xs c σ M) (H : ∀ τ M2, LI L xs (c + 3) τ M2 → Ex 48 m_ML_law (3 * n) (330 * n) 1445 (lc4 i) [] M2 Φ) : Ex 48 m_ML_law (3 * n + 3) (330 * n + 330) 556 (lc4 i) [] M Φ := by
  have hlen := I.2.2.2.1.2
  refine ex_aload_n (pc := 556) (k := 1) (x := 0) (by decide +kernel) rfl ?_
  refine la_arg (pc := 557) (k := 1) (by decide +kernel) (by decide) I.2.2.2.2 hL (by omega) ?_
  refine la_arg (pc := 562) (k := 2) (by decide +kernel) (by decide) I.2.2.2.2 hL (by omega) ?_
  refine la_arg (pc := 567) (k := 3) (by decide +kernel) (by decide) I.2.2.2.2 hL (by omega) ?_
  refine la_arg (pc := 572) (k := 4) (by decide +kernel) (by decide) I.2.2.2.2 hL (by omega) ?_
  refine ex_callV (pc := 577) (d2 := 47) (as := [.int (xs (i + 1)), .int (xs (i + 2)), .int (xs (i + 3)), .int (xs (i + 4))]) (by decide +kernel) F_MD_worthOf (in_t3 (i := 126) rfl rfl) (I.2.1.1.s (j := 0) rfl) rfl (by decide) rfl rfl (Nat.le_of_ble_eq_true rfl) (by decide) ⟨Nat.zero_le _, Nat.zero_le _⟩ (KC_L (Con.grL (sX_worthOf (d := 43) I.1 I.2.1 (fun M1 h1 g1 => ?_))))
  have s1 := I.2.2.2.2.gr g1
  have m1 := h1.2 σ I.2.2.1
  refine ex_aload_n (pc := 580) (k := 2) (x := 78) (by decide +kernel) rfl ?_
  refine la_arg (pc := 581) (k := 1) (by decide +kernel) (by decide) s1 hL (by omega) ?_
  refine la_arg (pc := 586) (k := 2) (by decide +kernel) (by decide) s1 hL (by omega) ?_
  refine la_arg (pc := 591) (k := 3) (by decide +kernel) (by decide) s1 hL (by omega) ?_
  refine la_arg (pc := 596) (k := 4) (by decide +kernel) (by decide) s1 hL (by omega) ?_
  refine ex_callV (pc := 601) (d2 := 47) (as := [.int (xs (i + 1)), .int (xs (i + 2)), .int (xs (i + 3)), .int (xs (i + 4))]) (by decide +kernel) F_MM_worthOf (in_t6 (i := 122) rfl rfl) (m1.1.s (j := 78) rfl) rfl (by decide) rfl rfl (Nat.le_of_ble_eq_true rfl) (by decide) ⟨Nat.zero_le _, Nat.zero_le _⟩ (KC_L (Con.grL (sM_worthOf (d := 43) I.1 m1 (fun M2 h2 g2 => ?_))))
  refine ex_lcmp (pc := 604) (by decide +kernel) ?_
  refine ex_if_eq (pc := 605) (off := 840) (tgt := 1445) (by decide +kernel) (by decide) (fun _ => ?_) (fun q => absurd (lg_0.mpr rfl) q)
  exact (H _ M2 (I.nx I.1 h1 g1 h2 g2 (by decide))).bud (by omega) (by omega)
theorem lc_12 {L i n c : Nat} {xs : Nat → Int32} {σ : St} {M : Mem} {Φ : Option Value → Mem → Prop} (hL : L ≤ 3072) (hi : i + 6 ≤ L) (hc : c ≤ 10000) (I : LI L xs c σ M) (H : ∀ τ M2, LI L xs (c + 3) τ M2 → Ex 48 m_ML_law (3 * n) (330 * n) 1445 (lc4 i) [] M2 Φ) : Ex 48 m_ML_law (3 * n + 3) (330 * n + 330) 610 (lc4 i) [] M Φ := by
  have hlen := I.2.2.2.1.2
  refine ex_aload_n (pc := 610) (k := 1) (x := 0) (by decide +kernel) rfl ?_
  refine la_arg (pc := 611) (k := 1) (by decide +kernel) (by decide) I.2.2.2.2 hL (by omega) ?_
  refine la_arg (pc := 616) (k := 2) (by decide +kernel) (by decide) I.2.2.2.2 hL (by omega) ?_
  refine ex_callV (pc := 621) (d2 := 47) (as := [.int (xs (i + 1)), .int (xs (i + 2))]) (by decide +kernel) F_MD_giving (in_t3 (i := 138) rfl rfl) (I.2.1.1.s (j := 0) rfl) rfl (by decide) rfl rfl (Nat.le_of_ble_eq_true rfl) (by decide) ⟨by omega, by omega⟩ (KC_I (Con.grI (sX_giving (d := 43) I.1 I.2.1 I.2.2.2.1.1 (by omega) (fun M1 h1 g1 => ?_))))
  have s1 := I.2.2.2.2.gr g1
  have m1 := h1.2 σ I.2.2.1
  refine ex_aload_n (pc := 624) (k := 2) (x := 78) (by decide +kernel) rfl ?_
  refine la_arg (pc := 625) (k := 1) (by decide +kernel) (by decide) s1 hL (by omega) ?_
  refine la_arg (pc := 630) (k := 2) (by decide +kernel) (by decide) s1 hL (by omega) ?_
  refine ex_callV (pc := 635) (d2 := 47) (as := [.int (xs (i + 1)), .int (xs (i + 2))]) (by decide +kernel) F_MM_giving (in_t6 (i := 130) rfl rfl) (m1.1.s (j := 78) rfl) rfl (by decide) rfl rfl (Nat.le_of_ble_eq_true rfl) (by decide) ⟨Nat.zero_le _, Nat.zero_le _⟩ (KC_I (Con.grI (sM_giving (d := 44) I.1 m1 (fun M2 h2 g2 => ?_))))
  refine ex_icmp_eq (pc := 638) (off := 807) (tgt := 1445) (by decide +kernel) (by decide) (fun _ => ?_) (fun q => absurd rfl q)
  exact (H _ M2 (I.nx (I.1.giving (xs (i + 1)) (xs (i + 2))) h1 g1 h2 g2 (by decide))).bud (by omega) (by omega)
theorem lc_13 {L i n c : Nat} {xs : Nat → Int32} {σ : St} {M : Mem} {Φ : Option Value → Mem → Prop} (hL : L ≤ 3072) (hi : i + 6 ≤ L) (hc : c ≤ 10000) (I : LI L xs c σ M) (H : ∀ τ M2, LI L xs (c + 3) τ M2 → Ex 48 m_ML_law (3 * n) (330 * n) 1445 (lc4 i) [] M2 Φ) : Ex 48 m_ML_law (3 * n + 3) (330 * n + 330) 643 (lc4 i) [] M Φ := by
  have hlen := I.2.2.2.1.2
  refine ex_aload_n (pc := 643) (k := 1) (x := 0) (by decide +kernel) rfl ?_
  refine la_arg (pc := 644) (k := 1) (by decide +kernel) (by decide) I.2.2.2.2 hL (by omega) ?_
  refine la_arg (pc := 649) (k := 2) (by decide +kernel) (by decide) I.2.2.2.2 hL (by omega) ?_
  refine la_arg (pc := 654) (k := 3) (by decide +kernel) (by decide) I.2.2.2.2 hL (by omega) ?_
  refine ex_callV (pc := 659) (d2 := 47) (as := [.int (xs (i + 1)), .int (xs (i + 2)), .int (xs (i + 3))]) (by decide +kernel) F_MD_marketOf (in_t3 (i := 177) rfl rfl) (I.2.1.1.s (j := 0) rfl) rfl (by decide) rfl rfl (Nat.le_of_ble_eq_true rfl) (by decide) ⟨Nat.zero_le _, Nat.zero_le _⟩ (KC_I (Con.grI (sX_marketOf (d := 43) I.1 I.2.1 (fun M1 h1 g1 => ?_))))
  have s1 := I.2.2.2.2.gr g1
  have m1 := h1.2 σ I.2.2.1
  refine ex_aload_n (pc := 662) (k := 2) (x := 78) (by decide +kernel) rfl ?_
  refine la_arg (pc := 663) (k := 1) (by decide +kernel) (by decide) s1 hL (by omega) ?_
  refine la_arg (pc := 668) (k := 2) (by decide +kernel) (by decide) s1 hL (by omega) ?_
  refine la_arg (pc := 673) (k := 3) (by decide +kernel) (by decide) s1 hL (by omega) ?_
  refine ex_callV (pc := 678) (d2 := 47) (as := [.int (xs (i + 1)), .int (xs (i + 2)), .int (xs (i + 3))]) (by decide +kernel) F_MM_marketOf (in_t6 (i := 138) rfl rfl) (m1.1.s (j := 78) rfl) rfl (by decide) rfl rfl (Nat.le_of_ble_eq_true rfl) (by decide) ⟨Nat.zero_le _, Nat.zero_le _⟩ (KC_I (Con.grI (sM_marketOf (d := 43) I.1 m1 (fun M2 h2 g2 => ?_))))
  refine ex_icmp_eq (pc := 681) (off := 764) (tgt := 1445) (by decide +kernel) (by decide) (fun _ => ?_) (fun q => absurd rfl q)
  exact (H _ M2 (I.nx I.1 h1 g1 h2 g2 (by decide))).bud (by omega) (by omega)
theorem lc_14 {L i n c : Nat} {xs : Nat → Int32} {σ : St} {M : Mem} {Φ : Option Value → Mem → Prop} (hL : L ≤ 3072) (hi : i + 6 ≤ L) (hc : c ≤ 10000) (I : LI L xs c σ M) (H : ∀ τ M2, LI L xs (c + 3) τ M2 → Ex 48 m_ML_law (3 * n) (330 * n) 1445 (lc4 i) [] M2 Φ) : Ex 48 m_ML_law (3 * n + 3) (330 * n + 330) 686 (lc4 i) [] M Φ := by
  have hlen := I.2.2.2.1.2
  refine ex_aload_n (pc := 686) (k := 1) (x := 0) (by decide +kernel) rfl ?_
  refine la_arg (pc := 687) (k := 1) (by decide +kernel) (by decide) I.2.2.2.2 hL (by omega) ?_
  refine la_arg (pc := 692) (k := 2) (by decide +kernel) (by decide) I.2.2.2.2 hL (by omega) ?_
  refine ex_callV (pc := 697) (d2 := 47) (as := [.int (xs (i + 1)), .int (xs (i + 2))]) (by decide +kernel) F_MD_bar (in_t3 (i := 215) rfl rfl) (I.2.1.1.s (j := 0) rfl) rfl (by decide) rfl rfl (Nat.le_of_ble_eq_true rfl) (by decide) ⟨Nat.zero_le _, Nat.zero_le _⟩ (KC_I (Con.grI (sX_bar (d := 41) I.1 I.2.1 (fun M1 h1 g1 => ?_))))
  have s1 := I.2.2.2.2.gr g1
  have m1 := h1.2 σ I.2.2.1
  refine ex_aload_n (pc := 700) (k := 2) (x := 78) (by decide +kernel) rfl ?_
  refine la_arg (pc := 701) (k := 1) (by decide +kernel) (by decide) s1 hL (by omega) ?_
  refine la_arg (pc := 706) (k := 2) (by decide +kernel) (by decide) s1 hL (by omega) ?_
  refine ex_callV (pc := 711) (d2 := 47) (as := [.int (xs (i + 1)), .int (xs (i + 2))]) (by decide +kernel) F_MM_bar (in_t6 (i := 154) rfl rfl) (m1.1.s (j := 78) rfl) rfl (by decide) rfl rfl (Nat.le_of_ble_eq_true rfl) (by decide) ⟨Nat.zero_le _, Nat.zero_le _⟩ (KC_I (Con.grI (sM_bar (d := 42) I.1 m1 (fun M2 h2 g2 => ?_))))
  refine ex_icmp_eq (pc := 714) (off := 731) (tgt := 1445) (by decide +kernel) (by decide) (fun _ => ?_) (fun q => absurd rfl q)
  exact (H _ M2 (I.nx I.1 h1 g1 h2 g2 (by decide))).bud (by omega) (by omega)
theorem lc_15 {L i n c : Nat} {xs : Nat → Int32} {σ : St} {M : Mem} {Φ : Option Value → Mem → Prop} (hL : L ≤ 3072) (hi : i + 6 ≤ L) (hc : c ≤ 10000) (I : LI L xs c σ M) (H : ∀ τ M2, LI L xs (c + 3) τ M2 → Ex 48 m_ML_law (3 * n) (330 * n) 1445 (lc4 i) [] M2 Φ) : Ex 48 m_ML_law (3 * n + 3) (330 * n + 330) 719 (lc4 i) [] M Φ := by
  have hlen := I.2.2.2.1.2
  refine ex_aload_n (pc := 719) (k := 1) (x := 0) (by decide +kernel) rfl ?_
  refine la_arg (pc := 720) (k := 1) (by decide +kernel) (by decide) I.2.2.2.2 hL (by omega) ?_
  refine la_arg (pc := 725) (k := 2) (by decide +kernel) (by decide) I.2.2.2.2 hL (by omega) ?_
  refine ex_callV (pc := 730) (d2 := 47) (as := [.int (xs (i + 1)), .int (xs (i + 2))]) (by decide +kernel) F_MD_lawful (in_t4 (i := 7) rfl rfl) (I.2.1.1.s (j := 0) rfl) rfl (by decide) rfl rfl (Nat.le_of_ble_eq_true rfl) (by decide) ⟨Nat.zero_le _, Nat.zero_le _⟩ (KC_I (Con.grI (sX_lawful (d := 41) I.1 I.2.1 (fun M1 h1 g1 => ?_))))
  have s1 := I.2.2.2.2.gr g1
  have m1 := h1.2 σ I.2.2.1
  refine ex_aload_n (pc := 733) (k := 2) (x := 78) (by decide +kernel) rfl ?_
  refine la_arg (pc := 734) (k := 1) (by decide +kernel) (by decide) s1 hL (by omega) ?_
  refine la_arg (pc := 739) (k := 2) (by decide +kernel) (by decide) s1 hL (by omega) ?_
  refine ex_callV (pc := 744) (d2 := 47) (as := [.int (xs (i + 1)), .int (xs (i + 2))]) (by decide +kernel) F_MM_lawful (in_t6 (i := 178) rfl rfl) (m1.1.s (j := 78) rfl) rfl (by decide) rfl rfl (Nat.le_of_ble_eq_true rfl) (by decide) ⟨Nat.zero_le _, Nat.zero_le _⟩ (KC_I (Con.grI (sM_lawful (d := 42) I.1 m1 (fun M2 h2 g2 => ?_))))
  refine ex_icmp_eq (pc := 747) (off := 698) (tgt := 1445) (by decide +kernel) (by decide) (fun _ => ?_) (fun q => absurd rfl q)
  exact (H _ M2 (I.nx I.1 h1 g1 h2 g2 (by decide))).bud (by omega) (by omega)
theorem lc_16 {L i n c : Nat} {xs : Nat → Int32} {σ : St} {M : Mem} {Φ : Option Value → Mem → Prop} (hL : L ≤ 3072) (hi : i + 6 ≤ L) (hc : c ≤ 10000) (I : LI L xs c σ M) (H : ∀ τ M2, LI L xs (c + 3) τ M2 → Ex 48 m_ML_law (3 * n) (330 * n) 1445 (lc4 i) [] M2 Φ) : Ex 48 m_ML_law (3 * n + 3) (330 * n + 330) 752 (lc4 i) [] M Φ := by
  have hlen := I.2.2.2.1.2
  refine ex_aload_n (pc := 752) (k := 1) (x := 0) (by decide +kernel) rfl ?_
  refine la_arg (pc := 753) (k := 1) (by decide +kernel) (by decide) I.2.2.2.2 hL (by omega) ?_
  refine la_arg (pc := 758) (k := 2) (by decide +kernel) (by decide) I.2.2.2.2 hL (by omega) ?_
  refine la_arg (pc := 763) (k := 3) (by decide +kernel) (by decide) I.2.2.2.2 hL (by omega) ?_
  refine ex_callV (pc := 768) (d2 := 47) (as := [.int (xs (i + 1)), .int (xs (i + 2)), .int (xs (i + 3))]) (by decide +kernel) F_MD_judge (in_t4 (i := 11) rfl rfl) (I.2.1.1.s (j := 0) rfl) rfl (by decide) rfl rfl (Nat.le_of_ble_eq_true rfl) (by decide) ⟨Nat.zero_le _, Nat.zero_le _⟩ (KC_L (Con.grL (sX_judge (d := 41) I.1 I.2.1 (fun M1 h1 g1 => ?_))))
  have s1 := I.2.2.2.2.gr g1
  have m1 := h1.2 σ I.2.2.1
  refine ex_aload_n (pc := 771) (k := 2) (x := 78) (by decide +kernel) rfl ?_
  refine la_arg (pc := 772) (k := 1) (by decide +kernel) (by decide) s1 hL (by omega) ?_
  refine la_arg (pc := 777) (k := 2) (by decide +kernel) (by decide) s1 hL (by omega) ?_
  refine la_arg (pc := 782) (k := 3) (by decide +kernel) (by decide) s1 hL (by omega) ?_
  refine ex_callV (pc := 787) (d2 := 47) (as := [.int (xs (i + 1)), .int (xs (i + 2)), .int (xs (i + 3))]) (by decide +kernel) F_MM_judge (in_t6 (i := 182) rfl rfl) (m1.1.s (j := 78) rfl) rfl (by decide) rfl rfl (Nat.le_of_ble_eq_true rfl) (by decide) ⟨Nat.zero_le _, Nat.zero_le _⟩ (KC_L (Con.grL (sM_judge (d := 40) I.1 m1 (fun M2 h2 g2 => ?_))))
  refine ex_lcmp (pc := 790) (by decide +kernel) ?_
  refine ex_if_eq (pc := 791) (off := 654) (tgt := 1445) (by decide +kernel) (by decide) (fun _ => ?_) (fun q => absurd (lg_0.mpr rfl) q)
  exact (H _ M2 (I.nx I.1 h1 g1 h2 g2 (by decide))).bud (by omega) (by omega)
theorem lc_17 {L i n c : Nat} {xs : Nat → Int32} {σ : St} {M : Mem} {Φ : Option Value → Mem → Prop} (hL : L ≤ 3072) (hi : i + 6 ≤ L) (hc : c ≤ 10000) (I : LI L xs c σ M) (H : ∀ τ M2, LI L xs (c + 3) τ M2 → Ex 48 m_ML_law (3 * n) (330 * n) 1445 (lc4 i) [] M2 Φ) : Ex 48 m_ML_law (3 * n + 3) (330 * n + 330) 796 (lc4 i) [] M Φ := by
  have hlen := I.2.2.2.1.2
  refine ex_aload_n (pc := 796) (k := 1) (x := 0) (by decide +kernel) rfl ?_
  refine la_arg (pc := 797) (k := 1) (by decide +kernel) (by decide) I.2.2.2.2 hL (by omega) ?_
  refine la_arg (pc := 802) (k := 2) (by decide +kernel) (by decide) I.2.2.2.2 hL (by omega) ?_
  refine ex_callV (pc := 807) (d2 := 47) (as := [.int (xs (i + 1)), .int (xs (i + 2))]) (by decide +kernel) F_MD_givingTold (in_t4 (i := 42) rfl rfl) (I.2.1.1.s (j := 0) rfl) rfl (by decide) rfl rfl (Nat.le_of_ble_eq_true rfl) (by decide) ⟨Nat.zero_le _, Nat.zero_le _⟩ (KC_I (Con.grI (sX_givingTold (d := 45) I.1 I.2.1 (fun M1 h1 g1 => ?_))))
  have s1 := I.2.2.2.2.gr g1
  have m1 := h1.2 σ I.2.2.1
  refine ex_aload_n (pc := 810) (k := 2) (x := 78) (by decide +kernel) rfl ?_
  refine la_arg (pc := 811) (k := 1) (by decide +kernel) (by decide) s1 hL (by omega) ?_
  refine la_arg (pc := 816) (k := 2) (by decide +kernel) (by decide) s1 hL (by omega) ?_
  refine ex_callV (pc := 821) (d2 := 47) (as := [.int (xs (i + 1)), .int (xs (i + 2))]) (by decide +kernel) F_MM_givingTold (in_t6 (i := 198) rfl rfl) (m1.1.s (j := 78) rfl) rfl (by decide) rfl rfl (Nat.le_of_ble_eq_true rfl) (by decide) ⟨Nat.zero_le _, Nat.zero_le _⟩ (KC_I (Con.grI (sM_givingTold (d := 44) I.1 m1 (fun M2 h2 g2 => ?_))))
  refine ex_icmp_eq (pc := 824) (off := 621) (tgt := 1445) (by decide +kernel) (by decide) (fun _ => ?_) (fun q => absurd rfl q)
  exact (H _ M2 (I.nx I.1 h1 g1 h2 g2 (by decide))).bud (by omega) (by omega)
