/-! the law's cases 18 to 26 -/
theorem lc_18 {L i n c : Nat} {xs : Nat → Int32} {σ : St} {M : Mem} {Φ : Option Value → Mem → Prop} (hL : L ≤ 3072) (hi : i + 6 ≤ L) (hc : c ≤ 10000) (I : LI L xs c σ M) (H : ∀ τ M2, LI L xs (c + 3) τ M2 → Ex 48 m_ML_law (3 * n) (330 * n) 1445 (lc4 i) [] M2 Φ) : Ex 48 m_ML_law (3 * n + 3) (330 * n + 330) 829 (lc4 i) [] M Φ := by
  have hlen := I.2.2.2.1.2
  refine ex_aload_n (pc := 829) (k := 1) (x := 0) (by decide +kernel) rfl ?_
  refine ex_callV (pc := 830) (d2 := 47) (as := []) (by decide +kernel) F_MD_can (in_t4 (i := 47) rfl rfl) (I.2.1.1.s (j := 0) rfl) rfl (by decide) rfl rfl (Nat.le_of_ble_eq_true rfl) (by decide) ⟨Nat.zero_le _, Nat.zero_le _⟩ (KC_I (Con.grI (sX_can (d := 41) I.1 I.2.1 (fun M1 h1 g1 => ?_))))
  have s1 := I.2.2.2.2.gr g1
  have m1 := h1.2 σ I.2.2.1
  refine ex_aload_n (pc := 833) (k := 2) (x := 78) (by decide +kernel) rfl ?_
  refine ex_callV (pc := 834) (d2 := 47) (as := []) (by decide +kernel) F_MM_can (in_t6 (i := 202) rfl rfl) (m1.1.s (j := 78) rfl) rfl (by decide) rfl rfl (Nat.le_of_ble_eq_true rfl) (by decide) ⟨Nat.zero_le _, Nat.zero_le _⟩ (KC_I (Con.grI (sM_can (d := 42) I.1 m1 (fun M2 h2 g2 => ?_))))
  refine ex_icmp_eq (pc := 837) (off := 608) (tgt := 1445) (by decide +kernel) (by decide) (fun _ => ?_) (fun q => absurd rfl q)
  exact (H _ M2 (I.nx I.1 h1 g1 h2 g2 (by decide))).bud (by omega) (by omega)
theorem lc_19 {L i n c : Nat} {xs : Nat → Int32} {σ : St} {M : Mem} {Φ : Option Value → Mem → Prop} (hL : L ≤ 3072) (hi : i + 6 ≤ L) (hc : c ≤ 10000) (I : LI L xs c σ M) (H : ∀ τ M2, LI L xs (c + 3) τ M2 → Ex 48 m_ML_law (3 * n) (330 * n) 1445 (lc4 i) [] M2 Φ) : Ex 48 m_ML_law (3 * n + 3) (330 * n + 330) 842 (lc4 i) [] M Φ := by
  have hlen := I.2.2.2.1.2
  refine ex_aload_n (pc := 842) (k := 1) (x := 0) (by decide +kernel) rfl ?_
  refine la_arg (pc := 843) (k := 1) (by decide +kernel) (by decide) I.2.2.2.2 hL (by omega) ?_
  refine la_arg (pc := 848) (k := 2) (by decide +kernel) (by decide) I.2.2.2.2 hL (by omega) ?_
  refine ex_callV (pc := 853) (d2 := 47) (as := [.int (xs (i + 1)), .int (xs (i + 2))]) (by decide +kernel) F_MD_find (in_t4 (i := 86) rfl rfl) (I.2.1.1.s (j := 0) rfl) rfl (by decide) rfl rfl (Nat.le_of_ble_eq_true rfl) (by decide) ⟨Nat.zero_le _, Nat.zero_le _⟩ (KC_L (Con.grL (sX_find (d := 40) I.1 I.2.1 (fun M1 h1 g1 => ?_))))
  have s1 := I.2.2.2.2.gr g1
  have m1 := h1.2 σ I.2.2.1
  refine ex_aload_n (pc := 856) (k := 2) (x := 78) (by decide +kernel) rfl ?_
  refine la_arg (pc := 857) (k := 1) (by decide +kernel) (by decide) s1 hL (by omega) ?_
  refine la_arg (pc := 862) (k := 2) (by decide +kernel) (by decide) s1 hL (by omega) ?_
  refine ex_callV (pc := 867) (d2 := 47) (as := [.int (xs (i + 1)), .int (xs (i + 2))]) (by decide +kernel) F_MM_find (in_t6 (i := 218) rfl rfl) (m1.1.s (j := 78) rfl) rfl (by decide) rfl rfl (Nat.le_of_ble_eq_true rfl) (by decide) ⟨Nat.zero_le _, Nat.zero_le _⟩ (KC_L (Con.grL (sM_find (d := 41) I.1 m1 (fun M2 h2 g2 => ?_))))
  refine ex_lcmp (pc := 870) (by decide +kernel) ?_
  refine ex_if_eq (pc := 871) (off := 574) (tgt := 1445) (by decide +kernel) (by decide) (fun _ => ?_) (fun q => absurd (lg_0.mpr rfl) q)
  exact (H _ M2 (I.nx (I.1.find (xs (i + 1)) (xs (i + 2))) h1 g1 h2 g2 (by decide))).bud (by omega) (by omega)
theorem lc_20 {L i n c : Nat} {xs : Nat → Int32} {σ : St} {M : Mem} {Φ : Option Value → Mem → Prop} (hL : L ≤ 3072) (hi : i + 6 ≤ L) (hc : c ≤ 10000) (I : LI L xs c σ M) (H : ∀ τ M2, LI L xs (c + 3) τ M2 → Ex 48 m_ML_law (3 * n) (330 * n) 1445 (lc4 i) [] M2 Φ) : Ex 48 m_ML_law (3 * n + 3) (330 * n + 330) 876 (lc4 i) [] M Φ := by
  have hlen := I.2.2.2.1.2
  refine ex_aload_n (pc := 876) (k := 1) (x := 0) (by decide +kernel) rfl ?_
  refine la_arg (pc := 877) (k := 1) (by decide +kernel) (by decide) I.2.2.2.2 hL (by omega) ?_
  refine ex_callV (pc := 882) (d2 := 47) (as := [.int (xs (i + 1))]) (by decide +kernel) F_MD_foundDay (in_t4 (i := 135) rfl rfl) (I.2.1.1.s (j := 0) rfl) rfl (by decide) rfl rfl (Nat.le_of_ble_eq_true rfl) (by decide) ⟨Nat.zero_le _, Nat.zero_le _⟩ (KC_I (Con.grI (sX_foundDay (d := 46) I.1 I.2.1 (fun M1 h1 g1 => ?_))))
  have s1 := I.2.2.2.2.gr g1
  have m1 := h1.2 σ I.2.2.1
  refine ex_aload_n (pc := 885) (k := 2) (x := 78) (by decide +kernel) rfl ?_
  refine la_arg (pc := 886) (k := 1) (by decide +kernel) (by decide) s1 hL (by omega) ?_
  refine ex_callV (pc := 891) (d2 := 47) (as := [.int (xs (i + 1))]) (by decide +kernel) F_MM_foundDay (in_t7 (i := 2) rfl rfl) (m1.1.s (j := 78) rfl) rfl (by decide) rfl rfl (Nat.le_of_ble_eq_true rfl) (by decide) ⟨Nat.zero_le _, Nat.zero_le _⟩ (KC_I (Con.grI (sM_foundDay (d := 45) I.1 m1 (fun M2 h2 g2 => ?_))))
  refine ex_icmp_eq (pc := 894) (off := 551) (tgt := 1445) (by decide +kernel) (by decide) (fun _ => ?_) (fun q => absurd rfl q)
  exact (H _ M2 (I.nx I.1 h1 g1 h2 g2 (by decide))).bud (by omega) (by omega)
theorem lc_21 {L i n c : Nat} {xs : Nat → Int32} {σ : St} {M : Mem} {Φ : Option Value → Mem → Prop} (hL : L ≤ 3072) (hi : i + 6 ≤ L) (hc : c ≤ 10000) (I : LI L xs c σ M) (H : ∀ τ M2, LI L xs (c + 3) τ M2 → Ex 48 m_ML_law (3 * n) (330 * n) 1445 (lc4 i) [] M2 Φ) : Ex 48 m_ML_law (3 * n + 3) (330 * n + 330) 899 (lc4 i) [] M Φ := by
  have hlen := I.2.2.2.1.2
  refine ex_aload_n (pc := 899) (k := 1) (x := 0) (by decide +kernel) rfl ?_
  refine ex_callV (pc := 900) (d2 := 47) (as := []) (by decide +kernel) F_MD_least (in_t4 (i := 139) rfl rfl) (I.2.1.1.s (j := 0) rfl) rfl (by decide) rfl rfl (Nat.le_of_ble_eq_true rfl) (by decide) ⟨Nat.zero_le _, Nat.zero_le _⟩ (KC_I (Con.grI (sX_least (d := 41) I.1 I.2.1 (fun M1 h1 g1 => ?_))))
  have s1 := I.2.2.2.2.gr g1
  have m1 := h1.2 σ I.2.2.1
  refine ex_aload_n (pc := 903) (k := 2) (x := 78) (by decide +kernel) rfl ?_
  refine ex_callV (pc := 904) (d2 := 47) (as := []) (by decide +kernel) F_MM_least (in_t7 (i := 6) rfl rfl) (m1.1.s (j := 78) rfl) rfl (by decide) rfl rfl (Nat.le_of_ble_eq_true rfl) (by decide) ⟨Nat.zero_le _, Nat.zero_le _⟩ (KC_I (Con.grI (sM_least (d := 42) I.1 m1 (fun M2 h2 g2 => ?_))))
  refine ex_icmp_eq (pc := 907) (off := 538) (tgt := 1445) (by decide +kernel) (by decide) (fun _ => ?_) (fun q => absurd rfl q)
  exact (H _ M2 (I.nx I.1 h1 g1 h2 g2 (by decide))).bud (by omega) (by omega)
theorem lc_22 {L i n c : Nat} {xs : Nat → Int32} {σ : St} {M : Mem} {Φ : Option Value → Mem → Prop} (hL : L ≤ 3072) (hi : i + 6 ≤ L) (hc : c ≤ 10000) (I : LI L xs c σ M) (H : ∀ τ M2, LI L xs (c + 3) τ M2 → Ex 48 m_ML_law (3 * n) (330 * n) 1445 (lc4 i) [] M2 Φ) : Ex 48 m_ML_law (3 * n + 3) (330 * n + 330) 912 (lc4 i) [] M Φ := by
  have hlen := I.2.2.2.1.2
  refine ex_aload_n (pc := 912) (k := 1) (x := 0) (by decide +kernel) rfl ?_
  refine ex_callV (pc := 913) (d2 := 47) (as := []) (by decide +kernel) F_MD_knot (in_t4 (i := 151) rfl rfl) (I.2.1.1.s (j := 0) rfl) rfl (by decide) rfl rfl (Nat.le_of_ble_eq_true rfl) (by decide) ⟨Nat.zero_le _, Nat.zero_le _⟩ (KC_I (Con.grI (sX_knot (d := 41) I.1 I.2.1 (fun M1 h1 g1 => ?_))))
  have s1 := I.2.2.2.2.gr g1
  have m1 := h1.2 σ I.2.2.1
  refine ex_aload_n (pc := 916) (k := 2) (x := 78) (by decide +kernel) rfl ?_
  refine ex_callV (pc := 917) (d2 := 47) (as := []) (by decide +kernel) F_MM_knot (in_t7 (i := 10) rfl rfl) (m1.1.s (j := 78) rfl) rfl (by decide) rfl rfl (Nat.le_of_ble_eq_true rfl) (by decide) ⟨Nat.zero_le _, Nat.zero_le _⟩ (KC_I (Con.grI (sM_knot (d := 42) I.1 m1 (fun M2 h2 g2 => ?_))))
  refine ex_icmp_eq (pc := 920) (off := 525) (tgt := 1445) (by decide +kernel) (by decide) (fun _ => ?_) (fun q => absurd rfl q)
  exact (H _ M2 (I.nx I.1 h1 g1 h2 g2 (by decide))).bud (by omega) (by omega)
theorem lc_23 {L i n c : Nat} {xs : Nat → Int32} {σ : St} {M : Mem} {Φ : Option Value → Mem → Prop} (hL : L ≤ 3072) (hi : i + 6 ≤ L) (hc : c ≤ 10000) (I : LI L xs c σ M) (H : ∀ τ M2, LI L xs (c + 3) τ M2 → Ex 48 m_ML_law (3 * n) (330 * n) 1445 (lc4 i) [] M2 Φ) : Ex 48 m_ML_law (3 * n + 3) (330 * n + 330) 925 (lc4 i) [] M Φ := by
  have hlen := I.2.2.2.1.2
  refine ex_aload_n (pc := 925) (k := 1) (x := 0) (by decide +kernel) rfl ?_
  refine la_arg (pc := 926) (k := 1) (by decide +kernel) (by decide) I.2.2.2.2 hL (by omega) ?_
  refine la_arg (pc := 931) (k := 2) (by decide +kernel) (by decide) I.2.2.2.2 hL (by omega) ?_
  refine la_arg (pc := 936) (k := 3) (by decide +kernel) (by decide) I.2.2.2.2 hL (by omega) ?_
  refine ex_callV (pc := 941) (d2 := 47) (as := [.int (xs (i + 1)), .int (xs (i + 2)), .int (xs (i + 3))]) (by decide +kernel) F_MD_room (in_t4 (i := 159) rfl rfl) (I.2.1.1.s (j := 0) rfl) rfl (by decide) rfl rfl (Nat.le_of_ble_eq_true rfl) (by decide) ⟨Nat.zero_le _, Nat.zero_le _⟩ (KC_I (Con.grI (sX_room (d := 40) I.1 I.2.1 (fun M1 h1 g1 => ?_))))
  have s1 := I.2.2.2.2.gr g1
  have m1 := h1.2 σ I.2.2.1
  refine ex_aload_n (pc := 944) (k := 2) (x := 78) (by decide +kernel) rfl ?_
  refine la_arg (pc := 945) (k := 1) (by decide +kernel) (by decide) s1 hL (by omega) ?_
  refine la_arg (pc := 950) (k := 2) (by decide +kernel) (by decide) s1 hL (by omega) ?_
  refine la_arg (pc := 955) (k := 3) (by decide +kernel) (by decide) s1 hL (by omega) ?_
  refine ex_callV (pc := 960) (d2 := 47) (as := [.int (xs (i + 1)), .int (xs (i + 2)), .int (xs (i + 3))]) (by decide +kernel) F_MM_room (in_t7 (i := 17) rfl rfl) (m1.1.s (j := 78) rfl) rfl (by decide) rfl rfl (Nat.le_of_ble_eq_true rfl) (by decide) ⟨Nat.zero_le _, Nat.zero_le _⟩ (KC_I (Con.grI (sM_room (d := 42) I.1 m1 (fun M2 h2 g2 => ?_))))
  refine ex_icmp_eq (pc := 963) (off := 482) (tgt := 1445) (by decide +kernel) (by decide) (fun _ => ?_) (fun q => absurd rfl q)
  exact (H _ M2 (I.nx I.1 h1 g1 h2 g2 (by decide))).bud (by omega) (by omega)
theorem lc_24 {L i n c : Nat} {xs : Nat → Int32} {σ : St} {M : Mem} {Φ : Option Value → Mem → Prop} (hL : L ≤ 3072) (hi : i + 6 ≤ L) (hc : c ≤ 10000) (I : LI L xs c σ M) (H : ∀ τ M2, LI L xs (c + 3) τ M2 → Ex 48 m_ML_law (3 * n) (330 * n) 1445 (lc4 i) [] M2 Φ) : Ex 48 m_ML_law (3 * n + 3) (330 * n + 330) 968 (lc4 i) [] M Φ := by
  have hlen := I.2.2.2.1.2
  refine ex_aload_n (pc := 968) (k := 1) (x := 0) (by decide +kernel) rfl ?_
  refine la_arg (pc := 969) (k := 1) (by decide +kernel) (by decide) I.2.2.2.2 hL (by omega) ?_
  refine la_arg (pc := 974) (k := 2) (by decide +kernel) (by decide) I.2.2.2.2 hL (by omega) ?_
  refine la_arg (pc := 979) (k := 3) (by decide +kernel) (by decide) I.2.2.2.2 hL (by omega) ?_
  refine ex_callV (pc := 984) (d2 := 47) (as := [.int (xs (i + 1)), .int (xs (i + 2)), .int (xs (i + 3))]) (by decide +kernel) F_MD_hurt (in_t4 (i := 172) rfl rfl) (I.2.1.1.s (j := 0) rfl) rfl (by decide) rfl rfl (Nat.le_of_ble_eq_true rfl) (by decide) ⟨Nat.zero_le _, Nat.zero_le _⟩ (KC_L (Con.grL (sX_hurt (d := 41) I.1 I.2.1 (fun M1 h1 g1 => ?_))))
  have s1 := I.2.2.2.2.gr g1
  have m1 := h1.2 σ I.2.2.1
  refine ex_aload_n (pc := 987) (k := 2) (x := 78) (by decide +kernel) rfl ?_
  refine la_arg (pc := 988) (k := 1) (by decide +kernel) (by decide) s1 hL (by omega) ?_
  refine la_arg (pc := 993) (k := 2) (by decide +kernel) (by decide) s1 hL (by omega) ?_
  refine la_arg (pc := 998) (k := 3) (by decide +kernel) (by decide) s1 hL (by omega) ?_
  refine ex_callV (pc := 1003) (d2 := 47) (as := [.int (xs (i + 1)), .int (xs (i + 2)), .int (xs (i + 3))]) (by decide +kernel) F_MM_hurt (in_t7 (i := 21) rfl rfl) (m1.1.s (j := 78) rfl) rfl (by decide) rfl rfl (Nat.le_of_ble_eq_true rfl) (by decide) ⟨Nat.zero_le _, Nat.zero_le _⟩ (KC_L (Con.grL (sM_hurt (d := 40) I.1 m1 (fun M2 h2 g2 => ?_))))
  refine ex_lcmp (pc := 1006) (by decide +kernel) ?_
  refine ex_if_eq (pc := 1007) (off := 438) (tgt := 1445) (by decide +kernel) (by decide) (fun _ => ?_) (fun q => absurd (lg_0.mpr rfl) q)
  exact (H _ M2 (I.nx I.1 h1 g1 h2 g2 (by decide))).bud (by omega) (by omega)
theorem lc_25 {L i n c : Nat} {xs : Nat → Int32} {σ : St} {M : Mem} {Φ : Option Value → Mem → Prop} (hL : L ≤ 3072) (hi : i + 6 ≤ L) (hc : c ≤ 10000) (I : LI L xs c σ M) (H : ∀ τ M2, LI L xs (c + 3) τ M2 → Ex 48 m_ML_law (3 * n) (330 * n) 1445 (lc4 i) [] M2 Φ) : Ex 48 m_ML_law (3 * n + 3) (330 * n + 330) 1012 (lc4 i) [] M Φ := by
  have hlen := I.2.2.2.1.2
  refine ex_aload_n (pc := 1012) (k := 1) (x := 0) (by decide +kernel) rfl ?_
  refine la_arg (pc := 1013) (k := 1) (by decide +kernel) (by decide) I.2.2.2.2 hL (by omega) ?_
  refine la_arg (pc := 1018) (k := 2) (by decide +kernel) (by decide) I.2.2.2.2 hL (by omega) ?_
  refine la_arg (pc := 1023) (k := 3) (by decide +kernel) (by decide) I.2.2.2.2 hL (by omega) ?_
  refine la_arg (pc := 1028) (k := 4) (by decide +kernel) (by decide) I.2.2.2.2 hL (by omega) ?_
  refine la_arg (pc := 1033) (k := 5) (by decide +kernel) (by decide) I.2.2.2.2 hL (by omega) ?_
  refine ex_callV (pc := 1038) (d2 := 47) (as := [.int (xs (i + 1)), .int (xs (i + 2)), .int (xs (i + 3)), .int (xs (i + 4)), .int (xs (i + 5))]) (by decide +kernel) F_MD_round (in_t4 (i := 180) rfl rfl) (I.2.1.1.s (j := 0) rfl) rfl (by decide) rfl rfl (Nat.le_of_ble_eq_true rfl) (by decide) ⟨Nat.zero_le _, Nat.zero_le _⟩ (KC_I (Con.grI (sX_round (d := 41) I.1 I.2.1 (fun M1 h1 g1 => ?_))))
  have s1 := I.2.2.2.2.gr g1
  have m1 := h1.2 σ I.2.2.1
  refine ex_aload_n (pc := 1041) (k := 2) (x := 78) (by decide +kernel) rfl ?_
  refine la_arg (pc := 1042) (k := 1) (by decide +kernel) (by decide) s1 hL (by omega) ?_
  refine la_arg (pc := 1047) (k := 2) (by decide +kernel) (by decide) s1 hL (by omega) ?_
  refine la_arg (pc := 1052) (k := 3) (by decide +kernel) (by decide) s1 hL (by omega) ?_
  refine la_arg (pc := 1057) (k := 4) (by decide +kernel) (by decide) s1 hL (by omega) ?_
  refine la_arg (pc := 1062) (k := 5) (by decide +kernel) (by decide) s1 hL (by omega) ?_
  refine ex_callV (pc := 1067) (d2 := 47) (as := [.int (xs (i + 1)), .int (xs (i + 2)), .int (xs (i + 3)), .int (xs (i + 4)), .int (xs (i + 5))]) (by decide +kernel) F_MM_round (in_t7 (i := 25) rfl rfl) (m1.1.s (j := 78) rfl) rfl (by decide) rfl rfl (Nat.le_of_ble_eq_true rfl) (by decide) ⟨Nat.zero_le _, Nat.zero_le _⟩ (KC_I (Con.grI (sM_round (d := 42) I.1 m1 (fun M2 h2 g2 => ?_))))
  refine ex_icmp_eq (pc := 1070) (off := 375) (tgt := 1445) (by decide +kernel) (by decide) (fun _ => ?_) (fun q => absurd rfl q)
  exact (H _ M2 (I.nx (I.1.round (xs (i + 1)) (xs (i + 2)) (xs (i + 3)) (xs (i + 4)) (xs (i + 5))) h1 g1 h2 g2 (by decide))).bud (by omega) (by omega)
theorem lc_26 {L i n c : Nat} {xs : Nat → Int32} {σ : St} {M : Mem} {Φ : Option Value → Mem → Prop} (hL : L ≤ 3072) (hi : i + 6 ≤ L) (hc : c ≤ 10000) (I : LI L xs c σ M) (H : ∀ τ M2, LI L xs (c + 3) τ M2 → Ex 48 m_ML_law (3 * n) (330 * n) 1445 (lc4 i) [] M2 Φ) : Ex 48 m_ML_law (3 * n + 3) (330 * n + 330) 1075 (lc4 i) [] M Φ := by
  have hlen := I.2.2.2.1.2
  refine ex_aload_n (pc := 1075) (k := 1) (x := 0) (by decide +kernel) rfl ?_
  refine la_arg (pc := 1076) (k := 1) (by decide +kernel) (by decide) I.2.2.2.2 hL (by omega) ?_
  refine ex_callV (pc := 1081) (d2 := 47) (as := [.int (xs (i + 1))]) (by decide +kernel) F_MD_roundTold (in_t4 (i := 212) rfl rfl) (I.2.1.1.s (j := 0) rfl) rfl (by decide) rfl rfl (Nat.le_of_ble_eq_true rfl) (by decide) ⟨Nat.zero_le _, Nat.zero_le _⟩ (KC_I (Con.grI (sX_roundTold (d := 46) I.1 I.2.1 (fun M1 h1 g1 => ?_))))
  have s1 := I.2.2.2.2.gr g1
  have m1 := h1.2 σ I.2.2.1
  refine ex_aload_n (pc := 1084) (k := 2) (x := 78) (by decide +kernel) rfl ?_
  refine la_arg (pc := 1085) (k := 1) (by decide +kernel) (by decide) s1 hL (by omega) ?_
  refine ex_callV (pc := 1090) (d2 := 47) (as := [.int (xs (i + 1))]) (by decide +kernel) F_MM_roundTold (in_t7 (i := 37) rfl rfl) (m1.1.s (j := 78) rfl) rfl (by decide) rfl rfl (Nat.le_of_ble_eq_true rfl) (by decide) ⟨Nat.zero_le _, Nat.zero_le _⟩ (KC_I (Con.grI (sM_roundTold (d := 45) I.1 m1 (fun M2 h2 g2 => ?_))))
  refine ex_icmp_eq (pc := 1093) (off := 352) (tgt := 1445) (by decide +kernel) (by decide) (fun _ => ?_) (fun q => absurd rfl q)
  exact (H _ M2 (I.nx I.1 h1 g1 h2 g2 (by decide))).bud (by omega) (by omega)
