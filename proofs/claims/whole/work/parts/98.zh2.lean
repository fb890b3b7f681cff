/-! the law's cases 0 to 8 -/
theorem lc_0 {L i n c : Nat} {xs : Nat → Int32} {σ : St} {M : Mem} {Φ : Option Value → Mem → Prop} (hL : L ≤ 3072) (hi : i + 6 ≤ L) (hc : c ≤ 10000) (I : LI L xs c σ M) (H : ∀ τ M2, LI L xs (c + 3) τ M2 → Ex 48 m_ML_law (3 * n) (330 * n) 1445 (lc4 i) [] M2 Φ) : Ex 48 m_ML_law (3 * n + 3) (330 * n + 330) 192 (lc4 i) [] M Φ := by
  have hlen := I.2.2.2.1.2
  refine ex_aload_n (pc := 192) (k := 1) (x := 0) (by decide +kernel) rfl ?_
  refine la_arg (pc := 193) (k := 1) (by decide +kernel) (by decide) I.2.2.2.2 hL (by omega) ?_
  refine ex_callV (pc := 198) (d2 := 47) (as := [.int (xs (i + 1))]) (by decide +kernel) F_MD_town (in_t3 (i := 30) rfl rfl) (I.2.1.1.s (j := 0) rfl) rfl (by decide) rfl rfl (Nat.le_of_ble_eq_true rfl) (by decide) ⟨Nat.zero_le _, Nat.zero_le _⟩ (KC_I (Con.grI (sX_town (d := 44) I.1 I.2.1 (fun M1 h1 g1 => ?_))))
  have s1 := I.2.2.2.2.gr g1
  have m1 := h1.2 σ I.2.2.1
  refine ex_aload_n (pc := 201) (k := 2) (x := 78) (by decide +kernel) rfl ?_
  refine la_arg (pc := 202) (k := 1) (by decide +kernel) (by decide) s1 hL (by omega) ?_
  refine ex_callV (pc := 207) (d2 := 47) (as := [.int (xs (i + 1))]) (by decide +kernel) F_MM_town (in_t6 (i := 7) rfl rfl) (m1.1.s (j := 78) rfl) rfl (by decide) rfl rfl (Nat.le_of_ble_eq_true rfl) (by decide) ⟨Nat.zero_le _, Nat.zero_le _⟩ (KC_I (Con.grI (sM_town (d := 45) I.1 m1 (fun M2 h2 g2 => ?_))))
  refine ex_icmp_eq (pc := 210) (off := 1235) (tgt := 1445) (by decide +kernel) (by decide) (fun _ => ?_) (fun q => absurd rfl q)
  exact (H _ M2 (I.nx (I.1.town (xs (i + 1))) h1 g1 h2 g2 (by decide))).bud (by omega) (by omega)
theorem lc_1 {L i n c : Nat} {xs : Nat → Int32} {σ : St} {M : Mem} {Φ : Option Value → Mem → Prop} (hL : L ≤ 3072) (hi : i + 6 ≤ L) (hc : c ≤ 10000) (I : LI L xs c σ M) (H : ∀ τ M2, LI L xs (c + 3) τ M2 → Ex 48 m_ML_law (3 * n) (330 * n) 1445 (lc4 i) [] M2 Φ) : Ex 48 m_ML_law (3 * n + 3) (330 * n + 330) 215 (lc4 i) [] M Φ := by
  have hlen := I.2.2.2.1.2
  refine ex_aload_n (pc := 215) (k := 1) (x := 0) (by decide +kernel) rfl ?_
  refine la_arg (pc := 216) (k := 1) (by decide +kernel) (by decide) I.2.2.2.2 hL (by omega) ?_
  refine la_arg (pc := 221) (k := 2) (by decide +kernel) (by decide) I.2.2.2.2 hL (by omega) ?_
  refine la_arg (pc := 226) (k := 3) (by decide +kernel) (by decide) I.2.2.2.2 hL (by omega) ?_
  refine ex_callV (pc := 231) (d2 := 47) (as := [.int (xs (i + 1)), .int (xs (i + 2)), .int (xs (i + 3))]) (by decide +kernel) F_MD_road (in_t3 (i := 43) rfl rfl) (I.2.1.1.s (j := 0) rfl) rfl (by decide) rfl rfl (Nat.le_of_ble_eq_true rfl) (by decide) ⟨Nat.zero_le _, Nat.zero_le _⟩ (KC_I (Con.grI (sX_road (d := 44) I.1 I.2.1 (fun M1 h1 g1 => ?_))))
  have s1 := I.2.2.2.2.gr g1
  have m1 := h1.2 σ I.2.2.1
  refine ex_aload_n (pc := 234) (k := 2) (x := 78) (by decide +kernel) rfl ?_
  refine la_arg (pc := 235) (k := 1) (by decide +kernel) (by decide) s1 hL (by omega) ?_
  refine la_arg (pc := 240) (k := 2) (by decide +kernel) (by decide) s1 hL (by omega) ?_
  refine la_arg (pc := 245) (k := 3) (by decide +kernel) (by decide) s1 hL (by omega) ?_
  refine ex_callV (pc := 250) (d2 := 47) (as := [.int (xs (i + 1)), .int (xs (i + 2)), .int (xs (i + 3))]) (by decide +kernel) F_MM_road (in_t6 (i := 14) rfl rfl) (m1.1.s (j := 78) rfl) rfl (by decide) rfl rfl (Nat.le_of_ble_eq_true rfl) (by decide) ⟨Nat.zero_le _, Nat.zero_le _⟩ (KC_I (Con.grI (sM_road (d := 44) I.1 m1 (fun M2 h2 g2 => ?_))))
  refine ex_icmp_eq (pc := 253) (off := 1192) (tgt := 1445) (by decide +kernel) (by decide) (fun _ => ?_) (fun q => absurd rfl q)
  exact (H _ M2 (I.nx (I.1.road (xs (i + 1)) (xs (i + 2)) (xs (i + 3))) h1 g1 h2 g2 (by decide))).bud (by omega) (by omega)
theorem lc_2 {L i n c : Nat} {xs : Nat → Int32} {σ : St} {M : Mem} {Φ : Option Value → Mem → Prop} (hL : L ≤ 3072) (hi : i + 6 ≤ L) (hc : c ≤ 10000) (I : LI L xs c σ M) (H : ∀ τ M2, LI L xs (c + 3) τ M2 → Ex 48 m_ML_law (3 * n) (330 * n) 1445 (lc4 i) [] M2 Φ) : Ex 48 m_ML_law (3 * n + 3) (330 * n + 330) 258 (lc4 i) [] M Φ := by
  have hlen := I.2.2.2.1.2
  refine ex_aload_n (pc := 258) (k := 1) (x := 0) (by decide +kernel) rfl ?_
  refine la_arg (pc := 259) (k := 1) (by decide +kernel) (by decide) I.2.2.2.2 hL (by omega) ?_
  refine la_arg (pc := 264) (k := 2) (by decide +kernel) (by decide) I.2.2.2.2 hL (by omega) ?_
  refine ex_callV (pc := 269) (d2 := 47) (as := [.int (xs (i + 1)), .int (xs (i + 2))]) (by decide +kernel) F_MD_hours (in_t3 (i := 55) rfl rfl) (I.2.1.1.s (j := 0) rfl) rfl (by decide) rfl rfl (Nat.le_of_ble_eq_true rfl) (by decide) ⟨Nat.zero_le _, Nat.zero_le _⟩ (KC_I (Con.grI (sX_hours (d := 45) I.1 I.2.1 (fun M1 h1 g1 => ?_))))
  have s1 := I.2.2.2.2.gr g1
  have m1 := h1.2 σ I.2.2.1
  refine ex_aload_n (pc := 272) (k := 2) (x := 78) (by decide +kernel) rfl ?_
  refine la_arg (pc := 273) (k := 1) (by decide +kernel) (by decide) s1 hL (by omega) ?_
  refine la_arg (pc := 278) (k := 2) (by decide +kernel) (by decide) s1 hL (by omega) ?_
  refine ex_callV (pc := 283) (d2 := 47) (as := [.int (xs (i + 1)), .int (xs (i + 2))]) (by decide +kernel) F_MM_hours (in_t6 (i := 22) rfl rfl) (m1.1.s (j := 78) rfl) rfl (by decide) rfl rfl (Nat.le_of_ble_eq_true rfl) (by decide) ⟨Nat.zero_le _, Nat.zero_le _⟩ (KC_I (Con.grI (sM_hours (d := 44) I.1 m1 (fun M2 h2 g2 => ?_))))
  refine ex_icmp_eq (pc := 286) (off := 1159) (tgt := 1445) (by decide +kernel) (by decide) (fun _ => ?_) (fun q => absurd rfl q)
  exact (H _ M2 (I.nx I.1 h1 g1 h2 g2 (by decide))).bud (by omega) (by omega)
theorem lc_3 {L i n c : Nat} {xs : Nat → Int32} {σ : St} {M : Mem} {Φ : Option Value → Mem → Prop} (hL : L ≤ 3072) (hi : i + 6 ≤ L) (hc : c ≤ 10000) (I : LI L xs c σ M) (H : ∀ τ M2, LI L xs (c + 3) τ M2 → Ex 48 m_ML_law (3 * n) (330 * n) 1445 (lc4 i) [] M2 Φ) : Ex 48 m_ML_law (3 * n + 3) (330 * n + 330) 291 (lc4 i) [] M Φ := by
  have hlen := I.2.2.2.1.2
  refine ex_aload_n (pc := 291) (k := 1) (x := 0) (by decide +kernel) rfl ?_
  refine la_arg (pc := 292) (k := 1) (by decide +kernel) (by decide) I.2.2.2.2 hL (by omega) ?_
  refine ex_callV (pc := 297) (d2 := 47) (as := [.int (xs (i + 1))]) (by decide +kernel) F_MD_week (in_t3 (i := 63) rfl rfl) (I.2.1.1.s (j := 0) rfl) rfl (by decide) rfl rfl (Nat.le_of_ble_eq_true rfl) (by decide) ⟨Nat.zero_le _, Nat.zero_le _⟩ (KC_I (Con.grI (sX_week (d := 46) I.2.1 (fun M1 h1 g1 => ?_))))
  have s1 := I.2.2.2.2.gr g1
  have m1 := h1.2 σ I.2.2.1
  refine ex_aload_n (pc := 300) (k := 2) (x := 78) (by decide +kernel) rfl ?_
  refine la_arg (pc := 301) (k := 1) (by decide +kernel) (by decide) s1 hL (by omega) ?_
  refine ex_callV (pc := 306) (d2 := 47) (as := [.int (xs (i + 1))]) (by decide +kernel) F_MM_week (in_t6 (i := 30) rfl rfl) (m1.1.s (j := 78) rfl) rfl (by decide) rfl rfl (Nat.le_of_ble_eq_true rfl) (by decide) ⟨Nat.zero_le _, Nat.zero_le _⟩ (KC_I (Con.grI (sM_week (d := 45) m1 (fun M2 h2 g2 => ?_))))
  refine ex_icmp_eq (pc := 309) (off := 1136) (tgt := 1445) (by decide +kernel) (by decide) (fun _ => ?_) (fun q => absurd rfl q)
  exact (H _ M2 (I.nx (I.1.week (xs (i + 1))) h1 g1 h2 g2 (by decide))).bud (by omega) (by omega)
theorem lc_4 {L i n c : Nat} {xs : Nat → Int32} {σ : St} {M : Mem} {Φ : Option Value → Mem → Prop} (hL : L ≤ 3072) (hi : i + 6 ≤ L) (hc : c ≤ 10000) (I : LI L xs c σ M) (H : ∀ τ M2, LI L xs (c + 3) τ M2 → Ex 48 m_ML_law (3 * n) (330 * n) 1445 (lc4 i) [] M2 Φ) : Ex 48 m_ML_law (3 * n + 3) (330 * n + 330) 314 (lc4 i) [] M Φ := by
  have hlen := I.2.2.2.1.2
  refine ex_aload_n (pc := 314) (k := 1) (x := 0) (by decide +kernel) rfl ?_
  refine la_arg (pc := 315) (k := 1) (by decide +kernel) (by decide) I.2.2.2.2 hL (by omega) ?_
  refine la_arg (pc := 320) (k := 2) (by decide +kernel) (by decide) I.2.2.2.2 hL (by omega) ?_
  refine la_arg (pc := 325) (k := 3) (by decide +kernel) (by decide) I.2.2.2.2 hL (by omega) ?_
  refine ex_callV (pc := 330) (d2 := 47) (as := [.int (xs (i + 1)), .int (xs (i + 2)), .int (xs (i + 3))]) (by decide +kernel) F_MD_want (in_t3 (i := 67) rfl rfl) (I.2.1.1.s (j := 0) rfl) rfl (by decide) rfl rfl (Nat.le_of_ble_eq_true rfl) (by decide) ⟨Nat.zero_le _, Nat.zero_le _⟩ (KC_I (Con.grI (sX_want (d := 44) I.1 I.2.1 (fun M1 h1 g1 => ?_))))
  have s1 := I.2.2.2.2.gr g1
  have m1 := h1.2 σ I.2.2.1
  refine ex_aload_n (pc := 333) (k := 2) (x := 78) (by decide +kernel) rfl ?_
  refine la_arg (pc := 334) (k := 1) (by decide +kernel) (by decide) s1 hL (by omega) ?_
  refine la_arg (pc := 339) (k := 2) (by decide +kernel) (by decide) s1 hL (by omega) ?_
  refine la_arg (pc := 344) (k := 3) (by decide +kernel) (by decide) s1 hL (by omega) ?_
  refine ex_callV (pc := 349) (d2 := 47) (as := [.int (xs (i + 1)), .int (xs (i + 2)), .int (xs (i + 3))]) (by decide +kernel) F_MM_want (in_t6 (i := 34) rfl rfl) (m1.1.s (j := 78) rfl) rfl (by decide) rfl rfl (Nat.le_of_ble_eq_true rfl) (by decide) ⟨Nat.zero_le _, Nat.zero_le _⟩ (KC_I (Con.grI (sM_want (d := 44) I.1 m1 (fun M2 h2 g2 => ?_))))
  refine ex_icmp_eq (pc := 352) (off := 1093) (tgt := 1445) (by decide +kernel) (by decide) (fun _ => ?_) (fun q => absurd rfl q)
  exact (H _ M2 (I.nx (I.1.want (xs (i + 1)) (xs (i + 2)) (xs (i + 3))) h1 g1 h2 g2 (by decide))).bud (by omega) (by omega)
theorem lc_5 {L i n c : Nat} {xs : Nat → Int32} {σ : St} {M : Mem} {Φ : Option Value → Mem → Prop} (hL : L ≤ 3072) (hi : i + 6 ≤ L) (hc : c ≤ 10000) (I : LI L xs c σ M) (H : ∀ τ M2, LI L xs (c + 3) τ M2 → Ex 48 m_ML_law (3 * n) (330 * n) 1445 (lc4 i) [] M2 Φ) : Ex 48 m_ML_law (3 * n + 3) (330 * n + 330) 357 (lc4 i) [] M Φ := by
  have hlen := I.2.2.2.1.2
  refine ex_aload_n (pc := 357) (k := 1) (x := 0) (by decide +kernel) rfl ?_
  refine la_arg (pc := 358) (k := 1) (by decide +kernel) (by decide) I.2.2.2.2 hL (by omega) ?_
  refine la_arg (pc := 363) (k := 2) (by decide +kernel) (by decide) I.2.2.2.2 hL (by omega) ?_
  refine ex_callV (pc := 368) (d2 := 47) (as := [.int (xs (i + 1)), .int (xs (i + 2))]) (by decide +kernel) F_MD_townTold (in_t3 (i := 75) rfl rfl) (I.2.1.1.s (j := 0) rfl) rfl (by decide) rfl rfl (Nat.le_of_ble_eq_true rfl) (by decide) ⟨Nat.zero_le _, Nat.zero_le _⟩ (KC_I (Con.grI (sX_townTold (d := 45) I.1 I.2.1 (fun M1 h1 g1 => ?_))))
  have s1 := I.2.2.2.2.gr g1
  have m1 := h1.2 σ I.2.2.1
  refine ex_aload_n (pc := 371) (k := 2) (x := 78) (by decide +kernel) rfl ?_
  refine la_arg (pc := 372) (k := 1) (by decide +kernel) (by decide) s1 hL (by omega) ?_
  refine la_arg (pc := 377) (k := 2) (by decide +kernel) (by decide) s1 hL (by omega) ?_
  refine ex_callV (pc := 382) (d2 := 47) (as := [.int (xs (i + 1)), .int (xs (i + 2))]) (by decide +kernel) F_MM_townTold (in_t6 (i := 38) rfl rfl) (m1.1.s (j := 78) rfl) rfl (by decide) rfl rfl (Nat.le_of_ble_eq_true rfl) (by decide) ⟨Nat.zero_le _, Nat.zero_le _⟩ (KC_I (Con.grI (sM_townTold (d := 44) I.1 m1 (fun M2 h2 g2 => ?_))))
  refine ex_icmp_eq (pc := 385) (off := 1060) (tgt := 1445) (by decide +kernel) (by decide) (fun _ => ?_) (fun q => absurd rfl q)
  exact (H _ M2 (I.nx I.1 h1 g1 h2 g2 (by decide))).bud (by omega) (by omega)
theorem lc_6 {L i n c : Nat} {xs : Nat → Int32} {σ : St} {M : Mem} {Φ : Option Value → Mem → Prop} (hL : L ≤ 3072) (hi : i + 6 ≤ L) (hc : c ≤ 10000) (I : LI L xs c σ M) (H : ∀ τ M2, LI L xs (c + 3) τ M2 → Ex 48 m_ML_law (3 * n) (330 * n) 1445 (lc4 i) [] M2 Φ) : Ex 48 m_ML_law (3 * n + 3) (330 * n + 330) 390 (lc4 i) [] M Φ := by
  have hlen := I.2.2.2.1.2
  refine ex_aload_n (pc := 390) (k := 1) (x := 0) (by decide +kernel) rfl ?_
  refine la_arg (pc := 391) (k := 1) (by decide +kernel) (by decide) I.2.2.2.2 hL (by omega) ?_
  refine la_arg (pc := 396) (k := 2) (by decide +kernel) (by decide) I.2.2.2.2 hL (by omega) ?_
  refine ex_callV (pc := 401) (d2 := 47) (as := [.int (xs (i + 1)), .int (xs (i + 2))]) (by decide +kernel) F_MD_feast (in_t3 (i := 79) rfl rfl) (I.2.1.1.s (j := 0) rfl) rfl (by decide) rfl rfl (Nat.le_of_ble_eq_true rfl) (by decide) ⟨Nat.zero_le _, Nat.zero_le _⟩ (KC_I (Con.grI (sX_feast (d := 45) I.1 I.2.1 (fun M1 h1 g1 => ?_))))
  have s1 := I.2.2.2.2.gr g1
  have m1 := h1.2 σ I.2.2.1
  refine ex_aload_n (pc := 404) (k := 2) (x := 78) (by decide +kernel) rfl ?_
  refine la_arg (pc := 405) (k := 1) (by decide +kernel) (by decide) s1 hL (by omega) ?_
  refine la_arg (pc := 410) (k := 2) (by decide +kernel) (by decide) s1 hL (by omega) ?_
  refine ex_callV (pc := 415) (d2 := 47) (as := [.int (xs (i + 1)), .int (xs (i + 2))]) (by decide +kernel) F_MM_feast (in_t6 (i := 42) rfl rfl) (m1.1.s (j := 78) rfl) rfl (by decide) rfl rfl (Nat.le_of_ble_eq_true rfl) (by decide) ⟨Nat.zero_le _, Nat.zero_le _⟩ (KC_I (Con.grI (sM_feast (d := 44) I.1 m1 (fun M2 h2 g2 => ?_))))
  refine ex_icmp_eq (pc := 418) (off := 1027) (tgt := 1445) (by decide +kernel) (by decide) (fun _ => ?_) (fun q => absurd rfl q)
  exact (H _ M2 (I.nx (I.1.feast (xs (i + 1)) (xs (i + 2))) h1 g1 h2 g2 (by decide))).bud (by omega) (by omega)
theorem lc_7 {L i n c : Nat} {xs : Nat → Int32} {σ : St} {M : Mem} {Φ : Option Value → Mem → Prop} (hL : L ≤ 3072) (hi : i + 6 ≤ L) (hc : c ≤ 10000) (I : LI L xs c σ M) (H : ∀ τ M2, LI L xs (c + 3) τ M2 → Ex 48 m_ML_law (3 * n) (330 * n) 1445 (lc4 i) [] M2 Φ) : Ex 48 m_ML_law (3 * n + 3) (330 * n + 330) 423 (lc4 i) [] M Φ := by
  have hlen := I.2.2.2.1.2
  refine ex_aload_n (pc := 423) (k := 1) (x := 0) (by decide +kernel) rfl ?_
  refine la_arg (pc := 424) (k := 1) (by decide +kernel) (by decide) I.2.2.2.2 hL (by omega) ?_
  refine ex_i2l (pc := 429) (by decide +kernel) ?_
  refine ex_bipush (pc := 430) (k := 32) (v := nI 32) (by decide +kernel) (by decide) ?_
  refine ex_lshl (pc := 432) (by decide +kernel) ?_
  refine la_arg (pc := 433) (k := 2) (by decide +kernel) (by decide) I.2.2.2.2 hL (by omega) ?_
  refine ex_i2l (pc := 438) (by decide +kernel) ?_
  refine ex_ldc2 (pc := 439) (v := 4294967295) (by decide +kernel) (in_t7 (i := 81) rfl rfl) ?_
  refine ex_land (pc := 442) (by decide +kernel) ?_
  refine ex_lor (pc := 443) (by decide +kernel) ?_
  refine la_arg (pc := 444) (k := 3) (by decide +kernel) (by decide) I.2.2.2.2 hL (by omega) ?_
  refine ex_callV (pc := 449) (d2 := 47) (as := [.long (((Int32.toInt64 (xs (i + 1))) <<< (Int32.toInt64 (nI 32) &&& 63)) ||| ((Int32.toInt64 (xs (i + 2))) &&& 4294967295)), .int (xs (i + 3))]) (by decide +kernel) F_MD_feed (in_t3 (i := 90) rfl rfl) (I.2.1.1.s (j := 0) rfl) rfl (by decide) rfl rfl (Nat.le_of_ble_eq_true rfl) (by decide) ⟨Nat.zero_le _, Nat.zero_le _⟩ (KC_I (Con.grI (sX_feed (d := 45) I.1 I.2.1 (fun M1 h1 g1 => ?_))))
  have s1 := I.2.2.2.2.gr g1
  have m1 := h1.2 σ I.2.2.1
  refine ex_aload_n (pc := 452) (k := 2) (x := 78) (by decide +kernel) rfl ?_
  refine la_arg (pc := 453) (k := 1) (by decide +kernel) (by decide) s1 hL (by omega) ?_
  refine ex_i2l (pc := 458) (by decide +kernel) ?_
  refine ex_bipush (pc := 459) (k := 32) (v := nI 32) (by decide +kernel) (by decide) ?_
  refine ex_lshl (pc := 461) (by decide +kernel) ?_
  refine la_arg (pc := 462) (k := 2) (by decide +kernel) (by decide) s1 hL (by omega) ?_
  refine ex_i2l (pc := 467) (by decide +kernel) ?_
  refine ex_ldc2 (pc := 468) (v := 4294967295) (by decide +kernel) (in_t7 (i := 81) rfl rfl) ?_
  refine ex_land (pc := 471) (by decide +kernel) ?_
  refine ex_lor (pc := 472) (by decide +kernel) ?_
  refine la_arg (pc := 473) (k := 3) (by decide +kernel) (by decide) s1 hL (by omega) ?_
  refine ex_callV (pc := 478) (d2 := 47) (as := [.long (((Int32.toInt64 (xs (i + 1))) <<< (Int32.toInt64 (nI 32) &&& 63)) ||| ((Int32.toInt64 (xs (i + 2))) &&& 4294967295)), .int (xs (i + 3))]) (by decide +kernel) F_MM_feed (in_t6 (i := 49) rfl rfl) (m1.1.s (j := 78) rfl) rfl (by decide) rfl rfl (Nat.le_of_ble_eq_true rfl) (by decide) ⟨Nat.zero_le _, Nat.zero_le _⟩ (KC_I (Con.grI (sM_feed (d := 45) I.1 m1 (fun M2 h2 g2 => ?_))))
  refine ex_icmp_eq (pc := 481) (off := 964) (tgt := 1445) (by decide +kernel) (by decide) (fun _ => ?_) (fun q => absurd rfl q)
  exact (H _ M2 (I.nx (I.1.feed (((Int32.toInt64 (xs (i + 1))) <<< (Int32.toInt64 (nI 32) &&& 63)) ||| ((Int32.toInt64 (xs (i + 2))) &&& 4294967295)) (xs (i + 3))) h1 g1 h2 g2 (by decide))).bud (by omega) (by omega)
theorem lc_8 {L i n c : Nat} {xs : Nat → Int32} {σ : St} {M : Mem} {Φ : Option Value → Mem → Prop} (hL : L ≤ 3072) (hi : i + 6 ≤ L) (hc : c ≤ 10000) (I : LI L xs c σ M) (H : ∀ τ M2, LI L xs (c + 3) τ M2 → Ex 48 m_ML_law (3 * n) (330 * n) 1445 (lc4 i) [] M2 Φ) : Ex 48 m_ML_law (3 * n + 3) (330 * n + 330) 486 (lc4 i) [] M Φ := by
  have hlen := I.2.2.2.1.2
  refine ex_aload_n (pc := 486) (k := 1) (x := 0) (by decide +kernel) rfl ?_
  refine ex_callV (pc := 487) (d2 := 47) (as := []) (by decide +kernel) F_MD_text (in_t3 (i := 94) rfl rfl) (I.2.1.1.s (j := 0) rfl) rfl (by decide) rfl rfl (Nat.le_of_ble_eq_true rfl) (by decide) ⟨by omega, by omega⟩ (KC_I (Con.grI (sX_text (d := 0) I.1 I.2.1 I.2.2.2.1.1 (by omega) (fun M1 h1 g1 => ?_))))
  have s1 := I.2.2.2.2.gr g1
  have m1 := h1.2 σ I.2.2.1
  refine ex_aload_n (pc := 490) (k := 2) (x := 78) (by decide +kernel) rfl ?_
  refine ex_callV (pc := 491) (d2 := 47) (as := []) (by decide +kernel) F_MM_text (in_t6 (i := 54) rfl rfl) (m1.1.s (j := 78) rfl) rfl (by decide) rfl rfl (Nat.le_of_ble_eq_true rfl) (by decide) ⟨Nat.zero_le _, Nat.zero_le _⟩ (KC_I (Con.grI (sM_text (d := 41) I.1 m1 (fun M2 h2 g2 => ?_))))
  refine ex_icmp_eq (pc := 494) (off := 951) (tgt := 1445) (by decide +kernel) (by decide) (fun _ => ?_) (fun q => absurd rfl q)
  exact (H _ M2 (I.nx (wf_text I.1) h1 g1 h2 g2 (by decide))).bud (by omega) (by omega)
