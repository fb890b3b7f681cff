/-! the law's cases 27 to 35 -/
theorem lc_27 {L i n c : Nat} {xs : Nat → Int32} {σ : St} {M : Mem} {Φ : Option Value → Mem → Prop} (hL : L ≤ 3072) (hi : i + 6 ≤ L) (hc : c ≤ 10000) (I : LI L xs c σ M) (H : ∀ τ M2, LI L xs (c + 3) τ M2 → Ex 48 m_ML_law (3 * n) (330 * n) 1445 (lc4 i) [] M2 Φ) : Ex 48 m_ML_law (3 * n + 3) (330 * n + 330) 1098 (lc4 i) [] M Φ := by
  have hlen := I.2.2.2.1.2
  refine ex_aload_n (pc := 1098) (k := 1) (x := 0) (by decide +kernel) rfl ?_
  refine la_arg (pc := 1099) (k := 1) (by decide +kernel) (by decide) I.2.2.2.2 hL (by omega) ?_
  refine la_arg (pc := 1104) (k := 2) (by decide +kernel) (by decide) I.2.2.2.2 hL (by omega) ?_
  refine la_arg (pc := 1109) (k := 3) (by decide +kernel) (by decide) I.2.2.2.2 hL (by omega) ?_
  refine la_arg (pc := 1114) (k := 4) (by decide +kernel) (by decide) I.2.2.2.2 hL (by omega) ?_
  refine la_arg (pc := 1119) (k := 5) (by decide +kernel) (by decide) I.2.2.2.2 hL (by omega) ?_
  refine ex_callV (pc := 1124) (d2 := 47) (as := [.int (xs (i + 1)), .int (xs (i + 2)), .int (xs (i + 3)), .int (xs (i + 4)), .int (xs (i + 5))]) (by decide +kernel) F_MD_walk (in_t4 (i := 216) rfl rfl) (I.2.1.1.s (j := 0) rfl) rfl (by decide) rfl rfl (Nat.le_of_ble_eq_true rfl) (by decide) ⟨Nat.zero_le _, Nat.zero_le _⟩ (KC_I (Con.grI (sX_walk (d := 42) I.1 I.2.1 (fun M1 h1 g1 => ?_))))
  have s1 := I.2.2.2.2.gr g1
  have m1 := h1.2 σ I.2.2.1
  refine ex_aload_n (pc := 1127) (k := 2) (x := 78) (by decide +kernel) rfl ?_
  refine la_arg (pc := 1128) (k := 1) (by decide +kernel) (by decide) s1 hL (by omega) ?_
  refine la_arg (pc := 1133) (k := 2) (by decide +kernel) (by decide) s1 hL (by omega) ?_
  refine la_arg (pc := 1138) (k := 3) (by decide +kernel) (by decide) s1 hL (by omega) ?_
  refine la_arg (pc := 1143) (k := 4) (by decide +kernel) (by decide) s1 hL (by omega) ?_
  refine la_arg (pc := 1148) (k := 5) (by decide +kernel) (by decide) s1 hL (by omega) ?_
  refine ex_callV (pc := 1153) (d2 := 47) (as := [.int (xs (i + 1)), .int (xs (i + 2)), .int (xs (i + 3)), .int (xs (i + 4)), .int (xs (i + 5))]) (by decide +kernel) F_MM_walk (in_t7 (i := 41) rfl rfl) (m1.1.s (j := 78) rfl) rfl (by decide) rfl rfl (Nat.le_of_ble_eq_true rfl) (by decide) ⟨Nat.zero_le _, Nat.zero_le _⟩ (KC_I (Con.grI (sM_walk (d := 42) I.1 m1 (fun M2 h2 g2 => ?_))))
  refine ex_icmp_eq (pc := 1156) (off := 289) (tgt := 1445) (by decide +kernel) (by decide) (fun _ => ?_) (fun q => absurd rfl q)
  exact (H _ M2 (I.nx I.1 h1 g1 h2 g2 (by decide))).bud (by omega) (by omega)
theorem lc_28 {L i n c : Nat} {xs : Nat → Int32} {σ : St} {M : Mem} {Φ : Option Value → Mem → Prop} (hL : L ≤ 3072) (hi : i + 6 ≤ L) (hc : c ≤ 10000) (I : LI L xs c σ M) (H : ∀ τ M2, LI L xs (c + 3) τ M2 → Ex 48 m_ML_law (3 * n) (330 * n) 1445 (lc4 i) [] M2 Φ) : Ex 48 m_ML_law (3 * n + 3) (330 * n + 330) 1161 (lc4 i) [] M Φ := by
  have hlen := I.2.2.2.1.2
  refine ex_aload_n (pc := 1161) (k := 1) (x := 0) (by decide +kernel) rfl ?_
  refine la_arg (pc := 1162) (k := 1) (by decide +kernel) (by decide) I.2.2.2.2 hL (by omega) ?_
  refine ex_callV (pc := 1167) (d2 := 47) (as := [.int (xs (i + 1))]) (by decide +kernel) F_MD_count (in_t4 (i := 228) rfl rfl) (I.2.1.1.s (j := 0) rfl) rfl (by decide) rfl rfl (Nat.le_of_ble_eq_true rfl) (by decide) ⟨Nat.zero_le _, Nat.zero_le _⟩ (KC_I (Con.grI (sX_count (d := 46) I.2.1 (fun M1 h1 g1 => ?_))))
  have s1 := I.2.2.2.2.gr g1
  have m1 := h1.2 σ I.2.2.1
  refine ex_aload_n (pc := 1170) (k := 2) (x := 78) (by decide +kernel) rfl ?_
  refine la_arg (pc := 1171) (k := 1) (by decide +kernel) (by decide) s1 hL (by omega) ?_
  refine ex_callV (pc := 1176) (d2 := 47) (as := [.int (xs (i + 1))]) (by decide +kernel) F_MM_count (in_t7 (i := 45) rfl rfl) (m1.1.s (j := 78) rfl) rfl (by decide) rfl rfl (Nat.le_of_ble_eq_true rfl) (by decide) ⟨Nat.zero_le _, Nat.zero_le _⟩ (KC_I (Con.grI (sM_count (d := 46) m1 (fun M2 h2 g2 => ?_))))
  refine ex_icmp_eq (pc := 1179) (off := 266) (tgt := 1445) (by decide +kernel) (by decide) (fun _ => ?_) (fun q => absurd rfl q)
  exact (H _ M2 (I.nx I.1 h1 g1 h2 g2 (by decide))).bud (by omega) (by omega)
theorem lc_29 {L i n c : Nat} {xs : Nat → Int32} {σ : St} {M : Mem} {Φ : Option Value → Mem → Prop} (hL : L ≤ 3072) (hi : i + 6 ≤ L) (hc : c ≤ 10000) (I : LI L xs c σ M) (H : ∀ τ M2, LI L xs (c + 3) τ M2 → Ex 48 m_ML_law (3 * n) (330 * n) 1445 (lc4 i) [] M2 Φ) : Ex 48 m_ML_law (3 * n + 3) (330 * n + 330) 1184 (lc4 i) [] M Φ := by
  have hlen := I.2.2.2.1.2
  refine ex_aload_n (pc := 1184) (k := 1) (x := 0) (by decide +kernel) rfl ?_
  refine ex_callV (pc := 1185) (d2 := 47) (as := []) (by decide +kernel) F_MD_image (in_t4 (i := 232) rfl rfl) (I.2.1.1.s (j := 0) rfl) rfl (by decide) rfl rfl (Nat.le_of_ble_eq_true rfl) (by decide) ⟨Nat.zero_le _, Nat.zero_le _⟩ (KC_I (Con.grI (sX_image (d := 44) I.1 I.2.1 (fun M1 h1 g1 => ?_))))
  have s1 := I.2.2.2.2.gr g1
  have m1 := h1.2 σ I.2.2.1
  refine ex_aload_n (pc := 1188) (k := 2) (x := 78) (by decide +kernel) rfl ?_
  refine ex_callV (pc := 1189) (d2 := 47) (as := []) (by decide +kernel) F_MM_image (in_t7 (i := 49) rfl rfl) (m1.1.s (j := 78) rfl) rfl (by decide) rfl rfl (Nat.le_of_ble_eq_true rfl) (by decide) ⟨Nat.zero_le _, Nat.zero_le _⟩ (KC_I (Con.grI (sM_image (d := 46) I.1 m1 (fun M2 h2 g2 => ?_))))
  refine ex_icmp_eq (pc := 1192) (off := 253) (tgt := 1445) (by decide +kernel) (by decide) (fun _ => ?_) (fun q => absurd rfl q)
  exact (H _ M2 (I.nx (I.1.image) h1 g1 h2 g2 (by decide))).bud (by omega) (by omega)
theorem lc_30 {L i n c : Nat} {xs : Nat → Int32} {σ : St} {M : Mem} {Φ : Option Value → Mem → Prop} (hL : L ≤ 3072) (hi : i + 6 ≤ L) (hc : c ≤ 10000) (I : LI L xs c σ M) (H : ∀ τ M2, LI L xs (c + 3) τ M2 → Ex 48 m_ML_law (3 * n) (330 * n) 1445 (lc4 i) [] M2 Φ) : Ex 48 m_ML_law (3 * n + 3) (330 * n + 330) 1197 (lc4 i) [] M Φ := by
  have hlen := I.2.2.2.1.2
  refine ex_aload_n (pc := 1197) (k := 1) (x := 0) (by decide +kernel) rfl ?_
  refine ex_callV (pc := 1198) (d2 := 47) (as := []) (by decide +kernel) F_MD_back (in_t5 (i := 1) rfl rfl) (I.2.1.1.s (j := 0) rfl) rfl (by decide) rfl rfl (Nat.le_of_ble_eq_true rfl) (by decide) ⟨Nat.zero_le _, Nat.zero_le _⟩ (KC_I (Con.grI (sX_back (d := 44) I.1 I.2.1 (fun M1 h1 g1 => ?_))))
  have s1 := I.2.2.2.2.gr g1
  have m1 := h1.2 σ I.2.2.1
  refine ex_aload_n (pc := 1201) (k := 2) (x := 78) (by decide +kernel) rfl ?_
  refine ex_callV (pc := 1202) (d2 := 47) (as := []) (by decide +kernel) F_MM_back (in_t7 (i := 53) rfl rfl) (m1.1.s (j := 78) rfl) rfl (by decide) rfl rfl (Nat.le_of_ble_eq_true rfl) (by decide) ⟨Nat.zero_le _, Nat.zero_le _⟩ (KC_I (Con.grI (sM_back (d := 46) I.1 m1 (fun M2 h2 g2 => ?_))))
  refine ex_icmp_eq (pc := 1205) (off := 240) (tgt := 1445) (by decide +kernel) (by decide) (fun _ => ?_) (fun q => absurd rfl q)
  exact (H _ M2 (I.nx (I.1.back) h1 g1 h2 g2 (by decide))).bud (by omega) (by omega)
theorem lc_31 {L i n c : Nat} {xs : Nat → Int32} {σ : St} {M : Mem} {Φ : Option Value → Mem → Prop} (hL : L ≤ 3072) (hi : i + 6 ≤ L) (hc : c ≤ 10000) (I : LI L xs c σ M) (H : ∀ τ M2, LI L xs (c + 3) τ M2 → Ex 48 m_ML_law (3 * n) (330 * n) 1445 (lc4 i) [] M2 Φ) : Ex 48 m_ML_law (3 * n + 3) (330 * n + 330) 1210 (lc4 i) [] M Φ := by
  have hlen := I.2.2.2.1.2
  refine ex_aload_n (pc := 1210) (k := 1) (x := 0) (by decide +kernel) rfl ?_
  refine la_arg (pc := 1211) (k := 1) (by decide +kernel) (by decide) I.2.2.2.2 hL (by omega) ?_
  refine la_arg (pc := 1216) (k := 2) (by decide +kernel) (by decide) I.2.2.2.2 hL (by omega) ?_
  refine la_arg (pc := 1221) (k := 3) (by decide +kernel) (by decide) I.2.2.2.2 hL (by omega) ?_
  refine ex_callV (pc := 1226) (d2 := 47) (as := [.int (xs (i + 1)), .int (xs (i + 2)), .int (xs (i + 3))]) (by decide +kernel) F_MD_sheet (in_t5 (i := 5) rfl rfl) (I.2.1.1.s (j := 0) rfl) rfl (by decide) rfl rfl (Nat.le_of_ble_eq_true rfl) (by decide) ⟨Nat.zero_le _, Nat.zero_le _⟩ (KC_I (Con.grI (sX_sheet (d := 44) I.1 I.2.1 (fun M1 h1 g1 => ?_))))
  have s1 := I.2.2.2.2.gr g1
  have m1 := h1.2 σ I.2.2.1
  refine ex_aload_n (pc := 1229) (k := 2) (x := 78) (by decide +kernel) rfl ?_
  refine la_arg (pc := 1230) (k := 1) (by decide +kernel) (by decide) s1 hL (by omega) ?_
  refine la_arg (pc := 1235) (k := 2) (by decide +kernel) (by decide) s1 hL (by omega) ?_
  refine la_arg (pc := 1240) (k := 3) (by decide +kernel) (by decide) s1 hL (by omega) ?_
  refine ex_callV (pc := 1245) (d2 := 47) (as := [.int (xs (i + 1)), .int (xs (i + 2)), .int (xs (i + 3))]) (by decide +kernel) F_MM_sheet (in_t7 (i := 57) rfl rfl) (m1.1.s (j := 78) rfl) rfl (by decide) rfl rfl (Nat.le_of_ble_eq_true rfl) (by decide) ⟨Nat.zero_le _, Nat.zero_le _⟩ (KC_I (Con.grI (sM_sheet (d := 45) I.1 m1 (fun M2 h2 g2 => ?_))))
  refine ex_icmp_eq (pc := 1248) (off := 197) (tgt := 1445) (by decide +kernel) (by decide) (fun _ => ?_) (fun q => absurd rfl q)
  exact (H _ M2 (I.nx (I.1.sheet (xs (i + 1)) (xs (i + 2)) (xs (i + 3))) h1 g1 h2 g2 (by decide))).bud (by omega) (by omega)
theorem lc_32 {L i n c : Nat} {xs : Nat → Int32} {σ : St} {M : Mem} {Φ : Option Value → Mem → Prop} (hL : L ≤ 3072) (hi : i + 6 ≤ L) (hc : c ≤ 10000) (I : LI L xs c σ M) (H : ∀ τ M2, LI L xs (c + 3) τ M2 → Ex 48 m_ML_law (3 * n) (330 * n) 1445 (lc4 i) [] M2 Φ) : Ex 48 m_ML_law (3 * n + 3) (330 * n + 330) 1253 (lc4 i) [] M Φ := by
  have hlen := I.2.2.2.1.2
  refine ex_aload_n (pc := 1253) (k := 1) (x := 0) (by decide +kernel) rfl ?_
  refine la_arg (pc := 1254) (k := 1) (by decide +kernel) (by decide) I.2.2.2.2 hL (by omega) ?_
  refine la_arg (pc := 1259) (k := 2) (by decide +kernel) (by decide) I.2.2.2.2 hL (by omega) ?_
  refine la_arg (pc := 1264) (k := 3) (by decide +kernel) (by decide) I.2.2.2.2 hL (by omega) ?_
  refine ex_callV (pc := 1269) (d2 := 47) (as := [.int (xs (i + 1)), .int (xs (i + 2)), .int (xs (i + 3))]) (by decide +kernel) F_MD_cell (in_t5 (i := 14) rfl rfl) (I.2.1.1.s (j := 0) rfl) rfl (by decide) rfl rfl (Nat.le_of_ble_eq_true rfl) (by decide) ⟨Nat.zero_le _, Nat.zero_le _⟩ (KC_I (Con.grI (sX_cell (d := 44) I.1 I.2.1 (fun M1 h1 g1 => ?_))))
  have s1 := I.2.2.2.2.gr g1
  have m1 := h1.2 σ I.2.2.1
  refine ex_aload_n (pc := 1272) (k := 2) (x := 78) (by decide +kernel) rfl ?_
  refine la_arg (pc := 1273) (k := 1) (by decide +kernel) (by decide) s1 hL (by omega) ?_
  refine la_arg (pc := 1278) (k := 2) (by decide +kernel) (by decide) s1 hL (by omega) ?_
  refine la_arg (pc := 1283) (k := 3) (by decide +kernel) (by decide) s1 hL (by omega) ?_
  refine ex_callV (pc := 1288) (d2 := 47) (as := [.int (xs (i + 1)), .int (xs (i + 2)), .int (xs (i + 3))]) (by decide +kernel) F_MM_cell (in_t7 (i := 61) rfl rfl) (m1.1.s (j := 78) rfl) rfl (by decide) rfl rfl (Nat.le_of_ble_eq_true rfl) (by decide) ⟨Nat.zero_le _, Nat.zero_le _⟩ (KC_I (Con.grI (sM_cell (d := 45) I.1 m1 (fun M2 h2 g2 => ?_))))
  refine ex_icmp_eq (pc := 1291) (off := 154) (tgt := 1445) (by decide +kernel) (by decide) (fun _ => ?_) (fun q => absurd rfl q)
  exact (H _ M2 (I.nx (I.1.cell (xs (i + 1)) (xs (i + 2)) (xs (i + 3))) h1 g1 h2 g2 (by decide))).bud (by omega) (by omega)
theorem lc_33 {L i n c : Nat} {xs : Nat → Int32} {σ : St} {M : Mem} {Φ : Option Value → Mem → Prop} (hL : L ≤ 3072) (hi : i + 6 ≤ L) (hc : c ≤ 10000) (I : LI L xs c σ M) (H : ∀ τ M2, LI L xs (c + 3) τ M2 → Ex 48 m_ML_law (3 * n) (330 * n) 1445 (lc4 i) [] M2 Φ) : Ex 48 m_ML_law (3 * n + 3) (330 * n + 330) 1296 (lc4 i) [] M Φ := by
  have hlen := I.2.2.2.1.2
  refine ex_aload_n (pc := 1296) (k := 1) (x := 0) (by decide +kernel) rfl ?_
  refine la_arg (pc := 1297) (k := 1) (by decide +kernel) (by decide) I.2.2.2.2 hL (by omega) ?_
  refine la_arg (pc := 1302) (k := 2) (by decide +kernel) (by decide) I.2.2.2.2 hL (by omega) ?_
  refine la_arg (pc := 1307) (k := 3) (by decide +kernel) (by decide) I.2.2.2.2 hL (by omega) ?_
  refine la_arg (pc := 1312) (k := 4) (by decide +kernel) (by decide) I.2.2.2.2 hL (by omega) ?_
  refine la_arg (pc := 1317) (k := 5) (by decide +kernel) (by decide) I.2.2.2.2 hL (by omega) ?_
  refine ex_callV (pc := 1322) (d2 := 47) (as := [.int (xs (i + 1)), .int (xs (i + 2)), .int (xs (i + 3)), .int (xs (i + 4)), .int (xs (i + 5))]) (by decide +kernel) F_MD_copy (in_t5 (i := 26) rfl rfl) (I.2.1.1.s (j := 0) rfl) rfl (by decide) rfl rfl (Nat.le_of_ble_eq_true rfl) (by decide) ⟨Nat.zero_le _, Nat.zero_le _⟩ (KC_I (Con.grI (sX_copy (d := 45) I.1 I.2.1 (fun M1 h1 g1 => ?_))))
  have s1 := I.2.2.2.2.gr g1
  have m1 := h1.2 σ I.2.2.1
  refine ex_aload_n (pc := 1325) (k := 2) (x := 78) (by decide +kernel) rfl ?_
  refine la_arg (pc := 1326) (k := 1) (by decide +kernel) (by decide) s1 hL (by omega) ?_
  refine la_arg (pc := 1331) (k := 2) (by decide +kernel) (by decide) s1 hL (by omega) ?_
  refine la_arg (pc := 1336) (k := 3) (by decide +kernel) (by decide) s1 hL (by omega) ?_
  refine la_arg (pc := 1341) (k := 4) (by decide +kernel) (by decide) s1 hL (by omega) ?_
  refine la_arg (pc := 1346) (k := 5) (by decide +kernel) (by decide) s1 hL (by omega) ?_
  refine ex_callV (pc := 1351) (d2 := 47) (as := [.int (xs (i + 1)), .int (xs (i + 2)), .int (xs (i + 3)), .int (xs (i + 4)), .int (xs (i + 5))]) (by decide +kernel) F_MM_copy (in_t7 (i := 65) rfl rfl) (m1.1.s (j := 78) rfl) rfl (by decide) rfl rfl (Nat.le_of_ble_eq_true rfl) (by decide) ⟨Nat.zero_le _, Nat.zero_le _⟩ (KC_I (Con.grI (sM_copy (d := 45) I.1 m1 (fun M2 h2 g2 => ?_))))
  refine ex_icmp_eq (pc := 1354) (off := 91) (tgt := 1445) (by decide +kernel) (by decide) (fun _ => ?_) (fun q => absurd rfl q)
  exact (H _ M2 (I.nx (I.1.copy (xs (i + 1)) (xs (i + 2)) (xs (i + 3)) (xs (i + 4)) (xs (i + 5))) h1 g1 h2 g2 (by decide))).bud (by omega) (by omega)
theorem lc_34 {L i n c : Nat} {xs : Nat → Int32} {σ : St} {M : Mem} {Φ : Option Value → Mem → Prop} (hL : L ≤ 3072) (hi : i + 6 ≤ L) (hc : c ≤ 10000) (I : LI L xs c σ M) (H : ∀ τ M2, LI L xs (c + 3) τ M2 → Ex 48 m_ML_law (3 * n) (330 * n) 1445 (lc4 i) [] M2 Φ) : Ex 48 m_ML_law (3 * n + 3) (330 * n + 330) 1359 (lc4 i) [] M Φ := by
  have hlen := I.2.2.2.1.2
  refine ex_aload_n (pc := 1359) (k := 1) (x := 0) (by decide +kernel) rfl ?_
  refine la_arg (pc := 1360) (k := 1) (by decide +kernel) (by decide) I.2.2.2.2 hL (by omega) ?_
  refine la_arg (pc := 1365) (k := 2) (by decide +kernel) (by decide) I.2.2.2.2 hL (by omega) ?_
  refine la_arg (pc := 1370) (k := 3) (by decide +kernel) (by decide) I.2.2.2.2 hL (by omega) ?_
  refine la_arg (pc := 1375) (k := 4) (by decide +kernel) (by decide) I.2.2.2.2 hL (by omega) ?_
  refine ex_callV (pc := 1380) (d2 := 47) (as := [.int (xs (i + 1)), .int (xs (i + 2)), .int (xs (i + 3)), .int (xs (i + 4))]) (by decide +kernel) F_MD_roads (in_t5 (i := 32) rfl rfl) (I.2.1.1.s (j := 0) rfl) rfl (by decide) rfl rfl (Nat.le_of_ble_eq_true rfl) (by decide) ⟨Nat.zero_le _, Nat.zero_le _⟩ (KC_I (Con.grI (sX_roads (d := 43) I.1 I.2.1 (fun M1 h1 g1 => ?_))))
  have s1 := I.2.2.2.2.gr g1
  have m1 := h1.2 σ I.2.2.1
  refine ex_aload_n (pc := 1383) (k := 2) (x := 78) (by decide +kernel) rfl ?_
  refine la_arg (pc := 1384) (k := 1) (by decide +kernel) (by decide) s1 hL (by omega) ?_
  refine la_arg (pc := 1389) (k := 2) (by decide +kernel) (by decide) s1 hL (by omega) ?_
  refine la_arg (pc := 1394) (k := 3) (by decide +kernel) (by decide) s1 hL (by omega) ?_
  refine la_arg (pc := 1399) (k := 4) (by decide +kernel) (by decide) s1 hL (by omega) ?_
  refine ex_callV (pc := 1404) (d2 := 47) (as := [.int (xs (i + 1)), .int (xs (i + 2)), .int (xs (i + 3)), .int (xs (i + 4))]) (by decide +kernel) F_MM_roads (in_t7 (i := 69) rfl rfl) (m1.1.s (j := 78) rfl) rfl (by decide) rfl rfl (Nat.le_of_ble_eq_true rfl) (by decide) ⟨Nat.zero_le _, Nat.zero_le _⟩ (KC_I (Con.grI (sM_roads (d := 43) I.1 m1 (fun M2 h2 g2 => ?_))))
  refine ex_icmp_eq (pc := 1407) (off := 38) (tgt := 1445) (by decide +kernel) (by decide) (fun _ => ?_) (fun q => absurd rfl q)
  exact (H _ M2 (I.nx (I.1.roads (xs (i + 1)) (xs (i + 2)) (xs (i + 3)) (xs (i + 4))) h1 g1 h2 g2 (by decide))).bud (by omega) (by omega)
theorem lc_35 {L i n c : Nat} {xs : Nat → Int32} {σ : St} {M : Mem} {Φ : Option Value → Mem → Prop} (hL : L ≤ 3072) (hi : i + 6 ≤ L) (hc : c ≤ 10000) (I : LI L xs c σ M) (H : ∀ τ M2, LI L xs (c + 3) τ M2 → Ex 48 m_ML_law (3 * n) (330 * n) 1445 (lc4 i) [] M2 Φ) : Ex 48 m_ML_law (3 * n + 3) (330 * n + 330) 1412 (lc4 i) [] M Φ := by
  have hlen := I.2.2.2.1.2
  refine ex_aload_n (pc := 1412) (k := 1) (x := 0) (by decide +kernel) rfl ?_
  refine la_arg (pc := 1413) (k := 1) (by decide +kernel) (by decide) I.2.2.2.2 hL (by omega) ?_
  refine la_arg (pc := 1418) (k := 2) (by decide +kernel) (by decide) I.2.2.2.2 hL (by omega) ?_
  refine ex_callV (pc := 1423) (d2 := 47) (as := [.int (xs (i + 1)), .int (xs (i + 2))]) (by decide +kernel) F_MD_taken (in_t5 (i := 38) rfl rfl) (I.2.1.1.s (j := 0) rfl) rfl (by decide) rfl rfl (Nat.le_of_ble_eq_true rfl) (by decide) ⟨Nat.zero_le _, Nat.zero_le _⟩ (KC_I (Con.grI (sX_taken (d := 44) I.1 I.2.1 (fun M1 h1 g1 => ?_))))
  have s1 := I.2.2.2.2.gr g1
  have m1 := h1.2 σ I.2.2.1
  refine ex_aload_n (pc := 1426) (k := 2) (x := 78) (by decide +kernel) rfl ?_
  refine la_arg (pc := 1427) (k := 1) (by decide +kernel) (by decide) s1 hL (by omega) ?_
  refine la_arg (pc := 1432) (k := 2) (by decide +kernel) (by decide) s1 hL (by omega) ?_
  refine ex_callV (pc := 1437) (d2 := 47) (as := [.int (xs (i + 1)), .int (xs (i + 2))]) (by decide +kernel) F_MM_taken (in_t7 (i := 74) rfl rfl) (m1.1.s (j := 78) rfl) rfl (by decide) rfl rfl (Nat.le_of_ble_eq_true rfl) (by decide) ⟨Nat.zero_le _, Nat.zero_le _⟩ (KC_I (Con.grI (sM_taken (d := 45) I.1 m1 (fun M2 h2 g2 => ?_))))
  refine ex_icmp_eq (pc := 1440) (off := 5) (tgt := 1445) (by decide +kernel) (by decide) (fun _ => ?_) (fun q => absurd rfl q)
  exact (H _ M2 (I.nx I.1 h1 g1 h2 g2 (by decide))).bud (by omega) (by omega)
