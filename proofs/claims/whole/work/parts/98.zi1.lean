/-! the law's switch, its loop, its start -/
theorem lc_tab : decode code 33 = .ok (.tableswitch 1412 0 35 #[159, 182, 225, 258, 281, 324, 357, 390, 453, 466, 489, 523, 577, 610, 653, 686, 719, 763, 796, 809, 843, 866, 879, 892, 935, 979, 1042, 1065, 1128, 1151, 1164, 1177, 1220, 1263, 1326, 1379], 159) := by decide +kernel
theorem lc_sw {L i n c : Nat} {xs : Nat → Int32} {σ : St} {M : Mem} {Φ : Option Value → Mem → Prop} {v : Int32} (hL : L ≤ 3072) (hi : i + 6 ≤ L) (hc : c ≤ 10000) (I : LI L xs c σ M) (H : ∀ τ M2, LI L xs (c + 3) τ M2 → Ex 48 m_ML_law (3 * n) (330 * n) 1445 (lc4 i) [] M2 Φ) : Ex 48 m_ML_law (3 * n + 3) (330 * n + 330) 33 (lc4 i) [.int v] M Φ := by
  by_cases hv : 0 ≤ v.toInt ∧ v.toInt < 36
  · obtain ⟨k, hk, rfl⟩ := i_of (n := 36) hv.1 hv.2 (by decide)
    match k, hk with
    | 0, _ => exact ex_tableIn (pc := 33) (off := 159) (tgt := 192) lc_tab (by decide) (by decide) (by decide +kernel) (by decide) (lc_0 hL hi hc I H)
    | 1, _ => exact ex_tableIn (pc := 33) (off := 182) (tgt := 215) lc_tab (by decide) (by decide) (by decide +kernel) (by decide) (lc_1 hL hi hc I H)
    | 2, _ => exact ex_tableIn (pc := 33) (off := 225) (tgt := 258) lc_tab (by decide) (by decide) (by decide +kernel) (by decide) (lc_2 hL hi hc I H)
    | 3, _ => exact ex_tableIn (pc := 33) (off := 258) (tgt := 291) lc_tab (by decide) (by decide) (by decide +kernel) (by decide) (lc_3 hL hi hc I H)
    | 4, _ => exact ex_tableIn (pc := 33) (off := 281) (tgt := 314) lc_tab (by decide) (by decide) (by decide +kernel) (by decide) (lc_4 hL hi hc I H)
    | 5, _ => exact ex_tableIn (pc := 33) (off := 324) (tgt := 357) lc_tab (by decide) (by decide) (by decide +kernel) (by decide) (lc_5 hL hi hc I H)
    | 6, _ => exact ex_tableIn (pc := 33) (off := 357) (tgt := 390) lc_tab (by decide) (by decide) (by decide +kernel) (by decide) (lc_6 hL hi hc I H)
    | 7, _ => exact ex_tableIn (pc := 33) (off := 390) (tgt := 423) lc_tab (by decide) (by decide) (by decide +kernel) (by decide) (lc_7 hL hi hc I H)
    | 8, _ => exact ex_tableIn (pc := 33) (off := 453) (tgt := 486) lc_tab (by decide) (by decide) (by decide +kernel) (by decide) (lc_8 hL hi hc I H)
    | 9, _ => exact ex_tableIn (pc := 33) (off := 466) (tgt := 499) lc_tab (by decide) (by decide) (by decide +kernel) (by decide) (lc_9 hL hi hc I H)
    | 10, _ => exact ex_tableIn (pc := 33) (off := 489) (tgt := 522) lc_tab (by decide) (by decide) (by decide +kernel) (by decide) (lc_10 hL hi hc I H)
    | 11, _ => exact ex_tableIn (pc := 33) (off := 523) (tgt := 556) lc_tab (by decide) (by decide) (by decide +kernel) (by decide) (lc_11 hL hi hc I H)
    | 12, _ => exact ex_tableIn (pc := 33) (off := 577) (tgt := 610) lc_tab (by decide) (by decide) (by decide +kernel) (by decide) (lc_12 hL hi hc I H)
    | 13, _ => exact ex_tableIn (pc := 33) (off := 610) (tgt := 643) lc_tab (by decide) (by decide) (by decide +kernel) (by decide) (lc_13 hL hi hc I H)
    | 14, _ => exact ex_tableIn (pc := 33) (off := 653) (tgt := 686) lc_tab (by decide) (by decide) (by decide +kernel) (by decide) (lc_14 hL hi hc I H)
    | 15, _ => exact ex_tableIn (pc := 33) (off := 686) (tgt := 719) lc_tab (by decide) (by decide) (by decide +kernel) (by decide) (lc_15 hL hi hc I H)
    | 16, _ => exact ex_tableIn (pc := 33) (off := 719) (tgt := 752) lc_tab (by decide) (by decide) (by decide +kernel) (by decide) (lc_16 hL hi hc I H)
    | 17, _ => exact ex_tableIn (pc := 33) (off := 763) (tgt := 796) lc_tab (by decide) (by decide) (by decide +kernel) (by decide) (lc_17 hL hi hc I H)
    | 18, _ => exact ex_tableIn (pc := 33) (off := 796) (tgt := 829) lc_tab (by decide) (by decide) (by decide +kernel) (by decide) (lc_18 hL hi hc I H)
    | 19, _ => exact ex_tableIn (pc := 33) (off := 809) (tgt := 842) lc_tab (by decide) (by decide) (by decide +kernel) (by decide) (lc_19 hL hi hc I H)
    | 20, _ => exact ex_tableIn (pc := 33) (off := 843) (tgt := 876) lc_tab (by decide) (by decide) (by decide +kernel) (by decide) (lc_20 hL hi hc I H)
    | 21, _ => exact ex_tableIn (pc := 33) (off := 866) (tgt := 899) lc_tab (by decide) (by decide) (by decide +kernel) (by decide) (lc_21 hL hi hc I H)
    | 22, _ => exact ex_tableIn (pc := 33) (off := 879) (tgt := 912) lc_tab (by decide) (by decide) (by decide +kernel) (by decide) (lc_22 hL hi hc I H)
    | 23, _ => exact ex_tableIn (pc := 33) (off := 892) (tgt := 925) lc_tab (by decide) (by decide) (by decide +kernel) (by decide) (lc_23 hL hi hc I H)
    | 24, _ => exact ex_tableIn (pc := 33) (off := 935) (tgt := 968) lc_tab (by decide) (by decide) (by decide +kernel) (by decide) (lc_24 hL hi hc I H)
    | 25, _ => exact ex_tableIn (pc := 33) (off := 979) (tgt := 1012) lc_tab (by decide) (by decide) (by decide +kernel) (by decide) (lc_25 hL hi hc I H)
    | 26, _ => exact ex_tableIn (pc := 33) (off := 1042) (tgt := 1075) lc_tab (by decide) (by decide) (by decide +kernel) (by decide) (lc_26 hL hi hc I H)
    | 27, _ => exact ex_tableIn (pc := 33) (off := 1065) (tgt := 1098) lc_tab (by decide) (by decide) (by decide +kernel) (by decide) (lc_27 hL hi hc I H)
    | 28, _ => exact ex_tableIn (pc := 33) (off := 1128) (tgt := 1161) lc_tab (by decide) (by decide) (by decide +kernel) (by decide) (lc_28 hL hi hc I H)
    | 29, _ => exact ex_tableIn (pc := 33) (off := 1151) (tgt := 1184) lc_tab (by decide) (by decide) (by decide +kernel) (by decide) (lc_29 hL hi hc I H)
    | 30, _ => exact ex_tableIn (pc := 33) (off := 1164) (tgt := 1197) lc_tab (by decide) (by decide) (by decide +kernel) (by decide) (lc_30 hL hi hc I H)
    | 31, _ => exact ex_tableIn (pc := 33) (off := 1177) (tgt := 1210) lc_tab (by decide) (by decide) (by decide +kernel) (by decide) (lc_31 hL hi hc I H)
    | 32, _ => exact ex_tableIn (pc := 33) (off := 1220) (tgt := 1253) lc_tab (by decide) (by decide) (by decide +kernel) (by decide) (lc_32 hL hi hc I H)
    | 33, _ => exact ex_tableIn (pc := 33) (off := 1263) (tgt := 1296) lc_tab (by decide) (by decide) (by decide +kernel) (by decide) (lc_33 hL hi hc I H)
    | 34, _ => exact ex_tableIn (pc := 33) (off := 1326) (tgt := 1359) lc_tab (by decide) (by decide) (by decide +kernel) (by decide) (lc_34 hL hi hc I H)
    | 35, _ => exact ex_tableIn (pc := 33) (off := 1379) (tgt := 1412) lc_tab (by decide) (by decide) (by decide +kernel) (by decide) (lc_35 hL hi hc I H)
    | k + 36, hk => exact absurd hk (by omega)
  · refine ex_tableOut (pc := 33) (tgt := 1445) lc_tab (by omega) (by decide) ?_
    obtain ⟨h1, h2, h3, ⟨h4, h5⟩, h6⟩ := I
    exact (H σ M ⟨h1, h2, h3, ⟨h4, by omega⟩, h6⟩).bud (by omega) (by omega)
theorem law_loop {L : Nat} {xs : Nat → Int32} {Φ : Option Value → Mem → Prop} (hL : L ≤ 3072) (HΦ : ∀ M, Φ (some (.int 1)) M) : ∀ (n i c : Nat) (σ : St) (M : Mem), i + 6 * n ≤ L → L < i + 6 * n + 6 → c + 3 * n ≤ 10000 → LI L xs c σ M → Ex 48 m_ML_law (3 * n) (330 * n) 18 (lc4 i) [] M Φ := by
  intro n
  induction n with
  | zero =>
    intro i c σ M h1 h2 h3 I
    refine ex_iload_n (pc := 18) (k := 3) (x := nI i) (by decide +kernel) rfl ?_
    refine ex_aload_n (pc := 19) (k := 0) (x := 1048776) (by decide +kernel) rfl ?_
    refine ex_slen (pc := 20) (by decide +kernel) ?_
    refine ex_bipush (pc := 21) (k := 6) (v := nI 6) (by decide +kernel) (by decide) ?_
    refine ex_isub (pc := 23) (by decide +kernel) ?_
    refine ex_icmp_gt (pc := 24) (off := 1427) (tgt := 1451) (by decide +kernel) (by decide) (fun _ => ?_) (fun q => absurd ?_ q)
    · refine ex_iconst (pc := 1451) (k := 1) (v := 1) (by decide +kernel) (by decide) ?_
      exact ex_ireturn (pc := 1452) (ty := .boolean) (by decide +kernel) rfl rfl (HΦ M)
    · rw [I.2.2.2.2.1, i_lt, pk_sub_toInt (by omega) (by decide), nI_toInt (by omega)]; omega
  | succ n ih =>
    intro i c σ M h1 h2 h3 I
    refine ex_iload_n (pc := 18) (k := 3) (x := nI i) (by decide +kernel) rfl ?_
    refine ex_aload_n (pc := 19) (k := 0) (x := 1048776) (by decide +kernel) rfl ?_
    refine ex_slen (pc := 20) (by decide +kernel) ?_
    refine ex_bipush (pc := 21) (k := 6) (v := nI 6) (by decide +kernel) (by decide) ?_
    refine ex_isub (pc := 23) (by decide +kernel) ?_
    refine ex_icmp_gt (pc := 24) (off := 1427) (tgt := 1451) (by decide +kernel) (by decide) (fun q => absurd q ?_) (fun _ => ?_)
    · rw [I.2.2.2.2.1, i_lt, pk_sub_toInt (by omega) (by decide), nI_toInt (by omega)]; omega
    · refine ex_aload_n (pc := 27) (k := 0) (x := 1048776) (by decide +kernel) rfl ?_
      refine ex_iload_n (pc := 28) (k := 3) (x := nI i) (by decide +kernel) rfl ?_
      refine ex_sld (pc := 29) (k := i) (by decide +kernel) (by rw [I.2.2.2.2.1]; exact vN (by omega) (by omega)) (nI_clamp (by omega)) ?_
      refine ex_bipush (pc := 30) (k := 63) (v := nI 63) (by decide +kernel) (by decide) ?_
      refine ex_iand (pc := 32) (by decide +kernel) ?_
      refine (lc_sw (n := n) hL (by omega) (by omega) I (fun τ M2 I2 => ?_)).bud (by omega) (by omega)
      refine ex_iinc (pc := 1445) (i := 3) (k := 6) (x := nI i) (v := nI (i + 6)) (lo2 := lc4 (i + 6)) (by decide +kernel) (by decide) rfl ?_ rfl ?_
      · rw [← nI_add]; rfl
      · refine ex_goto (pc := 1448) (off := -1430) (tgt := 18) (by decide +kernel) (by decide) ?_
        exact ih (i + 6) (c + 3) τ M2 (by omega) (by omega) (by omega) I2
def mem0 (L : Nat) (xs : Nat → Int32) : Mem := ([], fun _ _ => 0, fun _ _ => 0, fun _ _ => none, (L, xs))
theorem sc_wi (M : Mem) (j k : Nat) (v : Int32) : sc (wi M j k v) = sc M := rfl
theorem sc_wr (M : Mem) (j k : Nat) (v : Option Nat) : sc (wr M j k v) = sc M := rfl
theorem sc_wl (M : Mem) (j k : Nat) (v : Int64) : sc (wl M j k v) = sc M := rfl
theorem sc_nwL (M : Mem) (j k n : Nat) : sc (nwL M j k n) = sc M := rfl
theorem sc_nwML (M : Mem) (j : Nat) : sc (nwML M j) = sc M := rfl
theorem KXc_0 (B : Mem) : sc (KX0 B) = sc B := rfl
theorem KXc_1 (B : Mem) : sc (KX1 B) = sc B := (sc_nwL _ _ _ _).trans (KXc_0 B)
theorem KXc_2 (B : Mem) : sc (KX2 B) = sc B := (sc_nwL _ _ _ _).trans (KXc_1 B)
theorem KXc_3 (B : Mem) : sc (KX3 B) = sc B := (sc_nwL _ _ _ _).trans (KXc_2 B)
theorem KXc_4 (B : Mem) : sc (KX4 B) = sc B := (sc_wr _ _ _ _).trans (KXc_3 B)
theorem KXc_5 (B : Mem) : sc (KX5 B) = sc B := (sc_nwL _ _ _ _).trans (KXc_4 B)
theorem KXc_6 (B : Mem) : sc (KX6 B) = sc B := (sc_wr _ _ _ _).trans (KXc_5 B)
theorem KXc_7 (B : Mem) : sc (KX7 B) = sc B := (sc_nwL _ _ _ _).trans (KXc_6 B)
theorem KXc_8 (B : Mem) : sc (KX8 B) = sc B := (sc_wr _ _ _ _).trans (KXc_7 B)
theorem KXc_9 (B : Mem) : sc (KX9 B) = sc B := (sc_nwL _ _ _ _).trans (KXc_8 B)
theorem KXc_10 (B : Mem) : sc (KX10 B) = sc B := (sc_wr _ _ _ _).trans (KXc_9 B)
theorem KXc_11 (B : Mem) : sc (KX11 B) = sc B := (sc_nwML _ _).trans (KXc_10 B)
theorem KXc_12 (B : Mem) : sc (KX12 B) = sc B := (sc_wr _ _ _ _).trans (KXc_11 B)
theorem KXc_13 (B : Mem) : sc (KX13 B) = sc B := (sc_nwML _ _).trans (KXc_12 B)
theorem KXc_14 (B : Mem) : sc (KX14 B) = sc B := (sc_wr _ _ _ _).trans (KXc_13 B)
theorem KXc_15 (B : Mem) : sc (KX15 B) = sc B := (sc_nwL _ _ _ _).trans (KXc_14 B)
theorem KXc_16 (B : Mem) : sc (KX16 B) = sc B := (sc_wr _ _ _ _).trans (KXc_15 B)
theorem KXc_17 (B : Mem) : sc (KX17 B) = sc B := (sc_nwL _ _ _ _).trans (KXc_16 B)
theorem KXc_18 (B : Mem) : sc (KX18 B) = sc B := (sc_wr _ _ _ _).trans (KXc_17 B)
theorem KXc_19 (B : Mem) : sc (KX19 B) = sc B := (sc_wi _ _ _ _).trans (KXc_18 B)
theorem KXc_20 (B : Mem) : sc (KX20 B) = sc B := (sc_wi _ _ _ _).trans (KXc_19 B)
theorem KXc_21 (B : Mem) : sc (KX21 B) = sc B := (sc_wi _ _ _ _).trans (KXc_20 B)
theorem KXc_22 (B : Mem) : sc (KX22 B) = sc B := (sc_wi _ _ _ _).trans (KXc_21 B)
theorem KXc_23 (B : Mem) : sc (KX23 B) = sc B := (sc_wr _ _ _ _).trans (KXc_22 B)
theorem KXc_24 (B : Mem) : sc (KX24 B) = sc B := (sc_nwL _ _ _ _).trans (KXc_23 B)
theorem KXc_25 (B : Mem) : sc (KX25 B) = sc B := (sc_nwL _ _ _ _).trans (KXc_24 B)
theorem KXc_26 (B : Mem) : sc (KX26 B) = sc B := (sc_wr _ _ _ _).trans (KXc_25 B)
theorem KXc_27 (B : Mem) : sc (KX27 B) = sc B := (sc_nwL _ _ _ _).trans (KXc_26 B)
theorem KXc_28 (B : Mem) : sc (KX28 B) = sc B := (sc_wr _ _ _ _).trans (KXc_27 B)
theorem KXc_29 (B : Mem) : sc (KX29 B) = sc B := (sc_nwL _ _ _ _).trans (KXc_28 B)
theorem KXc_30 (B : Mem) : sc (KX30 B) = sc B := (sc_wr _ _ _ _).trans (KXc_29 B)
theorem KXc_31 (B : Mem) : sc (KX31 B) = sc B := (sc_nwL _ _ _ _).trans (KXc_30 B)
theorem KXc_32 (B : Mem) : sc (KX32 B) = sc B := (sc_wr _ _ _ _).trans (KXc_31 B)
theorem KXc_33 (B : Mem) : sc (KX33 B) = sc B := (sc_nwML _ _).trans (KXc_32 B)
theorem KXc_34 (B : Mem) : sc (KX34 B) = sc B := (sc_wr _ _ _ _).trans (KXc_33 B)
theorem KXc_35 (B : Mem) : sc (KX35 B) = sc B := (sc_nwML _ _).trans (KXc_34 B)
theorem KXc_36 (B : Mem) : sc (KX36 B) = sc B := (sc_wr _ _ _ _).trans (KXc_35 B)
theorem KXc_37 (B : Mem) : sc (KX37 B) = sc B := (sc_nwL _ _ _ _).trans (KXc_36 B)
theorem KXc_38 (B : Mem) : sc (KX38 B) = sc B := (sc_wr _ _ _ _).trans (KXc_37 B)
theorem KXc_39 (B : Mem) : sc (KX39 B) = sc B := (sc_nwL _ _ _ _).trans (KXc_38 B)
theorem KXc_40 (B : Mem) : sc (KX40 B) = sc B := (sc_wr _ _ _ _).trans (KXc_39 B)
theorem KXc_41 (B : Mem) : sc (KX41 B) = sc B := (sc_wi _ _ _ _).trans (KXc_40 B)
theorem KXc_42 (B : Mem) : sc (KX42 B) = sc B := (sc_wi _ _ _ _).trans (KXc_41 B)
theorem KXc_43 (B : Mem) : sc (KX43 B) = sc B := (sc_wi _ _ _ _).trans (KXc_42 B)
theorem KXc_44 (B : Mem) : sc (KX44 B) = sc B := (sc_wi _ _ _ _).trans (KXc_43 B)
theorem KXc_45 (B : Mem) : sc (KX45 B) = sc B := (sc_wr _ _ _ _).trans (KXc_44 B)
theorem KXc_46 (B : Mem) : sc (KX46 B) = sc B := (sc_wi _ _ _ _).trans (KXc_45 B)
theorem KXc_47 (B : Mem) : sc (KX47 B) = sc B := (sc_nwL _ _ _ _).trans (KXc_46 B)
theorem KXc_48 (B : Mem) : sc (KX48 B) = sc B := (sc_nwL _ _ _ _).trans (KXc_47 B)
theorem KXc_49 (B : Mem) : sc (KX49 B) = sc B := (sc_wr _ _ _ _).trans (KXc_48 B)
theorem KXc_50 (B : Mem) : sc (KX50 B) = sc B := (sc_wi _ _ _ _).trans (KXc_49 B)
theorem KXc_51 (B : Mem) : sc (KX51 B) = sc B := (sc_wi _ _ _ _).trans (KXc_50 B)
theorem KXc_52 (B : Mem) : sc (KX52 B) = sc B := (sc_wi _ _ _ _).trans (KXc_51 B)
theorem KXc_53 (B : Mem) : sc (KX53 B) = sc B := (sc_wi _ _ _ _).trans (KXc_52 B)
theorem KXc_54 (B : Mem) : sc (KX54 B) = sc B := (sc_wi _ _ _ _).trans (KXc_53 B)
theorem KXc_55 (B : Mem) : sc (KX55 B) = sc B := (sc_wi _ _ _ _).trans (KXc_54 B)
theorem KXc_56 (B : Mem) : sc (KX56 B) = sc B := (sc_wi _ _ _ _).trans (KXc_55 B)
theorem KXc_57 (B : Mem) : sc (KX57 B) = sc B := (sc_nwL _ _ _ _).trans (KXc_56 B)
theorem KXc_58 (B : Mem) : sc (KX58 B) = sc B := (sc_wr _ _ _ _).trans (KXc_57 B)
theorem KXc_59 (B : Mem) : sc (KX59 B) = sc B := (sc_wi _ _ _ _).trans (KXc_58 B)
theorem KXc_60 (B : Mem) : sc (KX60 B) = sc B := (sc_wr _ _ _ _).trans (KXc_59 B)
theorem KXc_61 (B : Mem) : sc (KX61 B) = sc B := (sc_nwL _ _ _ _).trans (KXc_60 B)
theorem KXc_62 (B : Mem) : sc (KX62 B) = sc B := (sc_nwL _ _ _ _).trans (KXc_61 B)
theorem KXc_63 (B : Mem) : sc (KX63 B) = sc B := (sc_wr _ _ _ _).trans (KXc_62 B)
theorem KXc_64 (B : Mem) : sc (KX64 B) = sc B := (sc_wi _ _ _ _).trans (KXc_63 B)
theorem KXc_65 (B : Mem) : sc (KX65 B) = sc B := (sc_nwL _ _ _ _).trans (KXc_64 B)
theorem KXc_66 (B : Mem) : sc (KX66 B) = sc B := (sc_wr _ _ _ _).trans (KXc_65 B)
theorem KXc_67 (B : Mem) : sc (KX67 B) = sc B := (sc_nwL _ _ _ _).trans (KXc_66 B)
theorem KXc_68 (B : Mem) : sc (KX68 B) = sc B := (sc_wr _ _ _ _).trans (KXc_67 B)
theorem KXc_69 (B : Mem) : sc (KX69 B) = sc B := (sc_wr _ _ _ _).trans (KXc_68 B)
theorem KXc_70 (B : Mem) : sc (KX70 B) = sc B := (sc_wr _ _ _ _).trans (KXc_69 B)
theorem KXc_71 (B : Mem) : sc (KX71 B) = sc B := (sc_nwL _ _ _ _).trans (KXc_70 B)
theorem KXc_72 (B : Mem) : sc (KX72 B) = sc B := (sc_wr _ _ _ _).trans (KXc_71 B)
theorem KXc_73 (B : Mem) : sc (KX73 B) = sc B := (sc_wi _ _ _ _).trans (KXc_72 B)
theorem KXc_74 (B : Mem) : sc (KX74 B) = sc B := (sc_nwL _ _ _ _).trans (KXc_73 B)
theorem KXc_75 (B : Mem) : sc (KX75 B) = sc B := (sc_nwL _ _ _ _).trans (KXc_74 B)
theorem KXc_76 (B : Mem) : sc (KX76 B) = sc B := (sc_wr _ _ _ _).trans (KXc_75 B)
theorem KXc_77 (B : Mem) : sc (KX77 B) = sc B := (sc_wr _ _ _ _).trans (KXc_76 B)
theorem KXc_78 (B : Mem) : sc (KX78 B) = sc B := (sc_wr _ _ _ _).trans (KXc_77 B)
theorem KXc_79 (B : Mem) : sc (KX79 B) = sc B := (sc_wr _ _ _ _).trans (KXc_78 B)
theorem KXc_80 (B : Mem) : sc (KX80 B) = sc B := (sc_wr _ _ _ _).trans (KXc_79 B)
theorem KXc_81 (B : Mem) : sc (KX81 B) = sc B := (sc_nwL _ _ _ _).trans (KXc_80 B)
theorem KXc_82 (B : Mem) : sc (KX82 B) = sc B := (sc_nwL _ _ _ _).trans (KXc_81 B)
theorem KXc_83 (B : Mem) : sc (KX83 B) = sc B := (sc_wr _ _ _ _).trans (KXc_82 B)
theorem KXc_84 (B : Mem) : sc (KX84 B) = sc B := (sc_wi _ _ _ _).trans (KXc_83 B)
theorem KXc_85 (B : Mem) : sc (KX85 B) = sc B := (sc_nwL _ _ _ _).trans (KXc_84 B)
theorem KXc_86 (B : Mem) : sc (KX86 B) = sc B := (sc_wr _ _ _ _).trans (KXc_85 B)
theorem KXc_87 (B : Mem) : sc (KX87 B) = sc B := (sc_nwL _ _ _ _).trans (KXc_86 B)
theorem KXc_88 (B : Mem) : sc (KX88 B) = sc B := (sc_wr _ _ _ _).trans (KXc_87 B)
theorem KXc_89 (B : Mem) : sc (KX89 B) = sc B := (sc_nwL _ _ _ _).trans (KXc_88 B)
theorem KXc_90 (B : Mem) : sc (KX90 B) = sc B := (sc_wr _ _ _ _).trans (KXc_89 B)
theorem KXc_91 (B : Mem) : sc (KX91 B) = sc B := (sc_wr _ _ _ _).trans (KXc_90 B)
theorem KXc_92 (B : Mem) : sc (KX92 B) = sc B := (sc_wr _ _ _ _).trans (KXc_91 B)
theorem KXc_93 (B : Mem) : sc (KX93 B) = sc B := (sc_nwL _ _ _ _).trans (KXc_92 B)
theorem KXc_94 (B : Mem) : sc (KX94 B) = sc B := (sc_wi _ _ _ _).trans (KXc_93 B)
theorem KXc_95 (B : Mem) : sc (KX95 B) = sc B := (sc_nwL _ _ _ _).trans (KXc_94 B)
theorem KXc_96 (B : Mem) : sc (KX96 B) = sc B := (sc_wr _ _ _ _).trans (KXc_95 B)
theorem KXc_97 (B : Mem) : sc (KX97 B) = sc B := (sc_nwL _ _ _ _).trans (KXc_96 B)
theorem KXc_98 (B : Mem) : sc (KX98 B) = sc B := (sc_wr _ _ _ _).trans (KXc_97 B)
theorem KXc_99 (B : Mem) : sc (KX99 B) = sc B := (sc_wi _ _ _ _).trans (KXc_98 B)
theorem KXc_100 (B : Mem) : sc (KX100 B) = sc B := (sc_nwL _ _ _ _).trans (KXc_99 B)
theorem KXc_101 (B : Mem) : sc (KX101 B) = sc B := (sc_wr _ _ _ _).trans (KXc_100 B)
theorem KXc_102 (B : Mem) : sc (KX102 B) = sc B := (sc_nwL _ _ _ _).trans (KXc_101 B)
theorem KXc_103 (B : Mem) : sc (KX103 B) = sc B := (sc_wr _ _ _ _).trans (KXc_102 B)
theorem KXc_104 (B : Mem) : sc (KX104 B) = sc B := (sc_wi _ _ _ _).trans (KXc_103 B)
theorem KXc_105 (B : Mem) : sc (KX105 B) = sc B := (sc_wr _ _ _ _).trans (KXc_104 B)
theorem KXc_106 (B : Mem) : sc (KX106 B) = sc B := (sc_wr _ _ _ _).trans (KXc_105 B)
theorem KXc_107 (B : Mem) : sc (KX107 B) = sc B := (sc_wr _ _ _ _).trans (KXc_106 B)
theorem KXc_108 (B : Mem) : sc (KX108 B) = sc B := (sc_wr _ _ _ _).trans (KXc_107 B)
theorem KXc_109 (B : Mem) : sc (KX109 B) = sc B := (sc_nwL _ _ _ _).trans (KXc_108 B)
theorem KXc_110 (B : Mem) : sc (KX110 B) = sc B := (sc_nwL _ _ _ _).trans (KXc_109 B)
theorem KXc_111 (B : Mem) : sc (KX111 B) = sc B := (sc_wr _ _ _ _).trans (KXc_110 B)
theorem KXc_112 (B : Mem) : sc (KX112 B) = sc B := (sc_wi _ _ _ _).trans (KXc_111 B)
theorem KXc_113 (B : Mem) : sc (KX113 B) = sc B := (sc_nwL _ _ _ _).trans (KXc_112 B)
theorem KXc_114 (B : Mem) : sc (KX114 B) = sc B := (sc_wr _ _ _ _).trans (KXc_113 B)
theorem KXc_115 (B : Mem) : sc (KX115 B) = sc B := (sc_wr _ _ _ _).trans (KXc_114 B)
theorem KXc_116 (B : Mem) : sc (KX116 B) = sc B := (sc_wr _ _ _ _).trans (KXc_115 B)
theorem KXc_117 (B : Mem) : sc (KX117 B) = sc B := (sc_wr _ _ _ _).trans (KXc_116 B)
theorem KXc_118 (B : Mem) : sc (KX118 B) = sc B := (sc_nwL _ _ _ _).trans (KXc_117 B)
theorem KXc_119 (B : Mem) : sc (KX119 B) = sc B := (sc_wr _ _ _ _).trans (KXc_118 B)
theorem KXc_120 (B : Mem) : sc (KX120 B) = sc B := (sc_nwL _ _ _ _).trans (KXc_119 B)
theorem KXc_121 (B : Mem) : sc (KX121 B) = sc B := (sc_nwL _ _ _ _).trans (KXc_120 B)
theorem KXc_122 (B : Mem) : sc (KX122 B) = sc B := (sc_wr _ _ _ _).trans (KXc_121 B)
theorem KXc_123 (B : Mem) : sc (KX123 B) = sc B := (sc_wi _ _ _ _).trans (KXc_122 B)
theorem KXc_124 (B : Mem) : sc (KX124 B) = sc B := (sc_wi _ _ _ _).trans (KXc_123 B)
theorem KXc_125 (B : Mem) : sc (KX125 B) = sc B := (sc_wr _ _ _ _).trans (KXc_124 B)
theorem KXc_126 (B : Mem) : sc (KX126 B) = sc B := (sc_nwL _ _ _ _).trans (KXc_125 B)
theorem KXc_127 (B : Mem) : sc (KX127 B) = sc B := (sc_nwL _ _ _ _).trans (KXc_126 B)
theorem KXc_128 (B : Mem) : sc (KX128 B) = sc B := (sc_wr _ _ _ _).trans (KXc_127 B)
theorem KXc_129 (B : Mem) : sc (KX129 B) = sc B := (sc_wi _ _ _ _).trans (KXc_128 B)
theorem KXc_130 (B : Mem) : sc (KX130 B) = sc B := (sc_wi _ _ _ _).trans (KXc_129 B)
theorem KXc_131 (B : Mem) : sc (KX131 B) = sc B := (sc_wr _ _ _ _).trans (KXc_130 B)
theorem KXc_132 (B : Mem) : sc (KX132 B) = sc B := (sc_nwL _ _ _ _).trans (KXc_131 B)
theorem KXc_133 (B : Mem) : sc (KX133 B) = sc B := (sc_nwL _ _ _ _).trans (KXc_132 B)
theorem KXc_134 (B : Mem) : sc (KX134 B) = sc B := (sc_wr _ _ _ _).trans (KXc_133 B)
theorem KXc_135 (B : Mem) : sc (KX135 B) = sc B := (sc_wi _ _ _ _).trans (KXc_134 B)
theorem KXc_136 (B : Mem) : sc (KX136 B) = sc B := (sc_wi _ _ _ _).trans (KXc_135 B)
theorem KXc_137 (B : Mem) : sc (KX137 B) = sc B := (sc_wr _ _ _ _).trans (KXc_136 B)
theorem KXc_138 (B : Mem) : sc (KX138 B) = sc B := (sc_nwL _ _ _ _).trans (KXc_137 B)
theorem KXc_139 (B : Mem) : sc (KX139 B) = sc B := (sc_nwL _ _ _ _).trans (KXc_138 B)
theorem KXc_140 (B : Mem) : sc (KX140 B) = sc B := (sc_wr _ _ _ _).trans (KXc_139 B)
theorem KXc_141 (B : Mem) : sc (KX141 B) = sc B := (sc_wi _ _ _ _).trans (KXc_140 B)
theorem KXc_142 (B : Mem) : sc (KX142 B) = sc B := (sc_wi _ _ _ _).trans (KXc_141 B)
theorem KXc_143 (B : Mem) : sc (KX143 B) = sc B := (sc_wr _ _ _ _).trans (KXc_142 B)
theorem KX_sc (B : Mem) : sc (KX143 B) = sc B := KXc_143 B
set_option maxRecDepth 100000 in
theorem law_ex {L : Nat} {xs : Nat → Int32} {Φ : Option Value → Mem → Prop} (hL : L ≤ 3072) (HΦ : ∀ M, Φ (some (.int 1)) M) : Ex 48 m_ML_law 1649 235556 0 [some (.ref 1048776), none, none, none] [] (mem0 L xs) Φ := by
  have h0 : (sh (mem0 L xs)).length = 0 := rfl
  refine ex_new (pc := 0) (by decide +kernel) (in_t1 (i := 21) rfl rfl) (in_t1 (i := 22) rfl rfl) (in_t1 (i := 1) rfl rfl) cf_MD udv_MD ⟨by decide, by decide⟩ (by rw [h0]; decide) ?_
  rw [nw_L h0]
  show Ex _ _ _ _ _ _ [Value.ref 0] (KX1 (mem0 L xs)) _
  refine ex_dup (pc := 3) (by decide +kernel) rfl ?_
  refine ex_callI (pc := 4) (d2 := 47) (mc := 77) (ms := 3451) (as := []) (rest := [.ref 0]) (by decide +kernel) F_MD_init (in_t1 (i := 23) rfl rfl) rfl rfl rfl (Nat.le_of_ble_eq_true rfl) (by decide) ⟨by decide, by decide⟩ (KC_V (MD_new (d := 0) h0 (KX_sc _) (fun M1 hx l1 c1 => ?_)))
  refine ex_astore_n (pc := 7) (k := 1) (lo2 := [some (.ref 1048776), some (.ref 0), none, none]) (by decide +kernel) (by decide) rfl ?_
  refine ex_new (pc := 8) (by decide +kernel) (in_t5 (i := 51) rfl rfl) (in_t5 (i := 52) rfl rfl) (in_t1 (i := 18) rfl rfl) cf_MM udv_MM ⟨by decide, by decide⟩ (by rw [l1]; decide) ?_
  rw [l1, nw_L l1]
  show Ex _ _ _ _ _ _ [Value.ref 78] (KM1 M1) _
  refine ex_dup (pc := 11) (by decide +kernel) rfl ?_
  refine ex_callI (pc := 12) (d2 := 47) (mc := 34) (ms := 63078) (as := []) (rest := [.ref 78]) (by decide +kernel) F_MM_init (in_t5 (i := 53) rfl rfl) rfl rfl rfl (Nat.le_of_ble_eq_true rfl) (by decide) ⟨by decide, by decide⟩ (KC_V (MM_new (d := 45) l1 hx (fun M2 hx2 hm2 l2 c2 => ?_)))
  refine ex_astore_n (pc := 15) (k := 2) (lo2 := [some (.ref 1048776), some (.ref 0), some (.ref 78), none]) (by decide +kernel) (by decide) rfl ?_
  refine ex_iconst (pc := 16) (k := 0) (v := nI 0) (by decide +kernel) (by decide) ?_
  refine ex_istore_n (pc := 17) (k := 3) (lo2 := lc4 0) (by decide +kernel) (by decide) rfl ?_
  have hs : SCR L xs M2 := by
    have e : sc M2 = (L, xs) := c2.trans c1
    exact ⟨by rw [e], fun j _ => by rw [e]⟩
  exact (law_loop hL HΦ (L / 6) 0 113 s0 M2 (by omega) (by omega) (by omega) ⟨wf_s0, hx2, hm2, ⟨by omega, by omega⟩, hs⟩).bud (by omega) (by omega)
