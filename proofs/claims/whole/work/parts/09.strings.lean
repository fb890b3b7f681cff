/-! String constants: length() and charAt(k) of the twelve literals -/
section EXS
variable {d : Nat} {y : Mth} {bc bs pc : Nat} {lo : List (Option Value)} {st : List Value} {M : Mem} {Φ : Option Value → Mem → Prop}
theorem ad_K {E : EV} {i : Nat} (h : i < 100) : ad E (1048576 + i) = eK E i := by rw [ad, if_neg (by omega), if_pos (by omega), Nat.add_sub_cancel_left]
theorem ad_V {E : EV} {i : Nat} (h : i < 100) : ad E (1048676 + i) = eV E i := by rw [ad, if_neg (by omega), if_neg (by omega), if_pos (by omega), Nat.add_sub_cancel_left]
theorem ad_F {E : EV} : ad E 1048777 = eF E := by rw [ad, if_neg (by omega), if_neg (by omega), if_neg (by omega), if_neg (by omega)]
theorem ex_strV {i : Nat} (hd : decode y.2.1 pc = .ok (.getfield 9, 3)) (ho : y.1.cls = "java/lang/String") (hi : i < 12) (kk : Ex d y bc bs (pc + 3) lo (.ref (1048676 + i) :: st) M Φ) : Ex d y bc bs pc lo (.ref (1048576 + i) :: st) M Φ := fun E p e R s m args below meth cc H locs cells slots ls ok hp hc hn hl => by
  have hts := ok.2.2.2.2.2.1
  have hE := ok.2.2.2.2.2.2.2.2.1
  obtain ⟨cf, k, fi, f, cell, h1, h2, h3, h4, h5, h6⟩ := (hE.2.2.2.2.1.1.1 i hi).2.2.1
  show W _ _ _ _ _ _ _ _ _ _ _ _ _ _ _ (F0 m pc ls (Value.ref (ad E (1048576 + i)) :: _))
  rw [ad_K (by omega)]
  refine W.getf (v := .ref (ad E (1048676 + i))) ok.1 ok.2.1 ok.2.2.2.2.1 (by rw [ho]; exact hts _ (in_t7 (i := 82) rfl rfl)) h1 h2 (by rw [hp.1.2.2.1 _ (Nat.not_le.mp h6)]; exact h3) h4 (by rw [ad_V (by omega)]; exact h5) rfl rfl hd ?_
  exact kk E p e R s m args below meth cc H locs cells slots ls ok hp hc hn hl
theorem ex_strC {i : Nat} (hd : decode y.2.1 pc = .ok (.getfield 15, 3)) (ho : y.1.cls = "java/lang/String") (hi : i < 12) (kk : Ex d y bc bs (pc + 3) lo (.int 0 :: st) M Φ) : Ex d y bc bs pc lo (.ref (1048576 + i) :: st) M Φ := fun E p e R s m args below meth cc H locs cells slots ls ok hp hc hn hl => by
  have hts := ok.2.2.2.2.2.1
  have hE := ok.2.2.2.2.2.2.2.2.1
  obtain ⟨cf, k, fi, f, cell, h1, h2, h3, h4, h5, h6⟩ := (hE.2.2.2.2.1.1.1 i hi).2.1
  show W _ _ _ _ _ _ _ _ _ _ _ _ _ _ _ (F0 m pc ls (Value.ref (ad E (1048576 + i)) :: _))
  rw [ad_K (by omega)]
  refine W.getf (v := .int 0) ok.1 ok.2.1 ok.2.2.2.2.1 (by rw [ho]; exact hts _ (in_t7 (i := 83) rfl rfl)) h1 h2 (by rw [hp.1.2.2.1 _ (Nat.not_le.mp h6)]; exact h3) h4 h5 rfl rfl hd ?_
  exact kk E p e R s m args below meth cc H locs cells slots ls ok hp hc hn hl
theorem ex_strL {i : Nat} (hd : decode y.2.1 pc = .ok (.arraylength, 1)) (hi : i < 12) (kk : Ex d y bc bs (pc + 1) lo (.int (nI (sLen.getD i 0)) :: st) M Φ) : Ex d y bc bs pc lo (.ref (1048676 + i) :: st) M Φ := fun E p e R s m args below meth cc H locs cells slots ls ok hp hc hn hl => by
  have hE := ok.2.2.2.2.2.2.2.2.1
  obtain ⟨cell, h1, h2, h3, h4, h5, h6, h7⟩ := (hE.2.2.2.2.1.1.1 i hi).2.2.2
  show W _ _ _ _ _ _ _ _ _ _ _ _ _ _ _ (F0 m pc ls (Value.ref (ad E (1048676 + i)) :: _))
  rw [ad_V (by omega)]
  refine W.alen (n := nI (sLen.getD i 0)) ok.1 ok.2.1 (by rw [hp.1.2.2.1 _ (Nat.not_le.mp h7)]; exact h1) h2 h5 rfl rfl hd ?_
  exact kk E p e R s m args below meth cc H locs cells slots ls ok hp hc hn hl
theorem ex_strB {i k : Nat} (hd : decode y.2.1 pc = .ok (.baload, 1)) (hi : i < 12) (hk : k < sLen.getD i 0) (hk2 : k < 1000) (kk : Ex d y bc bs (pc + 1) lo (.int ((sByt.getD i []).getD k 0) :: st) M Φ) : Ex d y bc bs pc lo (.int (nI k) :: .ref (1048676 + i) :: st) M Φ := fun E p e R s m args below meth cc H locs cells slots ls ok hp hc hn hl => by
  have hE := ok.2.2.2.2.2.2.2.2.1
  obtain ⟨cell, h1, h2, h3, h4, h5, h6, h7⟩ := (hE.2.2.2.2.1.1.1 i hi).2.2.2
  show W _ _ _ _ _ _ _ _ _ _ _ _ _ _ _ (F0 m pc ls (Value.int (nI k) :: Value.ref (ad E (1048676 + i)) :: _))
  rw [ad_V (by omega)]
  refine W.bald (v := .int ((sByt.getD i []).getD k 0)) ok.1 ok.2.1 (by rw [hp.1.2.2.1 _ (Nat.not_le.mp h7)]; exact h1) h2 h3 (by
    intro q
    rcases q with q | q
    · exact nI_pos (by omega) q
    · rw [nI_clamp (by omega)] at q; omega) (by rw [nI_clamp (by omega), h6 _ hk]) rfl rfl hd ?_
  exact kk E p e R s m args below meth cc H locs cells slots ls ok hp hc hn hl
theorem ex_strP (hd : decode y.2.1 pc = .ok (.getstatic 38, 3)) (ho : y.1.cls = "java/lang/String") (kk : Ex d y bc bs (pc + 3) lo (.int 1 :: st) M Φ) : Ex d y bc bs pc lo st M Φ := fun E p e R s m args below meth cc H locs cells slots ls ok hp hc hn hl => by
  have hts := ok.2.2.2.2.2.1
  have hE := ok.2.2.2.2.2.2.2.2.1
  obtain ⟨cf, kf, fi, f, a, cell, h1, h2, h3, h4, h5, h6, h7, h8⟩ := hE.2.2.2.2.2.1.1
  refine W.gets ok.1 ok.2.1 ok.2.2.2.2.1 (by rw [ho]; exact hts _ (in_t2 (i := 68) rfl rfl)) h1 h2 h3 h4 (by rw [hp.1.2.2.1 _ (Nat.not_le.mp h8)]; exact h5) (fun e => by rw [e] at h6; cases h6) h7 rfl hd ?_
  exact kk E p e R s m args below meth cc H locs cells slots ls ok hp hc hn hl
theorem ex_strF (hd : decode y.2.1 pc = .ok (.getstatic 1053, 3)) (ho : y.1.cls = "java/lang/String") (kk : ∀ v, v = .null ∨ v = .ref 1048777 → Ex d y bc bs (pc + 3) lo (v :: st) M Φ) : Ex d y bc bs pc lo st M Φ := fun E p e R s m args below meth cc H locs cells slots ls ok hp hc hn hl => by
  have hts := ok.2.2.2.2.2.1
  have hE := ok.2.2.2.2.2.2.2.2.1
  have key : ∀ v : Value, (v = .null ∨ v = .ref 1048777) → va_Z "jdk/internal/util/Preconditions" "SIOOBE_FORMATTER" "Ljava/util/function/BiFunction;" (cv E v) (fun q => eZ E ≤ q) s (eG E) → W p (eL E) e R s m args below meth cc H locs cells slots (MQ below (QF E Φ) args s R.cells R.slots (fun q => eZ E ≤ q)) (F0 m pc ls (st.map (cv E))) := by
    intro v hv hz
    obtain ⟨cf, kf, fi, f, a, cell, h1, h2, h3, h4, h5, h6, h7, h8⟩ := hz
    refine W.gets ok.1 ok.2.1 ok.2.2.2.2.1 (by rw [ho]; exact hts _ (in_t2 (i := 84) rfl rfl)) h1 h2 h3 h4 (by rw [hp.1.2.2.1 _ (Nat.not_le.mp h8)]; exact h5) (fun e => by rw [e] at h6; cases h6) h7 rfl hd ?_
    exact kk v hv E p e R s m args below meth cc H locs cells slots ls ok hp hc hn hl
  rcases hE.2.2.2.2.2.1.2 with h | h
  · exact key .null (Or.inl rfl) h
  · exact key (.ref 1048777) (Or.inr rfl) (by show va_Z _ _ _ (Value.ref (ad E 1048777)) _ _ _; rw [ad_F]; exact h)
theorem ex_i2c {x v : Int32} (hd : decode y.2.1 pc = .ok (.i2c, 1)) (hv : (x.toUInt32 % 65536).toInt32 = v) (kk : Ex d y bc bs (pc + 1) lo (.int v :: st) M Φ) : Ex d y bc bs pc lo (.int x :: st) M Φ := fun E p e R s m args below meth cc H locs cells slots ls ok hp hc hn hl => lv_i2c ok.1 ok.2.1 hd hv (kk E p e R s m args below meth cc H locs cells slots ls ok hp hc hn hl)
theorem ex_callT {d2 mc ms n index j : Nat} {y2 : Mth} {as rest st0 : List Value} (hd : decode y.2.1 pc = .ok (.invokevirtual index, 3)) (hF : MFv y2 n) (hk : Cond.methodLink y.1.cls index y2.1 ∈ gtbl) (hj : 1048576 ≤ j ∧ j < 1048588) (hC : y2.1.cls = "java/lang/String") (hn9 : as.length = n) (hst : as.reverse ++ .ref j :: rest = st0) (hw : (rest.map fun v => v.category).sum ≤ 8) (hd2 : d2 < d) (hm : mc ≤ bc ∧ ms ≤ bs)
    (h : Con d2 y2 mc ms (.ref j :: as) M (KC d y (bc - mc) (bs - ms) pc lo rest Φ)) : Ex d y bc bs pc lo st0 M Φ := fun E p e R s m args below meth cc H locs cells slots ls ok hp hc hn hl => by
  subst hst
  have hts := ok.2.2.2.2.2.1
  have hE := ok.2.2.2.2.2.2.2.2.1
  have hrm := rm_ok (mc := mc) (ms := ms) hF.1 hd2 ok.2.2.2.2.2.2.2.2.2.1 ok.2.2.2.2.2.2.2.2.2.2.1
  have cw : CallW R s args y.1.cls y2.1.cls index y2.1 y2.2.1 y2.2.2.1 y2.2.2.2 (wsY y2) (rmY d2 mc ms) mc ms n := ⟨callB_of n hts (good_ws hF.1) rfl rfl rfl (hts _ hF.1.2.1) (hts _ hk) ⟨hF.1.2.2.1.1, hF.1.2.2.1.2, hF.1.2.2.2.1⟩ hrm, hts _ hF.2.1, hts _ hF.2.2⟩
  have hrecv : ∃ cell : Cell, H[ad E j]? = some cell ∧ cell.vm.isStatics = false ∧ s.vm.findClass y2.1.cls = some cell.cls := by
    obtain ⟨i, hi, rfl⟩ : ∃ i, i < 12 ∧ j = 1048576 + i := ⟨j - 1048576, by omega, by omega⟩
    obtain ⟨cell, h1, h2, h3, h4⟩ := (hE.2.2.2.2.1.1.1 i hi).1
    rw [ad_K (by omega), hC]
    exact ⟨cell, by rw [hp.1.2.2.1 _ (Nat.not_le.mp h4)]; exact h1, h2, h3⟩
  exact ex_back (va_runV (As := as.map (cv E)) (b := ad E j) (rest := rest.map (cv E)) ⟨ok.1, ok.2.1, ok.2.2.2.1, ok.2.2.2.2.1, hts⟩ (h E) cw ⟨PF_blind E _ M, hrecv, fun U hU hW => ⟨rfl, EnvOK.warm hW hE, by rw [hU]; exact hp.1⟩⟩ rfl (by rw [List.length_map]; exact hn9) hl.1 (by rw [List.map_append, List.map_reverse]; rfl) (lv_room (by rw [cat_sum]; exact hw)) hd ⟨by omega, by omega⟩) hm ok hp hc hn hl
end EXS
theorem sp_coder {d i : Nat} {M : Mem} {K : Int32 → Mem → Prop} (hi : i < 12) (h : K 0 M) : Con (d + 1) m_String_coder 0 0 [.ref (1048576 + i)] M (PI K) := by
  refine Con.of (lo := [some (.ref (1048576 + i))]) F_String_coder.1 rfl (Nat.le_of_ble_eq_true rfl) ?_
  refine ex_strP (pc := 0) (by decide +kernel) rfl ?_
  refine ex_if_eq (pc := 3) (off := 10) (tgt := 13) (by decide +kernel) (by decide) (fun hc => absurd hc (by decide)) (fun hc => ?_)
  refine ex_aload_n (pc := 6) (k := 0) (by decide +kernel) rfl ?_
  refine ex_strC (pc := 7) (by decide +kernel) rfl hi ?_
  refine ex_goto (pc := 10) (off := 4) (tgt := 14) (by decide +kernel) (by decide) ?_
  exact ex_ireturn (by decide +kernel) rfl rfl ⟨0, rfl, h⟩
theorem sp_isLatin1 {d i : Nat} {M : Mem} {K : Bool → Mem → Prop} (hi : i < 12) (h : K true M) : Con (d + 1) m_String_isLatin1 0 0 [.ref (1048576 + i)] M (PB K) := by
  refine Con.of (lo := [some (.ref (1048576 + i))]) F_String_isLatin1.1 rfl (Nat.le_of_ble_eq_true rfl) ?_
  refine ex_strP (pc := 0) (by decide +kernel) rfl ?_
  refine ex_if_eq (pc := 3) (off := 14) (tgt := 17) (by decide +kernel) (by decide) (fun hc => absurd hc (by decide)) (fun hc => ?_)
  refine ex_aload_n (pc := 6) (k := 0) (by decide +kernel) rfl ?_
  refine ex_strC (pc := 7) (by decide +kernel) rfl hi ?_
  refine ex_if_ne (pc := 10) (off := 7) (tgt := 17) (by decide +kernel) (by decide) (fun hc => absurd rfl hc) (fun hc => ?_)
  refine ex_iconst (pc := 13) (k := 1) (v := 1) (by decide +kernel) (by decide) ?_
  refine ex_goto (pc := 14) (off := 4) (tgt := 18) (by decide +kernel) (by decide) ?_
  exact ex_ireturn (v := b2i true) (by decide +kernel) rfl rfl ⟨true, rfl, h⟩
theorem sp_length {d i : Nat} {M : Mem} {K : Int32 → Mem → Prop} (hi : i < 12) (h : K (nI (sLen.getD i 0)) M) : Con (d + 2) m_String_length 0 0 [.ref (1048576 + i)] M (PI K) := by
  refine Con.of (lo := [some (.ref (1048576 + i))]) F_String_length.1 rfl (Nat.le_of_ble_eq_true rfl) ?_
  refine ex_aload_n (pc := 0) (k := 0) (by decide +kernel) rfl ?_
  refine ex_strV (pc := 1) (by decide +kernel) rfl hi ?_
  refine ex_strL (pc := 4) (by decide +kernel) hi ?_
  refine ex_aload_n (pc := 5) (k := 0) (by decide +kernel) rfl ?_
  refine ex_callT (pc := 6) (as := []) (d2 := d + 1) (by decide +kernel) F_String_coder (in_t2 (i := 64) rfl rfl) ⟨by omega, by omega⟩ rfl rfl rfl (Nat.le_of_ble_eq_true rfl) (Nat.lt_succ_self _) ⟨Nat.zero_le _, Nat.zero_le _⟩ (KC_I (sp_coder hi ?_))
  refine ex_ishr (pc := 9) (by decide +kernel) ?_
  have h9 : ∀ i, i < 12 → sLen.getD i 0 < 1000 := by decide +kernel
  have h8 := h9 i hi
  exact ex_ireturn (by decide +kernel) rfl rfl ⟨_, rfl, by rw [sc_shr0 (by omega)]; exact h⟩
theorem sp_preIdx {d : Nat} {a n : Nat} {v : Value} {M : Mem} {K : Int32 → Mem → Prop} (hv : v = .null ∨ v = .ref 1048777) (ha : a < n) (hn : n < 2 ^ 31) (h : K (nI a) M) : Con (d + 1) m_Preconditions_checkIndex 0 0 [.int (nI a), .int (nI n), v] M (PI K) := by
  have e : en0 [.int (nI a), .int (nI n), v] = [some (.int (nI a)), some (.int (nI n)), some v] := by
    rcases hv with rfl | rfl <;> rfl
  refine Con.of (lo := [some (.int (nI a)), some (.int (nI n)), some v]) F_Preconditions_checkIndex.1 e (Nat.le_of_ble_eq_true rfl) ?_
  refine ex_iload_n (pc := 0) (k := 0) (by decide +kernel) rfl ?_
  refine ex_if_lt (pc := 1) (off := 8) (tgt := 9) (by decide +kernel) (by decide) (fun hc => absurd hc (nI_pos (by omega))) (fun hc => ?_)
  refine ex_iload_n (pc := 4) (k := 0) (by decide +kernel) rfl ?_
  refine ex_iload_n (pc := 5) (k := 1) (by decide +kernel) rfl ?_
  refine ex_icmp_lt (pc := 6) (off := 10) (tgt := 16) (by decide +kernel) (by decide) (fun hc => ?_) (fun hc => absurd (nI_lt ha hn) hc)
  refine ex_iload_n (pc := 16) (k := 0) (by decide +kernel) rfl ?_
  exact ex_ireturn (by decide +kernel) rfl rfl ⟨_, rfl, h⟩
theorem sp_chkIdx {d : Nat} {a n : Nat} {M : Mem} {K : Mem → Prop} (ha : a < n) (hn : n < 2 ^ 31) (h : K M) : Con (d + 2) m_String_checkIndex 0 0 [.int (nI a), .int (nI n)] M (PV K) := by
  refine Con.of (lo := [some (.int (nI a)), some (.int (nI n))]) F_String_checkIndex.1 rfl (Nat.le_of_ble_eq_true rfl) ?_
  refine ex_iload_n (pc := 0) (k := 0) (by decide +kernel) rfl ?_
  refine ex_iload_n (pc := 1) (k := 1) (by decide +kernel) rfl ?_
  refine ex_strF (pc := 2) (by decide +kernel) rfl (fun v hv => ?_)
  refine ex_callS (pc := 5) (as := [.int (nI a), .int (nI n), v]) (rest := []) (d2 := d + 1) (by decide +kernel) F_Preconditions_checkIndex (in_t2 (i := 86) rfl rfl) rfl rfl (Nat.le_of_ble_eq_true rfl) (Nat.lt_succ_self _) ⟨Nat.zero_le _, Nat.zero_le _⟩ (KC_I (sp_preIdx hv ha hn ?_))
  refine ex_pop (pc := 8) (by decide +kernel) rfl ?_
  exact ex_return (by decide +kernel) rfl ⟨rfl, h⟩
def sCh (i k : Nat) : Int32 := (((sByt.getD i []).getD k 0 &&& 255).toUInt32 % 65536).toInt32
theorem sp_lCharAt {d i k : Nat} {M : Mem} {K : Int32 → Mem → Prop} (hi : i < 12) (hk : k < sLen.getD i 0) (hk2 : sLen.getD i 0 < 1000) (h : K (sCh i k) M) : Con (d + 3) m_StringLatin1_charAt 0 0 [.ref (1048676 + i), .int (nI k)] M (PI K) := by
  refine Con.of (lo := [some (.ref (1048676 + i)), some (.int (nI k))]) F_StringLatin1_charAt.1 rfl (Nat.le_of_ble_eq_true rfl) ?_
  refine ex_iload_n (pc := 0) (k := 1) (by decide +kernel) rfl ?_
  refine ex_aload_n (pc := 1) (k := 0) (by decide +kernel) rfl ?_
  refine ex_strL (pc := 2) (by decide +kernel) hi ?_
  refine ex_callS (pc := 3) (as := [.int (nI k), .int (nI (sLen.getD i 0))]) (rest := []) (d2 := d + 2) (by decide +kernel) F_String_checkIndex (in_t2 (i := 81) rfl rfl) rfl rfl (Nat.le_of_ble_eq_true rfl) (Nat.lt_succ_self _) ⟨Nat.zero_le _, Nat.zero_le _⟩ (KC_V (sp_chkIdx hk (by omega) ?_))
  refine ex_aload_n (pc := 6) (k := 0) (by decide +kernel) rfl ?_
  refine ex_iload_n (pc := 7) (k := 1) (by decide +kernel) rfl ?_
  refine ex_strB (pc := 8) (by decide +kernel) hi hk (by omega) ?_
  refine ex_sipush (pc := 9) (k := 255) (v := 255) (by decide +kernel) (by decide) ?_
  refine ex_iand (pc := 12) (by decide +kernel) ?_
  refine ex_i2c (pc := 13) (v := sCh i k) (by decide +kernel) rfl ?_
  exact ex_ireturn (by decide +kernel) rfl (pk_nc _) ⟨_, rfl, h⟩
theorem sp_charAt {d i k : Nat} {M : Mem} {K : Int32 → Mem → Prop} (hi : i < 12) (hk : k < sLen.getD i 0) (h : K (sCh i k) M) : Con (d + 4) m_String_charAt 0 0 [.ref (1048576 + i), .int (nI k)] M (PI K) := by
  have hk2 : sLen.getD i 0 < 1000 := by
    have : ∀ i, i < 12 → sLen.getD i 0 < 1000 := by decide +kernel
    exact this i hi
  refine Con.of (lo := [some (.ref (1048576 + i)), some (.int (nI k))]) F_String_charAt.1 rfl (Nat.le_of_ble_eq_true rfl) ?_
  refine ex_aload_n (pc := 0) (k := 0) (by decide +kernel) rfl ?_
  refine ex_callT (pc := 1) (as := []) (d2 := d + 3) (by decide +kernel) F_String_isLatin1 (in_t2 (i := 74) rfl rfl) ⟨by omega, by omega⟩ rfl rfl rfl (Nat.le_of_ble_eq_true rfl) (Nat.lt_succ_self _) ⟨Nat.zero_le _, Nat.zero_le _⟩ (KC_B (sp_isLatin1 hi ?_))
  refine ey_ifeqB (pc := 4) (off := 12) (tgt := 16) (by decide +kernel) (by decide) (fun hc => by cases hc) (fun hc => ?_)
  refine ex_aload_n (pc := 7) (k := 0) (by decide +kernel) rfl ?_
  refine ex_strV (pc := 8) (by decide +kernel) rfl hi ?_
  refine ex_iload_n (pc := 11) (k := 1) (by decide +kernel) rfl ?_
  refine ex_callS (pc := 12) (as := [.ref (1048676 + i), .int (nI k)]) (rest := []) (d2 := d + 3) (by decide +kernel) F_StringLatin1_charAt (in_t2 (i := 78) rfl rfl) rfl rfl (Nat.le_of_ble_eq_true rfl) (Nat.lt_succ_self _) ⟨Nat.zero_le _, Nat.zero_le _⟩ (KC_I (sp_lCharAt hi hk hk2 ?_))
  exact ex_ireturn (by decide +kernel) rfl (pk_nc _) ⟨_, rfl, h⟩
/-- the script -/
theorem ex_sld {d : Nat} {y : Mth} {bc bs pc : Nat} {lo : List (Option Value)} {st : List Value} {M : Mem} {Φ : Option Value → Mem → Prop} {i : Int32} {k : Nat} (hd : decode y.2.1 pc = .ok (.iaload, 1)) (hi : vp_in i (sc M).1) (hk : i.toNatClampNeg = k) (kk : Ex d y bc bs (pc + 1) lo (.int ((sc M).2 k) :: st) M Φ) : Ex d y bc bs pc lo (.int i :: .ref 1048776 :: st) M Φ := fun E p e R s m args below meth cc H locs cells slots ls ok hp hc hn hl => by
  have hE := ok.2.2.2.2.2.2.2.2.1
  have hlt : i.toNatClampNeg < (sc M).1 := Nat.not_le.mp fun q => hi (Or.inr q)
  obtain ⟨scr, h1, h2, h3⟩ := hE.2.2.2.2.2.2.2
  obtain ⟨scr2, h4, h5, h6⟩ := hp.1.2.2.2.2
  cases h1.symm.trans h4
  have hlt2 : eB E < eZ E := by rw [← hE.2.2.2.2.2.2.1]; exact (Array.getElem?_eq_some_iff.mp h1).1
  have ea : ad E 1048776 = eB E := by rw [ad, if_neg (by omega), if_neg (by omega), if_neg (by omega), if_pos rfl]
  show W _ _ _ _ _ _ _ _ _ _ _ _ _ _ _ (F0 m pc ls (Value.int i :: Value.ref (ad E 1048776) :: _))
  rw [ea]
  subst hk
  refine W.iald (v := .int ((sc M).2 i.toNatClampNeg)) ok.1 ok.2.1 (by rw [hp.1.2.2.1 _ hlt2]; exact h1) h2 h3 (by rw [h5]; exact hi) (h6 _ hlt) rfl rfl hd ?_
  exact kk E p e R s m args below meth cc H locs cells slots ls ok hp hc hn hl
theorem ex_slen {d : Nat} {y : Mth} {bc bs pc : Nat} {lo : List (Option Value)} {st : List Value} {M : Mem} {Φ : Option Value → Mem → Prop} (hd : decode y.2.1 pc = .ok (.arraylength, 1)) (kk : Ex d y bc bs (pc + 1) lo (.int (nI (sc M).1) :: st) M Φ) : Ex d y bc bs pc lo (.ref 1048776 :: st) M Φ := fun E p e R s m args below meth cc H locs cells slots ls ok hp hc hn hl => by
  have hE := ok.2.2.2.2.2.2.2.2.1
  obtain ⟨scr, h1, h2, h3⟩ := hE.2.2.2.2.2.2.2
  obtain ⟨scr2, h4, h5, h6⟩ := hp.1.2.2.2.2
  cases h1.symm.trans h4
  have hlt2 : eB E < eZ E := by rw [← hE.2.2.2.2.2.2.1]; exact (Array.getElem?_eq_some_iff.mp h1).1
  have ea : ad E 1048776 = eB E := by rw [ad, if_neg (by omega), if_neg (by omega), if_neg (by omega), if_pos rfl]
  show W _ _ _ _ _ _ _ _ _ _ _ _ _ _ _ (F0 m pc ls (Value.ref (ad E 1048776) :: _))
  rw [ea]
  refine W.alen (n := nI (sc M).1) ok.1 ok.2.1 (by rw [hp.1.2.2.1 _ hlt2]; exact h1) h2 (by rw [h5]; rfl) rfl rfl hd ?_
  exact kk E p e R s m args below meth cc H locs cells slots ls ok hp hc hn hl
