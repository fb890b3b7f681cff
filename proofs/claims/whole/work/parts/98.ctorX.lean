/-! the constructors of x, traced -/
/-- cells made at a place that is known -/
def nwL (M : Mem) (q kd N : Nat) : Mem := (sh M ++ [(kd, N)], ro (mi M) q (fun _ => 0), ro (ml M) q (fun _ => 0), ro (mr M) q (fun _ => none), sc M)
theorem nw_L {M : Mem} {q kd N : Nat} (h : (sh M).length = q) : nw M kd N = nwL M q kd N := by subst h; rfl
def nwML (M : Mem) (q : Nat) : Mem := (sh M ++ [(103, 6), (100, 6), (100, 6), (100, 6), (100, 6), (100, 6), (100, 6)], (fun a => if a < q then mi M a else fun _ => 0), (fun a => if a < q then ml M a else fun _ => 0), (fun a => if a < q then mr M a else if a = q then fun k => if k < 6 then some (q + 1 + k) else none else fun _ => none), sc M)
theorem nwM_L {M : Mem} {q : Nat} (h : (sh M).length = q) : nwM M = nwML M q := by subst h; rfl
theorem sh_st {B M : Mem} {b n q kd N : Nat} (e : sh M = sh B ++ (shT.drop b).take n) (h : (shT.drop b)[n]? = some (kd, N)) : sh (nwL M q kd N) = sh B ++ (shT.drop b).take (n + 1) := by
  show sh M ++ [(kd, N)] = _
  rw [e, List.append_assoc, List.take_succ, h]; rfl
theorem sh_st7 {B M : Mem} {b n q : Nat} (e : sh M = sh B ++ (shT.drop b).take n) (h : (shT.drop b).take (n + 7) = (shT.drop b).take n ++ [(103, 6), (100, 6), (100, 6), (100, 6), (100, 6), (100, 6), (100, 6)]) : sh (nwML M q) = sh B ++ (shT.drop b).take (n + 7) := by
  show sh M ++ [(103, 6), (100, 6), (100, 6), (100, 6), (100, 6), (100, 6), (100, 6)] = _
  rw [e, List.append_assoc, h]
theorem sh_wi (M : Mem) (j k : Nat) (v : Int32) : sh (wi M j k v) = sh M := rfl
theorem sh_wr (M : Mem) (j k : Nat) (v : Option Nat) : sh (wr M j k v) = sh M := rfl
theorem sh_wl (M : Mem) (j k : Nat) (v : Int64) : sh (wl M j k v) = sh M := rfl
theorem sh_L {B M : Mem} {b n i : Nat} {kn : Nat × Nat} (hB : (sh B).length = b) (e : sh M = sh B ++ (shT.drop b).take n) (h : ((shT.drop b).take n)[i]? = some kn) {j : Nat} (hj : b + i = j := by decide) : (sh M)[j]? = some kn := by
  rw [e, List.getElem?_append_right (by omega), hB, ← hj, Nat.add_sub_cancel_left]; exact h
theorem sh_N {B M : Mem} {b n q : Nat} (hB : (sh B).length = b) (e : sh M = sh B ++ (shT.drop b).take n) (h : b + ((shT.drop b).take n).length = q) : (sh M).length = q := by
  rw [e, List.length_append, hB]; exact h
def KX0 (B : Mem) : Mem := B
theorem KXs_0 (B : Mem) : sh (KX0 B) = sh B ++ (shT.drop 0).take 0 := (List.append_nil _).symm
def KX1 (B : Mem) : Mem := nwL (KX0 B) 0 0 11
theorem KXs_1 (B : Mem) : sh (KX1 B) = sh B ++ (shT.drop 0).take 1 := sh_st (KXs_0 B) (by decide +kernel)
def KX2 (B : Mem) : Mem := nwL (KX1 B) 1 4 12
theorem KXs_2 (B : Mem) : sh (KX2 B) = sh B ++ (shT.drop 0).take 2 := sh_st (KXs_1 B) (by decide +kernel)
def KX3 (B : Mem) : Mem := nwL (KX2 B) 2 100 6
theorem KXs_3 (B : Mem) : sh (KX3 B) = sh B ++ (shT.drop 0).take 3 := sh_st (KXs_2 B) (by decide +kernel)
def KX4 (B : Mem) : Mem := wr (KX3 B) 1 0 (some 2)
theorem KXs_4 (B : Mem) : sh (KX4 B) = sh B ++ (shT.drop 0).take 3 := (sh_wr _ _ _ _).trans (KXs_3 B)
def KX5 (B : Mem) : Mem := nwL (KX4 B) 3 100 6
theorem KXs_5 (B : Mem) : sh (KX5 B) = sh B ++ (shT.drop 0).take 4 := sh_st (KXs_4 B) (by decide +kernel)
def KX6 (B : Mem) : Mem := wr (KX5 B) 1 1 (some 3)
theorem KXs_6 (B : Mem) : sh (KX6 B) = sh B ++ (shT.drop 0).take 4 := (sh_wr _ _ _ _).trans (KXs_5 B)
def KX7 (B : Mem) : Mem := nwL (KX6 B) 4 100 6
theorem KXs_7 (B : Mem) : sh (KX7 B) = sh B ++ (shT.drop 0).take 5 := sh_st (KXs_6 B) (by decide +kernel)
def KX8 (B : Mem) : Mem := wr (KX7 B) 1 2 (some 4)
theorem KXs_8 (B : Mem) : sh (KX8 B) = sh B ++ (shT.drop 0).take 5 := (sh_wr _ _ _ _).trans (KXs_7 B)
def KX9 (B : Mem) : Mem := nwL (KX8 B) 5 100 6
theorem KXs_9 (B : Mem) : sh (KX9 B) = sh B ++ (shT.drop 0).take 6 := sh_st (KXs_8 B) (by decide +kernel)
def KX10 (B : Mem) : Mem := wr (KX9 B) 1 3 (some 5)
theorem KXs_10 (B : Mem) : sh (KX10 B) = sh B ++ (shT.drop 0).take 6 := (sh_wr _ _ _ _).trans (KXs_9 B)
def KX11 (B : Mem) : Mem := nwML (KX10 B) 6
theorem KXs_11 (B : Mem) : sh (KX11 B) = sh B ++ (shT.drop 0).take 13 := sh_st7 (KXs_10 B) (by decide +kernel)
def KX12 (B : Mem) : Mem := wr (KX11 B) 1 4 (some 6)
theorem KXs_12 (B : Mem) : sh (KX12 B) = sh B ++ (shT.drop 0).take 13 := (sh_wr _ _ _ _).trans (KXs_11 B)
def KX13 (B : Mem) : Mem := nwML (KX12 B) 13
theorem KXs_13 (B : Mem) : sh (KX13 B) = sh B ++ (shT.drop 0).take 20 := sh_st7 (KXs_12 B) (by decide +kernel)
def KX14 (B : Mem) : Mem := wr (KX13 B) 1 5 (some 13)
theorem KXs_14 (B : Mem) : sh (KX14 B) = sh B ++ (shT.drop 0).take 20 := (sh_wr _ _ _ _).trans (KXs_13 B)
def KX15 (B : Mem) : Mem := nwL (KX14 B) 20 100 10
theorem KXs_15 (B : Mem) : sh (KX15 B) = sh B ++ (shT.drop 0).take 21 := sh_st (KXs_14 B) (by decide +kernel)
def KX16 (B : Mem) : Mem := wr (KX15 B) 1 6 (some 20)
theorem KXs_16 (B : Mem) : sh (KX16 B) = sh B ++ (shT.drop 0).take 21 := (sh_wr _ _ _ _).trans (KXs_15 B)
def KX17 (B : Mem) : Mem := nwL (KX16 B) 21 100 10
theorem KXs_17 (B : Mem) : sh (KX17 B) = sh B ++ (shT.drop 0).take 22 := sh_st (KXs_16 B) (by decide +kernel)
def KX18 (B : Mem) : Mem := wr (KX17 B) 1 7 (some 21)
theorem KXs_18 (B : Mem) : sh (KX18 B) = sh B ++ (shT.drop 0).take 22 := (sh_wr _ _ _ _).trans (KXs_17 B)
def KX19 (B : Mem) : Mem := wi (KX18 B) 1 8 (nI 0)
theorem KXs_19 (B : Mem) : sh (KX19 B) = sh B ++ (shT.drop 0).take 22 := (sh_wi _ _ _ _).trans (KXs_18 B)
def KX20 (B : Mem) : Mem := wi (KX19 B) 1 9 (nI 6)
theorem KXs_20 (B : Mem) : sh (KX20 B) = sh B ++ (shT.drop 0).take 22 := (sh_wi _ _ _ _).trans (KXs_19 B)
def KX21 (B : Mem) : Mem := wi (KX20 B) 1 10 (nI 0)
theorem KXs_21 (B : Mem) : sh (KX21 B) = sh B ++ (shT.drop 0).take 22 := (sh_wi _ _ _ _).trans (KXs_20 B)
def KX22 (B : Mem) : Mem := wi (KX21 B) 1 11 (nI 0)
theorem KXs_22 (B : Mem) : sh (KX22 B) = sh B ++ (shT.drop 0).take 22 := (sh_wi _ _ _ _).trans (KXs_21 B)
theorem KX_c1 {d : Nat} {B : Mem} {K : Mem → Prop} (hB : (sh B).length = 0) (h : K (KX22 B)) : Con (d + 1) m_Land_init 20 128 [.ref 1] (KX2 B) (PV K) := by
  refine Con.of (lo := [some (.ref 1)]) F_Land_init.1 rfl (Nat.le_of_ble_eq_true rfl) ?_
  refine ex_aload_n (pc := 0) (k := 0) (by decide +kernel) rfl ?_
  refine ex_objInit (pc := 1) (by decide +kernel) (in_t1 (i := 34) rfl rfl) (Nat.le_of_ble_eq_true rfl) (Nat.succ_le_succ (Nat.zero_le _)) ?_
  refine ex_aload_n (pc := 4) (k := 0) (by decide +kernel) rfl ?_
  refine ex_bipush (pc := 5) (k := 6) (v := nI 6) (by decide +kernel) (by decide) ?_
  refine ex_newa_int (pc := 7) (N := 6) (by decide +kernel) (in_t1 (i := 99) rfl rfl) (by decide) (by decide) (by decide) ⟨by decide, by decide⟩ (Nat.lt_of_le_of_lt (Nat.le_of_eq (sh_N (b := 0) (n := 2) (q := 2) hB (KXs_2 B) rfl)) (by decide)) ?_
  rw [nw_L (sh_N (b := 0) (n := 2) (q := 2) hB (KXs_2 B) rfl), (sh_N (b := 0) (n := 2) (q := 2) hB (KXs_2 B) rfl)]
  show Ex _ _ 19 122 _ _ _ (KX3 B) _
  refine ex_putR (pc := 9) (index := 9) (ci := 4) (k := 0) (fin := true) (v := some 2) (by decide +kernel) ⟨_, _, _, _, cf_Land, by decide, in_t1 (i := 37) rfl rfl, rfl, (fun _ => rfl), rfl, rfl⟩ rfl (fun _ => rfl) (sh_L (b := 0) (n := 3) (i := 1) (j := 1) hB (KXs_3 B) rfl) ?_
  show Ex _ _ 19 122 _ _ _ (KX4 B) _
  refine ex_aload_n (pc := 12) (k := 0) (by decide +kernel) rfl ?_
  refine ex_bipush (pc := 13) (k := 6) (v := nI 6) (by decide +kernel) (by decide) ?_
  refine ex_newa_int (pc := 15) (N := 6) (by decide +kernel) (in_t1 (i := 99) rfl rfl) (by decide) (by decide) (by decide) ⟨by decide, by decide⟩ (Nat.lt_of_le_of_lt (Nat.le_of_eq (sh_N (b := 0) (n := 3) (q := 3) hB (KXs_4 B) rfl)) (by decide)) ?_
  rw [nw_L (sh_N (b := 0) (n := 3) (q := 3) hB (KXs_4 B) rfl), (sh_N (b := 0) (n := 3) (q := 3) hB (KXs_4 B) rfl)]
  show Ex _ _ 18 116 _ _ _ (KX5 B) _
  refine ex_putR (pc := 17) (index := 15) (ci := 4) (k := 1) (fin := true) (v := some 3) (by decide +kernel) ⟨_, _, _, _, cf_Land, by decide, in_t1 (i := 41) rfl rfl, rfl, (fun _ => rfl), rfl, rfl⟩ rfl (fun _ => rfl) (sh_L (b := 0) (n := 4) (i := 1) (j := 1) hB (KXs_5 B) rfl) ?_
  show Ex _ _ 18 116 _ _ _ (KX6 B) _
  refine ex_aload_n (pc := 20) (k := 0) (by decide +kernel) rfl ?_
  refine ex_bipush (pc := 21) (k := 6) (v := nI 6) (by decide +kernel) (by decide) ?_
  refine ex_newa_int (pc := 23) (N := 6) (by decide +kernel) (in_t1 (i := 99) rfl rfl) (by decide) (by decide) (by decide) ⟨by decide, by decide⟩ (Nat.lt_of_le_of_lt (Nat.le_of_eq (sh_N (b := 0) (n := 4) (q := 4) hB (KXs_6 B) rfl)) (by decide)) ?_
  rw [nw_L (sh_N (b := 0) (n := 4) (q := 4) hB (KXs_6 B) rfl), (sh_N (b := 0) (n := 4) (q := 4) hB (KXs_6 B) rfl)]
  show Ex _ _ 17 110 _ _ _ (KX7 B) _
  refine ex_putR (pc := 25) (index := 18) (ci := 4) (k := 2) (fin := true) (v := some 4) (by decide +kernel) ⟨_, _, _, _, cf_Land, by decide, in_t1 (i := 45) rfl rfl, rfl, (fun _ => rfl), rfl, rfl⟩ rfl (fun _ => rfl) (sh_L (b := 0) (n := 5) (i := 1) (j := 1) hB (KXs_7 B) rfl) ?_
  show Ex _ _ 17 110 _ _ _ (KX8 B) _
  refine ex_aload_n (pc := 28) (k := 0) (by decide +kernel) rfl ?_
  refine ex_bipush (pc := 29) (k := 6) (v := nI 6) (by decide +kernel) (by decide) ?_
  refine ex_newa_int (pc := 31) (N := 6) (by decide +kernel) (in_t1 (i := 99) rfl rfl) (by decide) (by decide) (by decide) ⟨by decide, by decide⟩ (Nat.lt_of_le_of_lt (Nat.le_of_eq (sh_N (b := 0) (n := 5) (q := 5) hB (KXs_8 B) rfl)) (by decide)) ?_
  rw [nw_L (sh_N (b := 0) (n := 5) (q := 5) hB (KXs_8 B) rfl), (sh_N (b := 0) (n := 5) (q := 5) hB (KXs_8 B) rfl)]
  show Ex _ _ 16 104 _ _ _ (KX9 B) _
  refine ex_putR (pc := 33) (index := 21) (ci := 4) (k := 3) (fin := true) (v := some 5) (by decide +kernel) ⟨_, _, _, _, cf_Land, by decide, in_t1 (i := 48) rfl rfl, rfl, (fun _ => rfl), rfl, rfl⟩ rfl (fun _ => rfl) (sh_L (b := 0) (n := 6) (i := 1) (j := 1) hB (KXs_9 B) rfl) ?_
  show Ex _ _ 16 104 _ _ _ (KX10 B) _
  refine ex_aload_n (pc := 36) (k := 0) (by decide +kernel) rfl ?_
  refine ex_bipush (pc := 37) (k := 6) (v := nI 6) (by decide +kernel) (by decide) ?_
  refine ex_bipush (pc := 39) (k := 6) (v := nI 6) (by decide +kernel) (by decide) ?_
  show Ex _ _ _ _ _ _ (.int 6 :: .int 6 :: _) _ _
  refine ex_multi (pc := 41) (by decide +kernel) (in_t1 (i := 35) rfl rfl) ⟨by decide, by decide⟩ (Nat.le_trans (Nat.add_le_add_right (Nat.le_of_eq (sh_N (b := 0) (n := 6) (q := 6) hB (KXs_10 B) rfl)) 7) (by decide)) ?_
  rw [nwM_L (sh_N (b := 0) (n := 6) (q := 6) hB (KXs_10 B) rfl), (sh_N (b := 0) (n := 6) (q := 6) hB (KXs_10 B) rfl)]
  show Ex _ _ 9 62 _ _ _ (KX11 B) _
  refine ex_putR (pc := 45) (index := 26) (ci := 4) (k := 4) (fin := true) (v := some 6) (by decide +kernel) ⟨_, _, _, _, cf_Land, by decide, in_t1 (i := 52) rfl rfl, rfl, (fun _ => rfl), rfl, rfl⟩ rfl (fun _ => rfl) (sh_L (b := 0) (n := 13) (i := 1) (j := 1) hB (KXs_11 B) rfl) ?_
  show Ex _ _ 9 62 _ _ _ (KX12 B) _
  refine ex_aload_n (pc := 48) (k := 0) (by decide +kernel) rfl ?_
  refine ex_bipush (pc := 49) (k := 6) (v := nI 6) (by decide +kernel) (by decide) ?_
  refine ex_bipush (pc := 51) (k := 6) (v := nI 6) (by decide +kernel) (by decide) ?_
  show Ex _ _ _ _ _ _ (.int 6 :: .int 6 :: _) _ _
  refine ex_multi (pc := 53) (by decide +kernel) (in_t1 (i := 35) rfl rfl) ⟨by decide, by decide⟩ (Nat.le_trans (Nat.add_le_add_right (Nat.le_of_eq (sh_N (b := 0) (n := 13) (q := 13) hB (KXs_12 B) rfl)) 7) (by decide)) ?_
  rw [nwM_L (sh_N (b := 0) (n := 13) (q := 13) hB (KXs_12 B) rfl), (sh_N (b := 0) (n := 13) (q := 13) hB (KXs_12 B) rfl)]
  show Ex _ _ 2 20 _ _ _ (KX13 B) _
  refine ex_putR (pc := 57) (index := 29) (ci := 4) (k := 5) (fin := true) (v := some 13) (by decide +kernel) ⟨_, _, _, _, cf_Land, by decide, in_t1 (i := 53) rfl rfl, rfl, (fun _ => rfl), rfl, rfl⟩ rfl (fun _ => rfl) (sh_L (b := 0) (n := 20) (i := 1) (j := 1) hB (KXs_13 B) rfl) ?_
  show Ex _ _ 2 20 _ _ _ (KX14 B) _
  refine ex_aload_n (pc := 60) (k := 0) (by decide +kernel) rfl ?_
  refine ex_bipush (pc := 61) (k := 10) (v := nI 10) (by decide +kernel) (by decide) ?_
  refine ex_newa_int (pc := 63) (N := 10) (by decide +kernel) (in_t1 (i := 99) rfl rfl) (by decide) (by decide) (by decide) ⟨by decide, by decide⟩ (Nat.lt_of_le_of_lt (Nat.le_of_eq (sh_N (b := 0) (n := 20) (q := 20) hB (KXs_14 B) rfl)) (by decide)) ?_
  rw [nw_L (sh_N (b := 0) (n := 20) (q := 20) hB (KXs_14 B) rfl), (sh_N (b := 0) (n := 20) (q := 20) hB (KXs_14 B) rfl)]
  show Ex _ _ 1 10 _ _ _ (KX15 B) _
  refine ex_putR (pc := 65) (index := 32) (ci := 4) (k := 6) (fin := true) (v := some 20) (by decide +kernel) ⟨_, _, _, _, cf_Land, by decide, in_t1 (i := 54) rfl rfl, rfl, (fun _ => rfl), rfl, rfl⟩ rfl (fun _ => rfl) (sh_L (b := 0) (n := 21) (i := 1) (j := 1) hB (KXs_15 B) rfl) ?_
  show Ex _ _ 1 10 _ _ _ (KX16 B) _
  refine ex_aload_n (pc := 68) (k := 0) (by decide +kernel) rfl ?_
  refine ex_bipush (pc := 69) (k := 10) (v := nI 10) (by decide +kernel) (by decide) ?_
  refine ex_newa_int (pc := 71) (N := 10) (by decide +kernel) (in_t1 (i := 99) rfl rfl) (by decide) (by decide) (by decide) ⟨by decide, by decide⟩ (Nat.lt_of_le_of_lt (Nat.le_of_eq (sh_N (b := 0) (n := 21) (q := 21) hB (KXs_16 B) rfl)) (by decide)) ?_
  rw [nw_L (sh_N (b := 0) (n := 21) (q := 21) hB (KXs_16 B) rfl), (sh_N (b := 0) (n := 21) (q := 21) hB (KXs_16 B) rfl)]
  show Ex _ _ 0 0 _ _ _ (KX17 B) _
  refine ex_putR (pc := 73) (index := 35) (ci := 4) (k := 7) (fin := true) (v := some 21) (by decide +kernel) ⟨_, _, _, _, cf_Land, by decide, in_t1 (i := 55) rfl rfl, rfl, (fun _ => rfl), rfl, rfl⟩ rfl (fun _ => rfl) (sh_L (b := 0) (n := 22) (i := 1) (j := 1) hB (KXs_17 B) rfl) ?_
  show Ex _ _ 0 0 _ _ _ (KX18 B) _
  refine ex_aload_n (pc := 76) (k := 0) (by decide +kernel) rfl ?_
  refine ex_iconst (pc := 77) (k := 0) (v := nI 0) (by decide +kernel) (by decide) ?_
  refine ex_putI (pc := 78) (index := 38) (ci := 4) (k := 8) (fin := false) (v := nI 0) (by decide +kernel) ⟨_, _, _, _, cf_Land, by decide, in_t1 (i := 56) rfl rfl, rfl, (fun h => by cases h), rfl, rfl⟩ rfl (fun h => by cases h) (sh_L (b := 0) (n := 22) (i := 1) (j := 1) hB (KXs_18 B) rfl) ?_
  show Ex _ _ 0 0 _ _ _ (KX19 B) _
  refine ex_aload_n (pc := 81) (k := 0) (by decide +kernel) rfl ?_
  refine ex_bipush (pc := 82) (k := 6) (v := nI 6) (by decide +kernel) (by decide) ?_
  refine ex_putI (pc := 84) (index := 42) (ci := 4) (k := 9) (fin := false) (v := nI 6) (by decide +kernel) ⟨_, _, _, _, cf_Land, by decide, in_t1 (i := 62) rfl rfl, rfl, (fun h => by cases h), rfl, rfl⟩ rfl (fun h => by cases h) (sh_L (b := 0) (n := 22) (i := 1) (j := 1) hB (KXs_19 B) rfl) ?_
  show Ex _ _ 0 0 _ _ _ (KX20 B) _
  refine ex_aload_n (pc := 87) (k := 0) (by decide +kernel) rfl ?_
  refine ex_iconst (pc := 88) (k := 0) (v := nI 0) (by decide +kernel) (by decide) ?_
  refine ex_putI (pc := 89) (index := 45) (ci := 4) (k := 10) (fin := false) (v := nI 0) (by decide +kernel) ⟨_, _, _, _, cf_Land, by decide, in_t1 (i := 69) rfl rfl, rfl, (fun h => by cases h), rfl, rfl⟩ rfl (fun h => by cases h) (sh_L (b := 0) (n := 22) (i := 1) (j := 1) hB (KXs_20 B) rfl) ?_
  show Ex _ _ 0 0 _ _ _ (KX21 B) _
  refine ex_aload_n (pc := 92) (k := 0) (by decide +kernel) rfl ?_
  refine ex_iconst (pc := 93) (k := 0) (v := nI 0) (by decide +kernel) (by decide) ?_
  refine ex_putI (pc := 94) (index := 48) (ci := 4) (k := 11) (fin := false) (v := nI 0) (by decide +kernel) ⟨_, _, _, _, cf_Land, by decide, in_t1 (i := 71) rfl rfl, rfl, (fun h => by cases h), rfl, rfl⟩ rfl (fun h => by cases h) (sh_L (b := 0) (n := 22) (i := 1) (j := 1) hB (KXs_21 B) rfl) ?_
  show Ex _ _ 0 0 _ _ _ (KX22 B) _
  exact ex_return (pc := 97) (by decide +kernel) rfl ⟨rfl, h⟩
def KX23 (B : Mem) : Mem := wr (KX22 B) 0 0 (some 1)
theorem KXs_23 (B : Mem) : sh (KX23 B) = sh B ++ (shT.drop 0).take 22 := (sh_wr _ _ _ _).trans (KXs_22 B)
def KX24 (B : Mem) : Mem := nwL (KX23 B) 22 4 12
theorem KXs_24 (B : Mem) : sh (KX24 B) = sh B ++ (shT.drop 0).take 23 := sh_st (KXs_23 B) (by decide +kernel)
def KX25 (B : Mem) : Mem := nwL (KX24 B) 23 100 6
theorem KXs_25 (B : Mem) : sh (KX25 B) = sh B ++ (shT.drop 0).take 24 := sh_st (KXs_24 B) (by decide +kernel)
def KX26 (B : Mem) : Mem := wr (KX25 B) 22 0 (some 23)
theorem KXs_26 (B : Mem) : sh (KX26 B) = sh B ++ (shT.drop 0).take 24 := (sh_wr _ _ _ _).trans (KXs_25 B)
def KX27 (B : Mem) : Mem := nwL (KX26 B) 24 100 6
theorem KXs_27 (B : Mem) : sh (KX27 B) = sh B ++ (shT.drop 0).take 25 := sh_st (KXs_26 B) (by decide +kernel)
def KX28 (B : Mem) : Mem := wr (KX27 B) 22 1 (some 24)
theorem KXs_28 (B : Mem) : sh (KX28 B) = sh B ++ (shT.drop 0).take 25 := (sh_wr _ _ _ _).trans (KXs_27 B)
def KX29 (B : Mem) : Mem := nwL (KX28 B) 25 100 6
theorem KXs_29 (B : Mem) : sh (KX29 B) = sh B ++ (shT.drop 0).take 26 := sh_st (KXs_28 B) (by decide +kernel)
def KX30 (B : Mem) : Mem := wr (KX29 B) 22 2 (some 25)
theorem KXs_30 (B : Mem) : sh (KX30 B) = sh B ++ (shT.drop 0).take 26 := (sh_wr _ _ _ _).trans (KXs_29 B)
def KX31 (B : Mem) : Mem := nwL (KX30 B) 26 100 6
theorem KXs_31 (B : Mem) : sh (KX31 B) = sh B ++ (shT.drop 0).take 27 := sh_st (KXs_30 B) (by decide +kernel)
def KX32 (B : Mem) : Mem := wr (KX31 B) 22 3 (some 26)
theorem KXs_32 (B : Mem) : sh (KX32 B) = sh B ++ (shT.drop 0).take 27 := (sh_wr _ _ _ _).trans (KXs_31 B)
def KX33 (B : Mem) : Mem := nwML (KX32 B) 27
theorem KXs_33 (B : Mem) : sh (KX33 B) = sh B ++ (shT.drop 0).take 34 := sh_st7 (KXs_32 B) (by decide +kernel)
def KX34 (B : Mem) : Mem := wr (KX33 B) 22 4 (some 27)
theorem KXs_34 (B : Mem) : sh (KX34 B) = sh B ++ (shT.drop 0).take 34 := (sh_wr _ _ _ _).trans (KXs_33 B)
def KX35 (B : Mem) : Mem := nwML (KX34 B) 34
theorem KXs_35 (B : Mem) : sh (KX35 B) = sh B ++ (shT.drop 0).take 41 := sh_st7 (KXs_34 B) (by decide +kernel)
def KX36 (B : Mem) : Mem := wr (KX35 B) 22 5 (some 34)
theorem KXs_36 (B : Mem) : sh (KX36 B) = sh B ++ (shT.drop 0).take 41 := (sh_wr _ _ _ _).trans (KXs_35 B)
def KX37 (B : Mem) : Mem := nwL (KX36 B) 41 100 10
theorem KXs_37 (B : Mem) : sh (KX37 B) = sh B ++ (shT.drop 0).take 42 := sh_st (KXs_36 B) (by decide +kernel)
def KX38 (B : Mem) : Mem := wr (KX37 B) 22 6 (some 41)
theorem KXs_38 (B : Mem) : sh (KX38 B) = sh B ++ (shT.drop 0).take 42 := (sh_wr _ _ _ _).trans (KXs_37 B)
def KX39 (B : Mem) : Mem := nwL (KX38 B) 42 100 10
theorem KXs_39 (B : Mem) : sh (KX39 B) = sh B ++ (shT.drop 0).take 43 := sh_st (KXs_38 B) (by decide +kernel)
def KX40 (B : Mem) : Mem := wr (KX39 B) 22 7 (some 42)
theorem KXs_40 (B : Mem) : sh (KX40 B) = sh B ++ (shT.drop 0).take 43 := (sh_wr _ _ _ _).trans (KXs_39 B)
def KX41 (B : Mem) : Mem := wi (KX40 B) 22 8 (nI 0)
theorem KXs_41 (B : Mem) : sh (KX41 B) = sh B ++ (shT.drop 0).take 43 := (sh_wi _ _ _ _).trans (KXs_40 B)
def KX42 (B : Mem) : Mem := wi (KX41 B) 22 9 (nI 6)
theorem KXs_42 (B : Mem) : sh (KX42 B) = sh B ++ (shT.drop 0).take 43 := (sh_wi _ _ _ _).trans (KXs_41 B)
def KX43 (B : Mem) : Mem := wi (KX42 B) 22 10 (nI 0)
theorem KXs_43 (B : Mem) : sh (KX43 B) = sh B ++ (shT.drop 0).take 43 := (sh_wi _ _ _ _).trans (KXs_42 B)
def KX44 (B : Mem) : Mem := wi (KX43 B) 22 11 (nI 0)
theorem KXs_44 (B : Mem) : sh (KX44 B) = sh B ++ (shT.drop 0).take 43 := (sh_wi _ _ _ _).trans (KXs_43 B)
theorem KX_c22 {d : Nat} {B : Mem} {K : Mem → Prop} (hB : (sh B).length = 0) (h : K (KX44 B)) : Con (d + 1) m_Land_init 20 128 [.ref 22] (KX24 B) (PV K) := by
  refine Con.of (lo := [some (.ref 22)]) F_Land_init.1 rfl (Nat.le_of_ble_eq_true rfl) ?_
  refine ex_aload_n (pc := 0) (k := 0) (by decide +kernel) rfl ?_
  refine ex_objInit (pc := 1) (by decide +kernel) (in_t1 (i := 34) rfl rfl) (Nat.le_of_ble_eq_true rfl) (Nat.succ_le_succ (Nat.zero_le _)) ?_
  refine ex_aload_n (pc := 4) (k := 0) (by decide +kernel) rfl ?_
  refine ex_bipush (pc := 5) (k := 6) (v := nI 6) (by decide +kernel) (by decide) ?_
  refine ex_newa_int (pc := 7) (N := 6) (by decide +kernel) (in_t1 (i := 99) rfl rfl) (by decide) (by decide) (by decide) ⟨by decide, by decide⟩ (Nat.lt_of_le_of_lt (Nat.le_of_eq (sh_N (b := 0) (n := 23) (q := 23) hB (KXs_24 B) rfl)) (by decide)) ?_
  rw [nw_L (sh_N (b := 0) (n := 23) (q := 23) hB (KXs_24 B) rfl), (sh_N (b := 0) (n := 23) (q := 23) hB (KXs_24 B) rfl)]
  show Ex _ _ 19 122 _ _ _ (KX25 B) _
  refine ex_putR (pc := 9) (index := 9) (ci := 4) (k := 0) (fin := true) (v := some 23) (by decide +kernel) ⟨_, _, _, _, cf_Land, by decide, in_t1 (i := 37) rfl rfl, rfl, (fun _ => rfl), rfl, rfl⟩ rfl (fun _ => rfl) (sh_L (b := 0) (n := 24) (i := 22) (j := 22) hB (KXs_25 B) rfl) ?_
  show Ex _ _ 19 122 _ _ _ (KX26 B) _
  refine ex_aload_n (pc := 12) (k := 0) (by decide +kernel) rfl ?_
  refine ex_bipush (pc := 13) (k := 6) (v := nI 6) (by decide +kernel) (by decide) ?_
  refine ex_newa_int (pc := 15) (N := 6) (by decide +kernel) (in_t1 (i := 99) rfl rfl) (by decide) (by decide) (by decide) ⟨by decide, by decide⟩ (Nat.lt_of_le_of_lt (Nat.le_of_eq (sh_N (b := 0) (n := 24) (q := 24) hB (KXs_26 B) rfl)) (by decide)) ?_
  rw [nw_L (sh_N (b := 0) (n := 24) (q := 24) hB (KXs_26 B) rfl), (sh_N (b := 0) (n := 24) (q := 24) hB (KXs_26 B) rfl)]
  show Ex _ _ 18 116 _ _ _ (KX27 B) _
  refine ex_putR (pc := 17) (index := 15) (ci := 4) (k := 1) (fin := true) (v := some 24) (by decide +kernel) ⟨_, _, _, _, cf_Land, by decide, in_t1 (i := 41) rfl rfl, rfl, (fun _ => rfl), rfl, rfl⟩ rfl (fun _ => rfl) (sh_L (b := 0) (n := 25) (i := 22) (j := 22) hB (KXs_27 B) rfl) ?_
  show Ex _ _ 18 116 _ _ _ (KX28 B) _
  refine ex_aload_n (pc := 20) (k := 0) (by decide +kernel) rfl ?_
  refine ex_bipush (pc := 21) (k := 6) (v := nI 6) (by decide +kernel) (by decide) ?_
  refine ex_newa_int (pc := 23) (N := 6) (by decide +kernel) (in_t1 (i := 99) rfl rfl) (by decide) (by decide) (by decide) ⟨by decide, by decide⟩ (Nat.lt_of_le_of_lt (Nat.le_of_eq (sh_N (b := 0) (n := 25) (q := 25) hB (KXs_28 B) rfl)) (by decide)) ?_
  rw [nw_L (sh_N (b := 0) (n := 25) (q := 25) hB (KXs_28 B) rfl), (sh_N (b := 0) (n := 25) (q := 25) hB (KXs_28 B) rfl)]
  show Ex _ _ 17 110 _ _ _ (KX29 B) _
  refine ex_putR (pc := 25) (index := 18) (ci := 4) (k := 2) (fin := true) (v := some 25) (by decide +kernel) ⟨_, _, _, _, cf_Land, by decide, in_t1 (i := 45) rfl rfl, rfl, (fun _ => rfl), rfl, rfl⟩ rfl (fun _ => rfl) (sh_L (b := 0) (n := 26) (i := 22) (j := 22) hB (KXs_29 B) rfl) ?_
  show Ex _ _ 17 110 _ _ _ (KX30 B) _
  refine ex_aload_n (pc := 28) (k := 0) (by decide +kernel) rfl ?_
  refine ex_bipush (pc := 29) (k := 6) (v := nI 6) (by decide +kernel) (by decide) ?_
  refine ex_newa_int (pc := 31) (N := 6) (by decide +kernel) (in_t1 (i := 99) rfl rfl) (by decide) (by decide) (by decide) ⟨by decide, by decide⟩ (Nat.lt_of_le_of_lt (Nat.le_of_eq (sh_N (b := 0) (n := 26) (q := 26) hB (KXs_30 B) rfl)) (by decide)) ?_
  rw [nw_L (sh_N (b := 0) (n := 26) (q := 26) hB (KXs_30 B) rfl), (sh_N (b := 0) (n := 26) (q := 26) hB (KXs_30 B) rfl)]
  show Ex _ _ 16 104 _ _ _ (KX31 B) _
  refine ex_putR (pc := 33) (index := 21) (ci := 4) (k := 3) (fin := true) (v := some 26) (by decide +kernel) ⟨_, _, _, _, cf_Land, by decide, in_t1 (i := 48) rfl rfl, rfl, (fun _ => rfl), rfl, rfl⟩ rfl (fun _ => rfl) (sh_L (b := 0) (n := 27) (i := 22) (j := 22) hB (KXs_31 B) rfl) ?_
  show Ex _ _ 16 104 _ _ _ (KX32 B) _
  refine ex_aload_n (pc := 36) (k := 0) (by decide +kernel) rfl ?_
  refine ex_bipush (pc := 37) (k := 6) (v := nI 6) (by decide +kernel) (by decide) ?_
  refine ex_bipush (pc := 39) (k := 6) (v := nI 6) (by decide +kernel) (by decide) ?_
  show Ex _ _ _ _ _ _ (.int 6 :: .int 6 :: _) _ _
  refine ex_multi (pc := 41) (by decide +kernel) (in_t1 (i := 35) rfl rfl) ⟨by decide, by decide⟩ (Nat.le_trans (Nat.add_le_add_right (Nat.le_of_eq (sh_N (b := 0) (n := 27) (q := 27) hB (KXs_32 B) rfl)) 7) (by decide)) ?_
  rw [nwM_L (sh_N (b := 0) (n := 27) (q := 27) hB (KXs_32 B) rfl), (sh_N (b := 0) (n := 27) (q := 27) hB (KXs_32 B) rfl)]
  show Ex _ _ 9 62 _ _ _ (KX33 B) _
  refine ex_putR (pc := 45) (index := 26) (ci := 4) (k := 4) (fin := true) (v := some 27) (by decide +kernel) ⟨_, _, _, _, cf_Land, by decide, in_t1 (i := 52) rfl rfl, rfl, (fun _ => rfl), rfl, rfl⟩ rfl (fun _ => rfl) (sh_L (b := 0) (n := 34) (i := 22) (j := 22) hB (KXs_33 B) rfl) ?_
  show Ex _ _ 9 62 _ _ _ (KX34 B) _
  refine ex_aload_n (pc := 48) (k := 0) (by decide +kernel) rfl ?_
  refine ex_bipush (pc := 49) (k := 6) (v := nI 6) (by decide +kernel) (by decide) ?_
  refine ex_bipush (pc := 51) (k := 6) (v := nI 6) (by decide +kernel) (by decide) ?_
  show Ex _ _ _ _ _ _ (.int 6 :: .int 6 :: _) _ _
  refine ex_multi (pc := 53) (by decide +kernel) (in_t1 (i := 35) rfl rfl) ⟨by decide, by decide⟩ (Nat.le_trans (Nat.add_le_add_right (Nat.le_of_eq (sh_N (b := 0) (n := 34) (q := 34) hB (KXs_34 B) rfl)) 7) (by decide)) ?_
  rw [nwM_L (sh_N (b := 0) (n := 34) (q := 34) hB (KXs_34 B) rfl), (sh_N (b := 0) (n := 34) (q := 34) hB (KXs_34 B) rfl)]
  show Ex _ _ 2 20 _ _ _ (KX35 B) _
  refine ex_putR (pc := 57) (index := 29) (ci := 4) (k := 5) (fin := true) (v := some 34) (by decide +kernel) ⟨_, _, _, _, cf_Land, by decide, in_t1 (i := 53) rfl rfl, rfl, (fun _ => rfl), rfl, rfl⟩ rfl (fun _ => rfl) (sh_L (b := 0) (n := 41) (i := 22) (j := 22) hB (KXs_35 B) rfl) ?_
  show Ex _ _ 2 20 _ _ _ (KX36 B) _
  refine ex_aload_n (pc := 60) (k := 0) (by decide +kernel) rfl ?_
  refine ex_bipush (pc := 61) (k := 10) (v := nI 10) (by decide +kernel) (by decide) ?_
  refine ex_newa_int (pc := 63) (N := 10) (by decide +kernel) (in_t1 (i := 99) rfl rfl) (by decide) (by decide) (by decide) ⟨by decide, by decide⟩ (Nat.lt_of_le_of_lt (Nat.le_of_eq (sh_N (b := 0) (n := 41) (q := 41) hB (KXs_36 B) rfl)) (by decide)) ?_
  rw [nw_L (sh_N (b := 0) (n := 41) (q := 41) hB (KXs_36 B) rfl), (sh_N (b := 0) (n := 41) (q := 41) hB (KXs_36 B) rfl)]
  show Ex _ _ 1 10 _ _ _ (KX37 B) _
  refine ex_putR (pc := 65) (index := 32) (ci := 4) (k := 6) (fin := true) (v := some 41) (by decide +kernel) ⟨_, _, _, _, cf_Land, by decide, in_t1 (i := 54) rfl rfl, rfl, (fun _ => rfl), rfl, rfl⟩ rfl (fun _ => rfl) (sh_L (b := 0) (n := 42) (i := 22) (j := 22) hB (KXs_37 B) rfl) ?_
  show Ex _ _ 1 10 _ _ _ (KX38 B) _
  refine ex_aload_n (pc := 68) (k := 0) (by decide +kernel) rfl ?_
  refine ex_bipush (pc := 69) (k := 10) (v := nI 10) (by decide +kernel) (by decide) ?_
  refine ex_newa_int (pc := 71) (N := 10) (by decide +kernel) (in_t1 (i := 99) rfl rfl) (by decide) (by decide) (by decide) ⟨by decide, by decide⟩ (Nat.lt_of_le_of_lt (Nat.le_of_eq (sh_N (b := 0) (n := 42) (q := 42) hB (KXs_38 B) rfl)) (by decide)) ?_
  rw [nw_L (sh_N (b := 0) (n := 42) (q := 42) hB (KXs_38 B) rfl), (sh_N (b := 0) (n := 42) (q := 42) hB (KXs_38 B) rfl)]
  show Ex _ _ 0 0 _ _ _ (KX39 B) _
  refine ex_putR (pc := 73) (index := 35) (ci := 4) (k := 7) (fin := true) (v := some 42) (by decide +kernel) ⟨_, _, _, _, cf_Land, by decide, in_t1 (i := 55) rfl rfl, rfl, (fun _ => rfl), rfl, rfl⟩ rfl (fun _ => rfl) (sh_L (b := 0) (n := 43) (i := 22) (j := 22) hB (KXs_39 B) rfl) ?_
  show Ex _ _ 0 0 _ _ _ (KX40 B) _
  refine ex_aload_n (pc := 76) (k := 0) (by decide +kernel) rfl ?_
  refine ex_iconst (pc := 77) (k := 0) (v := nI 0) (by decide +kernel) (by decide) ?_
  refine ex_putI (pc := 78) (index := 38) (ci := 4) (k := 8) (fin := false) (v := nI 0) (by decide +kernel) ⟨_, _, _, _, cf_Land, by decide, in_t1 (i := 56) rfl rfl, rfl, (fun h => by cases h), rfl, rfl⟩ rfl (fun h => by cases h) (sh_L (b := 0) (n := 43) (i := 22) (j := 22) hB (KXs_40 B) rfl) ?_
  show Ex _ _ 0 0 _ _ _ (KX41 B) _
  refine ex_aload_n (pc := 81) (k := 0) (by decide +kernel) rfl ?_
  refine ex_bipush (pc := 82) (k := 6) (v := nI 6) (by decide +kernel) (by decide) ?_
  refine ex_putI (pc := 84) (index := 42) (ci := 4) (k := 9) (fin := false) (v := nI 6) (by decide +kernel) ⟨_, _, _, _, cf_Land, by decide, in_t1 (i := 62) rfl rfl, rfl, (fun h => by cases h), rfl, rfl⟩ rfl (fun h => by cases h) (sh_L (b := 0) (n := 43) (i := 22) (j := 22) hB (KXs_41 B) rfl) ?_
  show Ex _ _ 0 0 _ _ _ (KX42 B) _
  refine ex_aload_n (pc := 87) (k := 0) (by decide +kernel) rfl ?_
  refine ex_iconst (pc := 88) (k := 0) (v := nI 0) (by decide +kernel) (by decide) ?_
  refine ex_putI (pc := 89) (index := 45) (ci := 4) (k := 10) (fin := false) (v := nI 0) (by decide +kernel) ⟨_, _, _, _, cf_Land, by decide, in_t1 (i := 69) rfl rfl, rfl, (fun h => by cases h), rfl, rfl⟩ rfl (fun h => by cases h) (sh_L (b := 0) (n := 43) (i := 22) (j := 22) hB (KXs_42 B) rfl) ?_
  show Ex _ _ 0 0 _ _ _ (KX43 B) _
  refine ex_aload_n (pc := 92) (k := 0) (by decide +kernel) rfl ?_
  refine ex_iconst (pc := 93) (k := 0) (v := nI 0) (by decide +kernel) (by decide) ?_
  refine ex_putI (pc := 94) (index := 48) (ci := 4) (k := 11) (fin := false) (v := nI 0) (by decide +kernel) ⟨_, _, _, _, cf_Land, by decide, in_t1 (i := 71) rfl rfl, rfl, (fun h => by cases h), rfl, rfl⟩ rfl (fun h => by cases h) (sh_L (b := 0) (n := 43) (i := 22) (j := 22) hB (KXs_43 B) rfl) ?_
  show Ex _ _ 0 0 _ _ _ (KX44 B) _
  exact ex_return (pc := 97) (by decide +kernel) rfl ⟨rfl, h⟩
def KX45 (B : Mem) : Mem := wr (KX44 B) 0 1 (some 22)
theorem KXs_45 (B : Mem) : sh (KX45 B) = sh B ++ (shT.drop 0).take 43 := (sh_wr _ _ _ _).trans (KXs_44 B)
def KX46 (B : Mem) : Mem := wi (KX45 B) 0 2 (nI 0)
theorem KXs_46 (B : Mem) : sh (KX46 B) = sh B ++ (shT.drop 0).take 43 := (sh_wi _ _ _ _).trans (KXs_45 B)
def KX47 (B : Mem) : Mem := nwL (KX46 B) 43 9 10
theorem KXs_47 (B : Mem) : sh (KX47 B) = sh B ++ (shT.drop 0).take 44 := sh_st (KXs_46 B) (by decide +kernel)
def KX48 (B : Mem) : Mem := nwL (KX47 B) 44 100 160
theorem KXs_48 (B : Mem) : sh (KX48 B) = sh B ++ (shT.drop 0).take 45 := sh_st (KXs_47 B) (by decide +kernel)
def KX49 (B : Mem) : Mem := wr (KX48 B) 43 0 (some 44)
theorem KXs_49 (B : Mem) : sh (KX49 B) = sh B ++ (shT.drop 0).take 45 := (sh_wr _ _ _ _).trans (KXs_48 B)
def KX50 (B : Mem) : Mem := wi (KX49 B) 43 1 (nI 0)
theorem KXs_50 (B : Mem) : sh (KX50 B) = sh B ++ (shT.drop 0).take 45 := (sh_wi _ _ _ _).trans (KXs_49 B)
def KX51 (B : Mem) : Mem := wi (KX50 B) 43 2 (-1)
theorem KXs_51 (B : Mem) : sh (KX51 B) = sh B ++ (shT.drop 0).take 45 := (sh_wi _ _ _ _).trans (KXs_50 B)
def KX52 (B : Mem) : Mem := wi (KX51 B) 43 3 (nI 0)
theorem KXs_52 (B : Mem) : sh (KX52 B) = sh B ++ (shT.drop 0).take 45 := (sh_wi _ _ _ _).trans (KXs_51 B)
def KX53 (B : Mem) : Mem := wi (KX52 B) 43 4 (nI 0)
theorem KXs_53 (B : Mem) : sh (KX53 B) = sh B ++ (shT.drop 0).take 45 := (sh_wi _ _ _ _).trans (KXs_52 B)
def KX54 (B : Mem) : Mem := wi (KX53 B) 43 5 (nI 256)
theorem KXs_54 (B : Mem) : sh (KX54 B) = sh B ++ (shT.drop 0).take 45 := (sh_wi _ _ _ _).trans (KXs_53 B)
def KX55 (B : Mem) : Mem := wi (KX54 B) 43 6 (nI 0)
theorem KXs_55 (B : Mem) : sh (KX55 B) = sh B ++ (shT.drop 0).take 45 := (sh_wi _ _ _ _).trans (KXs_54 B)
def KX56 (B : Mem) : Mem := wi (KX55 B) 43 7 (nI 0)
theorem KXs_56 (B : Mem) : sh (KX56 B) = sh B ++ (shT.drop 0).take 45 := (sh_wi _ _ _ _).trans (KXs_55 B)
def KX57 (B : Mem) : Mem := nwL (KX56 B) 45 100 160
theorem KXs_57 (B : Mem) : sh (KX57 B) = sh B ++ (shT.drop 0).take 46 := sh_st (KXs_56 B) (by decide +kernel)
def KX58 (B : Mem) : Mem := wr (KX57 B) 43 8 (some 45)
theorem KXs_58 (B : Mem) : sh (KX58 B) = sh B ++ (shT.drop 0).take 46 := (sh_wr _ _ _ _).trans (KXs_57 B)
def KX59 (B : Mem) : Mem := wi (KX58 B) 43 9 (nI 0)
theorem KXs_59 (B : Mem) : sh (KX59 B) = sh B ++ (shT.drop 0).take 46 := (sh_wi _ _ _ _).trans (KXs_58 B)
theorem KX_c43 {d : Nat} {B : Mem} {K : Mem → Prop} (hB : (sh B).length = 0) (h : K (KX59 B)) : Con (d + 1) m_Tape_init 2 320 [.ref 43] (KX47 B) (PV K) := by
  refine Con.of (lo := [some (.ref 43)]) F_Tape_init.1 rfl (Nat.le_of_ble_eq_true rfl) ?_
  refine ex_aload_n (pc := 0) (k := 0) (by decide +kernel) rfl ?_
  refine ex_objInit (pc := 1) (by decide +kernel) (in_t1 (i := 105) rfl rfl) (Nat.le_of_ble_eq_true rfl) (Nat.succ_le_succ (Nat.zero_le _)) ?_
  refine ex_aload_n (pc := 4) (k := 0) (by decide +kernel) rfl ?_
  refine ex_sipush (pc := 5) (k := 160) (v := nI 160) (by decide +kernel) (by decide) ?_
  refine ex_newa_int (pc := 8) (N := 160) (by decide +kernel) (in_t1 (i := 99) rfl rfl) (by decide) (by decide) (by decide) ⟨by decide, by decide⟩ (Nat.lt_of_le_of_lt (Nat.le_of_eq (sh_N (b := 0) (n := 44) (q := 44) hB (KXs_47 B) rfl)) (by decide)) ?_
  rw [nw_L (sh_N (b := 0) (n := 44) (q := 44) hB (KXs_47 B) rfl), (sh_N (b := 0) (n := 44) (q := 44) hB (KXs_47 B) rfl)]
  show Ex _ _ 1 160 _ _ _ (KX48 B) _
  refine ex_putR (pc := 10) (index := 9) (ci := 9) (k := 0) (fin := true) (v := some 44) (by decide +kernel) ⟨_, _, _, _, cf_Tape, by decide, in_t1 (i := 106) rfl rfl, rfl, (fun _ => rfl), rfl, rfl⟩ rfl (fun _ => rfl) (sh_L (b := 0) (n := 45) (i := 43) (j := 43) hB (KXs_48 B) rfl) ?_
  show Ex _ _ 1 160 _ _ _ (KX49 B) _
  refine ex_aload_n (pc := 13) (k := 0) (by decide +kernel) rfl ?_
  refine ex_iconst (pc := 14) (k := 0) (v := nI 0) (by decide +kernel) (by decide) ?_
  refine ex_putI (pc := 15) (index := 15) (ci := 9) (k := 1) (fin := false) (v := nI 0) (by decide +kernel) ⟨_, _, _, _, cf_Tape, by decide, in_t1 (i := 107) rfl rfl, rfl, (fun h => by cases h), rfl, rfl⟩ rfl (fun h => by cases h) (sh_L (b := 0) (n := 45) (i := 43) (j := 43) hB (KXs_49 B) rfl) ?_
  show Ex _ _ 1 160 _ _ _ (KX50 B) _
  refine ex_aload_n (pc := 18) (k := 0) (by decide +kernel) rfl ?_
  refine ex_iconst (pc := 19) (k := -1) (v := -1) (by decide +kernel) (by decide) ?_
  refine ex_putI (pc := 20) (index := 19) (ci := 9) (k := 2) (fin := false) (v := -1) (by decide +kernel) ⟨_, _, _, _, cf_Tape, by decide, in_t1 (i := 109) rfl rfl, rfl, (fun h => by cases h), rfl, rfl⟩ rfl (fun h => by cases h) (sh_L (b := 0) (n := 45) (i := 43) (j := 43) hB (KXs_50 B) rfl) ?_
  show Ex _ _ 1 160 _ _ _ (KX51 B) _
  refine ex_aload_n (pc := 23) (k := 0) (by decide +kernel) rfl ?_
  refine ex_iconst (pc := 24) (k := 0) (v := nI 0) (by decide +kernel) (by decide) ?_
  refine ex_putI (pc := 25) (index := 22) (ci := 9) (k := 3) (fin := false) (v := nI 0) (by decide +kernel) ⟨_, _, _, _, cf_Tape, by decide, in_t1 (i := 111) rfl rfl, rfl, (fun h => by cases h), rfl, rfl⟩ rfl (fun h => by cases h) (sh_L (b := 0) (n := 45) (i := 43) (j := 43) hB (KXs_51 B) rfl) ?_
  show Ex _ _ 1 160 _ _ _ (KX52 B) _
  refine ex_aload_n (pc := 28) (k := 0) (by decide +kernel) rfl ?_
  refine ex_iconst (pc := 29) (k := 0) (v := nI 0) (by decide +kernel) (by decide) ?_
  refine ex_putI (pc := 30) (index := 25) (ci := 9) (k := 4) (fin := false) (v := nI 0) (by decide +kernel) ⟨_, _, _, _, cf_Tape, by decide, in_t1 (i := 112) rfl rfl, rfl, (fun h => by cases h), rfl, rfl⟩ rfl (fun h => by cases h) (sh_L (b := 0) (n := 45) (i := 43) (j := 43) hB (KXs_52 B) rfl) ?_
  show Ex _ _ 1 160 _ _ _ (KX53 B) _
  refine ex_aload_n (pc := 33) (k := 0) (by decide +kernel) rfl ?_
  refine ex_sipush (pc := 34) (k := 256) (v := nI 256) (by decide +kernel) (by decide) ?_
  refine ex_putI (pc := 37) (index := 28) (ci := 9) (k := 5) (fin := false) (v := nI 256) (by decide +kernel) ⟨_, _, _, _, cf_Tape, by decide, in_t1 (i := 113) rfl rfl, rfl, (fun h => by cases h), rfl, rfl⟩ rfl (fun h => by cases h) (sh_L (b := 0) (n := 45) (i := 43) (j := 43) hB (KXs_53 B) rfl) ?_
  show Ex _ _ 1 160 _ _ _ (KX54 B) _
  refine ex_aload_n (pc := 40) (k := 0) (by decide +kernel) rfl ?_
  refine ex_iconst (pc := 41) (k := 0) (v := nI 0) (by decide +kernel) (by decide) ?_
  refine ex_putI (pc := 42) (index := 31) (ci := 9) (k := 6) (fin := false) (v := nI 0) (by decide +kernel) ⟨_, _, _, _, cf_Tape, by decide, in_t1 (i := 114) rfl rfl, rfl, (fun h => by cases h), rfl, rfl⟩ rfl (fun h => by cases h) (sh_L (b := 0) (n := 45) (i := 43) (j := 43) hB (KXs_54 B) rfl) ?_
  show Ex _ _ 1 160 _ _ _ (KX55 B) _
  refine ex_aload_n (pc := 45) (k := 0) (by decide +kernel) rfl ?_
  refine ex_iconst (pc := 46) (k := 0) (v := nI 0) (by decide +kernel) (by decide) ?_
  refine ex_putI (pc := 47) (index := 34) (ci := 9) (k := 7) (fin := false) (v := nI 0) (by decide +kernel) ⟨_, _, _, _, cf_Tape, by decide, in_t1 (i := 115) rfl rfl, rfl, (fun h => by cases h), rfl, rfl⟩ rfl (fun h => by cases h) (sh_L (b := 0) (n := 45) (i := 43) (j := 43) hB (KXs_55 B) rfl) ?_
  show Ex _ _ 1 160 _ _ _ (KX56 B) _
  refine ex_aload_n (pc := 50) (k := 0) (by decide +kernel) rfl ?_
  refine ex_sipush (pc := 51) (k := 160) (v := nI 160) (by decide +kernel) (by decide) ?_
  refine ex_newa_int (pc := 54) (N := 160) (by decide +kernel) (in_t1 (i := 99) rfl rfl) (by decide) (by decide) (by decide) ⟨by decide, by decide⟩ (Nat.lt_of_le_of_lt (Nat.le_of_eq (sh_N (b := 0) (n := 45) (q := 45) hB (KXs_56 B) rfl)) (by decide)) ?_
  rw [nw_L (sh_N (b := 0) (n := 45) (q := 45) hB (KXs_56 B) rfl), (sh_N (b := 0) (n := 45) (q := 45) hB (KXs_56 B) rfl)]
  show Ex _ _ 0 0 _ _ _ (KX57 B) _
  refine ex_putR (pc := 56) (index := 37) (ci := 9) (k := 8) (fin := true) (v := some 45) (by decide +kernel) ⟨_, _, _, _, cf_Tape, by decide, in_t1 (i := 116) rfl rfl, rfl, (fun _ => rfl), rfl, rfl⟩ rfl (fun _ => rfl) (sh_L (b := 0) (n := 46) (i := 43) (j := 43) hB (KXs_57 B) rfl) ?_
  show Ex _ _ 0 0 _ _ _ (KX58 B) _
  refine ex_aload_n (pc := 59) (k := 0) (by decide +kernel) rfl ?_
  refine ex_iconst (pc := 60) (k := 0) (v := nI 0) (by decide +kernel) (by decide) ?_
  refine ex_putI (pc := 61) (index := 40) (ci := 9) (k := 9) (fin := false) (v := nI 0) (by decide +kernel) ⟨_, _, _, _, cf_Tape, by decide, in_t1 (i := 117) rfl rfl, rfl, (fun h => by cases h), rfl, rfl⟩ rfl (fun h => by cases h) (sh_L (b := 0) (n := 46) (i := 43) (j := 43) hB (KXs_58 B) rfl) ?_
  show Ex _ _ 0 0 _ _ _ (KX59 B) _
  exact ex_return (pc := 64) (by decide +kernel) rfl ⟨rfl, h⟩
def KX60 (B : Mem) : Mem := wr (KX59 B) 0 3 (some 43)
theorem KXs_60 (B : Mem) : sh (KX60 B) = sh B ++ (shT.drop 0).take 46 := (sh_wr _ _ _ _).trans (KXs_59 B)
def KX61 (B : Mem) : Mem := nwL (KX60 B) 46 5 5
theorem KXs_61 (B : Mem) : sh (KX61 B) = sh B ++ (shT.drop 0).take 47 := sh_st (KXs_60 B) (by decide +kernel)
def KX62 (B : Mem) : Mem := nwL (KX61 B) 47 104 6
theorem KXs_62 (B : Mem) : sh (KX62 B) = sh B ++ (shT.drop 0).take 48 := sh_st (KXs_61 B) (by decide +kernel)
def KX63 (B : Mem) : Mem := wr (KX62 B) 46 1 (some 47)
theorem KXs_63 (B : Mem) : sh (KX63 B) = sh B ++ (shT.drop 0).take 48 := (sh_wr _ _ _ _).trans (KXs_62 B)
def KX64 (B : Mem) : Mem := wi (KX63 B) 46 2 (nI 0)
theorem KXs_64 (B : Mem) : sh (KX64 B) = sh B ++ (shT.drop 0).take 48 := (sh_wi _ _ _ _).trans (KXs_63 B)
def KX65 (B : Mem) : Mem := nwL (KX64 B) 48 100 6
theorem KXs_65 (B : Mem) : sh (KX65 B) = sh B ++ (shT.drop 0).take 49 := sh_st (KXs_64 B) (by decide +kernel)
def KX66 (B : Mem) : Mem := wr (KX65 B) 46 3 (some 48)
theorem KXs_66 (B : Mem) : sh (KX66 B) = sh B ++ (shT.drop 0).take 49 := (sh_wr _ _ _ _).trans (KXs_65 B)
def KX67 (B : Mem) : Mem := nwL (KX66 B) 49 100 40
theorem KXs_67 (B : Mem) : sh (KX67 B) = sh B ++ (shT.drop 0).take 50 := sh_st (KXs_66 B) (by decide +kernel)
def KX68 (B : Mem) : Mem := wr (KX67 B) 46 4 (some 49)
theorem KXs_68 (B : Mem) : sh (KX68 B) = sh B ++ (shT.drop 0).take 50 := (sh_wr _ _ _ _).trans (KXs_67 B)
def KX69 (B : Mem) : Mem := wr (KX68 B) 46 0 (some 1)
theorem KXs_69 (B : Mem) : sh (KX69 B) = sh B ++ (shT.drop 0).take 50 := (sh_wr _ _ _ _).trans (KXs_68 B)
theorem KX_c46 {d : Nat} {B : Mem} {K : Mem → Prop} (hB : (sh B).length = 0) (h : K (KX69 B)) : Con (d + 1) m_Law_init 3 52 [.ref 46, .ref 1] (KX61 B) (PV K) := by
  refine Con.of (lo := [some (.ref 46), some (.ref 1)]) F_Law_init.1 rfl (Nat.le_of_ble_eq_true rfl) ?_
  refine ex_aload_n (pc := 0) (k := 0) (by decide +kernel) rfl ?_
  refine ex_objInit (pc := 1) (by decide +kernel) (in_t1 (i := 144) rfl rfl) (Nat.le_of_ble_eq_true rfl) (Nat.succ_le_succ (Nat.zero_le _)) ?_
  refine ex_aload_n (pc := 4) (k := 0) (by decide +kernel) rfl ?_
  refine ex_bipush (pc := 5) (k := 6) (v := nI 6) (by decide +kernel) (by decide) ?_
  refine ex_anew (pc := 7) (ci := 104) (C := "MarketDays$Rule") (N := 6) (by decide +kernel) (in_t1 (i := 145) rfl rfl) (by decide) (by decide) (by decide) (by decide) ⟨by decide, by decide⟩ (Nat.lt_of_le_of_lt (Nat.le_of_eq (sh_N (b := 0) (n := 47) (q := 47) hB (KXs_61 B) rfl)) (by decide)) ?_
  rw [nw_L (sh_N (b := 0) (n := 47) (q := 47) hB (KXs_61 B) rfl), (sh_N (b := 0) (n := 47) (q := 47) hB (KXs_61 B) rfl)]
  show Ex _ _ 2 46 _ _ _ (KX62 B) _
  refine ex_putR (pc := 10) (index := 11) (ci := 5) (k := 1) (fin := true) (v := some 47) (by decide +kernel) ⟨_, _, _, _, cf_Law, by decide, in_t1 (i := 148) rfl rfl, rfl, (fun _ => rfl), rfl, rfl⟩ rfl (fun _ => rfl) (sh_L (b := 0) (n := 48) (i := 46) (j := 46) hB (KXs_62 B) rfl) ?_
  show Ex _ _ 2 46 _ _ _ (KX63 B) _
  refine ex_aload_n (pc := 13) (k := 0) (by decide +kernel) rfl ?_
  refine ex_iconst (pc := 14) (k := 0) (v := nI 0) (by decide +kernel) (by decide) ?_
  refine ex_putI (pc := 15) (index := 17) (ci := 5) (k := 2) (fin := false) (v := nI 0) (by decide +kernel) ⟨_, _, _, _, cf_Law, by decide, in_t1 (i := 149) rfl rfl, rfl, (fun h => by cases h), rfl, rfl⟩ rfl (fun h => by cases h) (sh_L (b := 0) (n := 48) (i := 46) (j := 46) hB (KXs_63 B) rfl) ?_
  show Ex _ _ 2 46 _ _ _ (KX64 B) _
  refine ex_aload_n (pc := 18) (k := 0) (by decide +kernel) rfl ?_
  refine ex_bipush (pc := 19) (k := 6) (v := nI 6) (by decide +kernel) (by decide) ?_
  refine ex_newa_int (pc := 21) (N := 6) (by decide +kernel) (in_t1 (i := 99) rfl rfl) (by decide) (by decide) (by decide) ⟨by decide, by decide⟩ (Nat.lt_of_le_of_lt (Nat.le_of_eq (sh_N (b := 0) (n := 48) (q := 48) hB (KXs_64 B) rfl)) (by decide)) ?_
  rw [nw_L (sh_N (b := 0) (n := 48) (q := 48) hB (KXs_64 B) rfl), (sh_N (b := 0) (n := 48) (q := 48) hB (KXs_64 B) rfl)]
  show Ex _ _ 1 40 _ _ _ (KX65 B) _
  refine ex_putR (pc := 23) (index := 21) (ci := 5) (k := 3) (fin := true) (v := some 48) (by decide +kernel) ⟨_, _, _, _, cf_Law, by decide, in_t1 (i := 151) rfl rfl, rfl, (fun _ => rfl), rfl, rfl⟩ rfl (fun _ => rfl) (sh_L (b := 0) (n := 49) (i := 46) (j := 46) hB (KXs_65 B) rfl) ?_
  show Ex _ _ 1 40 _ _ _ (KX66 B) _
  refine ex_aload_n (pc := 26) (k := 0) (by decide +kernel) rfl ?_
  refine ex_bipush (pc := 27) (k := 40) (v := nI 40) (by decide +kernel) (by decide) ?_
  refine ex_newa_int (pc := 29) (N := 40) (by decide +kernel) (in_t1 (i := 99) rfl rfl) (by decide) (by decide) (by decide) ⟨by decide, by decide⟩ (Nat.lt_of_le_of_lt (Nat.le_of_eq (sh_N (b := 0) (n := 49) (q := 49) hB (KXs_66 B) rfl)) (by decide)) ?_
  rw [nw_L (sh_N (b := 0) (n := 49) (q := 49) hB (KXs_66 B) rfl), (sh_N (b := 0) (n := 49) (q := 49) hB (KXs_66 B) rfl)]
  show Ex _ _ 0 0 _ _ _ (KX67 B) _
  refine ex_putR (pc := 31) (index := 25) (ci := 5) (k := 4) (fin := true) (v := some 49) (by decide +kernel) ⟨_, _, _, _, cf_Law, by decide, in_t1 (i := 152) rfl rfl, rfl, (fun _ => rfl), rfl, rfl⟩ rfl (fun _ => rfl) (sh_L (b := 0) (n := 50) (i := 46) (j := 46) hB (KXs_67 B) rfl) ?_
  show Ex _ _ 0 0 _ _ _ (KX68 B) _
  refine ex_aload_n (pc := 34) (k := 0) (by decide +kernel) rfl ?_
  refine ex_aload_n (pc := 35) (k := 1) (by decide +kernel) rfl ?_
  refine ex_putR (pc := 36) (index := 28) (ci := 5) (k := 0) (fin := true) (v := some 1) (by decide +kernel) ⟨_, _, _, _, cf_Law, by decide, in_t1 (i := 147) rfl rfl, rfl, (fun _ => rfl), rfl, rfl⟩ rfl (fun _ => rfl) (sh_L (b := 0) (n := 50) (i := 46) (j := 46) hB (KXs_68 B) rfl) ?_
  show Ex _ _ 0 0 _ _ _ (KX69 B) _
  exact ex_return (pc := 39) (by decide +kernel) rfl ⟨rfl, h⟩
def KX70 (B : Mem) : Mem := wr (KX69 B) 0 4 (some 46)
theorem KXs_70 (B : Mem) : sh (KX70 B) = sh B ++ (shT.drop 0).take 50 := (sh_wr _ _ _ _).trans (KXs_69 B)
def KX71 (B : Mem) : Mem := nwL (KX70 B) 50 105 12
theorem KXs_71 (B : Mem) : sh (KX71 B) = sh B ++ (shT.drop 0).take 51 := sh_st (KXs_70 B) (by decide +kernel)
def KX72 (B : Mem) : Mem := wr (KX71 B) 0 5 (some 50)
theorem KXs_72 (B : Mem) : sh (KX72 B) = sh B ++ (shT.drop 0).take 51 := (sh_wr _ _ _ _).trans (KXs_71 B)
def KX73 (B : Mem) : Mem := wi (KX72 B) 0 6 (nI 0)
theorem KXs_73 (B : Mem) : sh (KX73 B) = sh B ++ (shT.drop 0).take 51 := (sh_wi _ _ _ _).trans (KXs_72 B)
def KX74 (B : Mem) : Mem := nwL (KX73 B) 51 1 4
theorem KXs_74 (B : Mem) : sh (KX74 B) = sh B ++ (shT.drop 0).take 52 := sh_st (KXs_73 B) (by decide +kernel)
def KX75 (B : Mem) : Mem := nwL (KX74 B) 52 100 6
theorem KXs_75 (B : Mem) : sh (KX75 B) = sh B ++ (shT.drop 0).take 53 := sh_st (KXs_74 B) (by decide +kernel)
def KX76 (B : Mem) : Mem := wr (KX75 B) 51 2 (some 52)
theorem KXs_76 (B : Mem) : sh (KX76 B) = sh B ++ (shT.drop 0).take 53 := (sh_wr _ _ _ _).trans (KXs_75 B)
def KX77 (B : Mem) : Mem := wr (KX76 B) 51 3 none
theorem KXs_77 (B : Mem) : sh (KX77 B) = sh B ++ (shT.drop 0).take 53 := (sh_wr _ _ _ _).trans (KXs_76 B)
def KX78 (B : Mem) : Mem := wr (KX77 B) 51 0 (some 1)
theorem KXs_78 (B : Mem) : sh (KX78 B) = sh B ++ (shT.drop 0).take 53 := (sh_wr _ _ _ _).trans (KXs_77 B)
def KX79 (B : Mem) : Mem := wr (KX78 B) 51 1 (some 46)
theorem KXs_79 (B : Mem) : sh (KX79 B) = sh B ++ (shT.drop 0).take 53 := (sh_wr _ _ _ _).trans (KXs_78 B)
theorem KX_c51 {d : Nat} {B : Mem} {K : Mem → Prop} (hB : (sh B).length = 0) (h : K (KX79 B)) : Con (d + 1) m_Fair_init 1 6 [.ref 51, .ref 1, .ref 46] (KX74 B) (PV K) := by
  refine Con.of (lo := [some (.ref 51), some (.ref 1), some (.ref 46)]) F_Fair_init.1 rfl (Nat.le_of_ble_eq_true rfl) ?_
  refine ex_aload_n (pc := 0) (k := 0) (by decide +kernel) rfl ?_
  refine ex_objInit (pc := 1) (by decide +kernel) (in_t1 (i := 171) rfl rfl) (Nat.le_of_ble_eq_true rfl) (Nat.succ_le_succ (Nat.zero_le _)) ?_
  refine ex_aload_n (pc := 4) (k := 0) (by decide +kernel) rfl ?_
  refine ex_bipush (pc := 5) (k := 6) (v := nI 6) (by decide +kernel) (by decide) ?_
  refine ex_newa_int (pc := 7) (N := 6) (by decide +kernel) (in_t1 (i := 99) rfl rfl) (by decide) (by decide) (by decide) ⟨by decide, by decide⟩ (Nat.lt_of_le_of_lt (Nat.le_of_eq (sh_N (b := 0) (n := 52) (q := 52) hB (KXs_74 B) rfl)) (by decide)) ?_
  rw [nw_L (sh_N (b := 0) (n := 52) (q := 52) hB (KXs_74 B) rfl), (sh_N (b := 0) (n := 52) (q := 52) hB (KXs_74 B) rfl)]
  show Ex _ _ 0 0 _ _ _ (KX75 B) _
  refine ex_putR (pc := 9) (index := 9) (ci := 1) (k := 2) (fin := true) (v := some 52) (by decide +kernel) ⟨_, _, _, _, cf_Fair, by decide, in_t1 (i := 174) rfl rfl, rfl, (fun _ => rfl), rfl, rfl⟩ rfl (fun _ => rfl) (sh_L (b := 0) (n := 53) (i := 51) (j := 51) hB (KXs_75 B) rfl) ?_
  show Ex _ _ 0 0 _ _ _ (KX76 B) _
  refine ex_aload_n (pc := 12) (k := 0) (by decide +kernel) rfl ?_
  refine ex_null (pc := 13) (by decide +kernel) ?_
  refine ex_putR (pc := 14) (index := 15) (ci := 1) (k := 3) (fin := false) (v := none) (by decide +kernel) ⟨_, _, _, _, cf_Fair, by decide, in_t1 (i := 175) rfl rfl, rfl, (fun h => by cases h), rfl, rfl⟩ rfl (fun h => by cases h) (sh_L (b := 0) (n := 53) (i := 51) (j := 51) hB (KXs_76 B) rfl) ?_
  show Ex _ _ 0 0 _ _ _ (KX77 B) _
  refine ex_aload_n (pc := 17) (k := 0) (by decide +kernel) rfl ?_
  refine ex_aload_n (pc := 18) (k := 1) (by decide +kernel) rfl ?_
  refine ex_putR (pc := 19) (index := 19) (ci := 1) (k := 0) (fin := true) (v := some 1) (by decide +kernel) ⟨_, _, _, _, cf_Fair, by decide, in_t1 (i := 172) rfl rfl, rfl, (fun _ => rfl), rfl, rfl⟩ rfl (fun _ => rfl) (sh_L (b := 0) (n := 53) (i := 51) (j := 51) hB (KXs_77 B) rfl) ?_
  show Ex _ _ 0 0 _ _ _ (KX78 B) _
  refine ex_aload_n (pc := 22) (k := 0) (by decide +kernel) rfl ?_
  refine ex_aload_n (pc := 23) (k := 2) (by decide +kernel) rfl ?_
  refine ex_putR (pc := 24) (index := 23) (ci := 1) (k := 1) (fin := true) (v := some 46) (by decide +kernel) ⟨_, _, _, _, cf_Fair, by decide, in_t1 (i := 173) rfl rfl, rfl, (fun _ => rfl), rfl, rfl⟩ rfl (fun _ => rfl) (sh_L (b := 0) (n := 53) (i := 51) (j := 51) hB (KXs_78 B) rfl) ?_
  show Ex _ _ 0 0 _ _ _ (KX79 B) _
  exact ex_return (pc := 27) (by decide +kernel) rfl ⟨rfl, h⟩
def KX80 (B : Mem) : Mem := wr (KX79 B) 0 7 (some 51)
theorem KXs_80 (B : Mem) : sh (KX80 B) = sh B ++ (shT.drop 0).take 53 := (sh_wr _ _ _ _).trans (KXs_79 B)
def KX81 (B : Mem) : Mem := nwL (KX80 B) 53 2 8
theorem KXs_81 (B : Mem) : sh (KX81 B) = sh B ++ (shT.drop 0).take 54 := sh_st (KXs_80 B) (by decide +kernel)
def KX82 (B : Mem) : Mem := nwL (KX81 B) 54 100 6
theorem KXs_82 (B : Mem) : sh (KX82 B) = sh B ++ (shT.drop 0).take 55 := sh_st (KXs_81 B) (by decide +kernel)
def KX83 (B : Mem) : Mem := wr (KX82 B) 53 3 (some 54)
theorem KXs_83 (B : Mem) : sh (KX83 B) = sh B ++ (shT.drop 0).take 55 := (sh_wr _ _ _ _).trans (KXs_82 B)
def KX84 (B : Mem) : Mem := wi (KX83 B) 53 4 (nI 0)
theorem KXs_84 (B : Mem) : sh (KX84 B) = sh B ++ (shT.drop 0).take 55 := (sh_wi _ _ _ _).trans (KXs_83 B)
def KX85 (B : Mem) : Mem := nwL (KX84 B) 55 100 1764
theorem KXs_85 (B : Mem) : sh (KX85 B) = sh B ++ (shT.drop 0).take 56 := sh_st (KXs_84 B) (by decide +kernel)
def KX86 (B : Mem) : Mem := wr (KX85 B) 53 5 (some 55)
theorem KXs_86 (B : Mem) : sh (KX86 B) = sh B ++ (shT.drop 0).take 56 := (sh_wr _ _ _ _).trans (KXs_85 B)
def KX87 (B : Mem) : Mem := nwL (KX86 B) 56 100 384
theorem KXs_87 (B : Mem) : sh (KX87 B) = sh B ++ (shT.drop 0).take 57 := sh_st (KXs_86 B) (by decide +kernel)
def KX88 (B : Mem) : Mem := wr (KX87 B) 53 6 (some 56)
theorem KXs_88 (B : Mem) : sh (KX88 B) = sh B ++ (shT.drop 0).take 57 := (sh_wr _ _ _ _).trans (KXs_87 B)
def KX89 (B : Mem) : Mem := nwL (KX88 B) 57 100 7
theorem KXs_89 (B : Mem) : sh (KX89 B) = sh B ++ (shT.drop 0).take 58 := sh_st (KXs_88 B) (by decide +kernel)
def KX90 (B : Mem) : Mem := wr (KX89 B) 53 7 (some 57)
theorem KXs_90 (B : Mem) : sh (KX90 B) = sh B ++ (shT.drop 0).take 58 := (sh_wr _ _ _ _).trans (KXs_89 B)
def KX91 (B : Mem) : Mem := wr (KX90 B) 53 0 (some 1)
theorem KXs_91 (B : Mem) : sh (KX91 B) = sh B ++ (shT.drop 0).take 58 := (sh_wr _ _ _ _).trans (KXs_90 B)
def KX92 (B : Mem) : Mem := wr (KX91 B) 53 1 (some 46)
theorem KXs_92 (B : Mem) : sh (KX92 B) = sh B ++ (shT.drop 0).take 58 := (sh_wr _ _ _ _).trans (KXs_91 B)
def KX93 (B : Mem) : Mem := nwL (KX92 B) 58 10 9
theorem KXs_93 (B : Mem) : sh (KX93 B) = sh B ++ (shT.drop 0).take 59 := sh_st (KXs_92 B) (by decide +kernel)
def KX94 (B : Mem) : Mem := wi (KX93 B) 58 2 (nI 6)
theorem KXs_94 (B : Mem) : sh (KX94 B) = sh B ++ (shT.drop 0).take 59 := (sh_wi _ _ _ _).trans (KXs_93 B)
def KX95 (B : Mem) : Mem := nwL (KX94 B) 59 100 6
theorem KXs_95 (B : Mem) : sh (KX95 B) = sh B ++ (shT.drop 0).take 60 := sh_st (KXs_94 B) (by decide +kernel)
def KX96 (B : Mem) : Mem := wr (KX95 B) 58 3 (some 59)
theorem KXs_96 (B : Mem) : sh (KX96 B) = sh B ++ (shT.drop 0).take 60 := (sh_wr _ _ _ _).trans (KXs_95 B)
def KX97 (B : Mem) : Mem := nwL (KX96 B) 60 100 6
theorem KXs_97 (B : Mem) : sh (KX97 B) = sh B ++ (shT.drop 0).take 61 := sh_st (KXs_96 B) (by decide +kernel)
def KX98 (B : Mem) : Mem := wr (KX97 B) 58 4 (some 60)
theorem KXs_98 (B : Mem) : sh (KX98 B) = sh B ++ (shT.drop 0).take 61 := (sh_wr _ _ _ _).trans (KXs_97 B)
def KX99 (B : Mem) : Mem := wi (KX98 B) 58 5 (nI 0)
theorem KXs_99 (B : Mem) : sh (KX99 B) = sh B ++ (shT.drop 0).take 61 := (sh_wi _ _ _ _).trans (KXs_98 B)
def KX100 (B : Mem) : Mem := nwL (KX99 B) 61 100 6
theorem KXs_100 (B : Mem) : sh (KX100 B) = sh B ++ (shT.drop 0).take 62 := sh_st (KXs_99 B) (by decide +kernel)
def KX101 (B : Mem) : Mem := wr (KX100 B) 58 6 (some 61)
theorem KXs_101 (B : Mem) : sh (KX101 B) = sh B ++ (shT.drop 0).take 62 := (sh_wr _ _ _ _).trans (KXs_100 B)
def KX102 (B : Mem) : Mem := nwL (KX101 B) 62 100 6
theorem KXs_102 (B : Mem) : sh (KX102 B) = sh B ++ (shT.drop 0).take 63 := sh_st (KXs_101 B) (by decide +kernel)
def KX103 (B : Mem) : Mem := wr (KX102 B) 58 7 (some 62)
theorem KXs_103 (B : Mem) : sh (KX103 B) = sh B ++ (shT.drop 0).take 63 := (sh_wr _ _ _ _).trans (KXs_102 B)
def KX104 (B : Mem) : Mem := wi (KX103 B) 58 8 (nI 0)
theorem KXs_104 (B : Mem) : sh (KX104 B) = sh B ++ (shT.drop 0).take 63 := (sh_wi _ _ _ _).trans (KXs_103 B)
def KX105 (B : Mem) : Mem := wr (KX104 B) 58 0 (some 1)
theorem KXs_105 (B : Mem) : sh (KX105 B) = sh B ++ (shT.drop 0).take 63 := (sh_wr _ _ _ _).trans (KXs_104 B)
def KX106 (B : Mem) : Mem := wr (KX105 B) 58 1 (some 46)
theorem KXs_106 (B : Mem) : sh (KX106 B) = sh B ++ (shT.drop 0).take 63 := (sh_wr _ _ _ _).trans (KXs_105 B)
theorem KX_c58 {d : Nat} {B : Mem} {K : Mem → Prop} (hB : (sh B).length = 0) (h : K (KX106 B)) : Con (d + 1) m_Ways_init 4 24 [.ref 58, .ref 1, .ref 46] (KX93 B) (PV K) := by
  refine Con.of (lo := [some (.ref 58), some (.ref 1), some (.ref 46)]) F_Ways_init.1 rfl (Nat.le_of_ble_eq_true rfl) ?_
  refine ex_aload_n (pc := 0) (k := 0) (by decide +kernel) rfl ?_
  refine ex_objInit (pc := 1) (by decide +kernel) (in_t1 (i := 196) rfl rfl) (Nat.le_of_ble_eq_true rfl) (Nat.succ_le_succ (Nat.zero_le _)) ?_
  refine ex_aload_n (pc := 4) (k := 0) (by decide +kernel) rfl ?_
  refine ex_bipush (pc := 5) (k := 6) (v := nI 6) (by decide +kernel) (by decide) ?_
  refine ex_putI (pc := 7) (index := 9) (ci := 10) (k := 2) (fin := false) (v := nI 6) (by decide +kernel) ⟨_, _, _, _, cf_Ways, by decide, in_t1 (i := 199) rfl rfl, rfl, (fun h => by cases h), rfl, rfl⟩ rfl (fun h => by cases h) (sh_L (b := 0) (n := 59) (i := 58) (j := 58) hB (KXs_93 B) rfl) ?_
  show Ex _ _ 4 24 _ _ _ (KX94 B) _
  refine ex_aload_n (pc := 10) (k := 0) (by decide +kernel) rfl ?_
  refine ex_bipush (pc := 11) (k := 6) (v := nI 6) (by decide +kernel) (by decide) ?_
  refine ex_newa_int (pc := 13) (N := 6) (by decide +kernel) (in_t1 (i := 99) rfl rfl) (by decide) (by decide) (by decide) ⟨by decide, by decide⟩ (Nat.lt_of_le_of_lt (Nat.le_of_eq (sh_N (b := 0) (n := 59) (q := 59) hB (KXs_94 B) rfl)) (by decide)) ?_
  rw [nw_L (sh_N (b := 0) (n := 59) (q := 59) hB (KXs_94 B) rfl), (sh_N (b := 0) (n := 59) (q := 59) hB (KXs_94 B) rfl)]
  show Ex _ _ 3 18 _ _ _ (KX95 B) _
  refine ex_putR (pc := 15) (index := 15) (ci := 10) (k := 3) (fin := true) (v := some 59) (by decide +kernel) ⟨_, _, _, _, cf_Ways, by decide, in_t1 (i := 200) rfl rfl, rfl, (fun _ => rfl), rfl, rfl⟩ rfl (fun _ => rfl) (sh_L (b := 0) (n := 60) (i := 58) (j := 58) hB (KXs_95 B) rfl) ?_
  show Ex _ _ 3 18 _ _ _ (KX96 B) _
  refine ex_aload_n (pc := 18) (k := 0) (by decide +kernel) rfl ?_
  refine ex_bipush (pc := 19) (k := 6) (v := nI 6) (by decide +kernel) (by decide) ?_
  refine ex_newa_int (pc := 21) (N := 6) (by decide +kernel) (in_t1 (i := 99) rfl rfl) (by decide) (by decide) (by decide) ⟨by decide, by decide⟩ (Nat.lt_of_le_of_lt (Nat.le_of_eq (sh_N (b := 0) (n := 60) (q := 60) hB (KXs_96 B) rfl)) (by decide)) ?_
  rw [nw_L (sh_N (b := 0) (n := 60) (q := 60) hB (KXs_96 B) rfl), (sh_N (b := 0) (n := 60) (q := 60) hB (KXs_96 B) rfl)]
  show Ex _ _ 2 12 _ _ _ (KX97 B) _
  refine ex_putR (pc := 23) (index := 19) (ci := 10) (k := 4) (fin := true) (v := some 60) (by decide +kernel) ⟨_, _, _, _, cf_Ways, by decide, in_t1 (i := 201) rfl rfl, rfl, (fun _ => rfl), rfl, rfl⟩ rfl (fun _ => rfl) (sh_L (b := 0) (n := 61) (i := 58) (j := 58) hB (KXs_97 B) rfl) ?_
  show Ex _ _ 2 12 _ _ _ (KX98 B) _
  refine ex_aload_n (pc := 26) (k := 0) (by decide +kernel) rfl ?_
  refine ex_iconst (pc := 27) (k := 0) (v := nI 0) (by decide +kernel) (by decide) ?_
  refine ex_putI (pc := 28) (index := 22) (ci := 10) (k := 5) (fin := false) (v := nI 0) (by decide +kernel) ⟨_, _, _, _, cf_Ways, by decide, in_t1 (i := 202) rfl rfl, rfl, (fun h => by cases h), rfl, rfl⟩ rfl (fun h => by cases h) (sh_L (b := 0) (n := 61) (i := 58) (j := 58) hB (KXs_98 B) rfl) ?_
  show Ex _ _ 2 12 _ _ _ (KX99 B) _
  refine ex_aload_n (pc := 31) (k := 0) (by decide +kernel) rfl ?_
  refine ex_bipush (pc := 32) (k := 6) (v := nI 6) (by decide +kernel) (by decide) ?_
  refine ex_newa_int (pc := 34) (N := 6) (by decide +kernel) (in_t1 (i := 99) rfl rfl) (by decide) (by decide) (by decide) ⟨by decide, by decide⟩ (Nat.lt_of_le_of_lt (Nat.le_of_eq (sh_N (b := 0) (n := 61) (q := 61) hB (KXs_99 B) rfl)) (by decide)) ?_
  rw [nw_L (sh_N (b := 0) (n := 61) (q := 61) hB (KXs_99 B) rfl), (sh_N (b := 0) (n := 61) (q := 61) hB (KXs_99 B) rfl)]
  show Ex _ _ 1 6 _ _ _ (KX100 B) _
  refine ex_putR (pc := 36) (index := 25) (ci := 10) (k := 6) (fin := true) (v := some 61) (by decide +kernel) ⟨_, _, _, _, cf_Ways, by decide, in_t1 (i := 203) rfl rfl, rfl, (fun _ => rfl), rfl, rfl⟩ rfl (fun _ => rfl) (sh_L (b := 0) (n := 62) (i := 58) (j := 58) hB (KXs_100 B) rfl) ?_
  show Ex _ _ 1 6 _ _ _ (KX101 B) _
  refine ex_aload_n (pc := 39) (k := 0) (by decide +kernel) rfl ?_
  refine ex_bipush (pc := 40) (k := 6) (v := nI 6) (by decide +kernel) (by decide) ?_
  refine ex_newa_int (pc := 42) (N := 6) (by decide +kernel) (in_t1 (i := 99) rfl rfl) (by decide) (by decide) (by decide) ⟨by decide, by decide⟩ (Nat.lt_of_le_of_lt (Nat.le_of_eq (sh_N (b := 0) (n := 62) (q := 62) hB (KXs_101 B) rfl)) (by decide)) ?_
  rw [nw_L (sh_N (b := 0) (n := 62) (q := 62) hB (KXs_101 B) rfl), (sh_N (b := 0) (n := 62) (q := 62) hB (KXs_101 B) rfl)]
  show Ex _ _ 0 0 _ _ _ (KX102 B) _
  refine ex_putR (pc := 44) (index := 28) (ci := 10) (k := 7) (fin := true) (v := some 62) (by decide +kernel) ⟨_, _, _, _, cf_Ways, by decide, in_t1 (i := 204) rfl rfl, rfl, (fun _ => rfl), rfl, rfl⟩ rfl (fun _ => rfl) (sh_L (b := 0) (n := 63) (i := 58) (j := 58) hB (KXs_102 B) rfl) ?_
  show Ex _ _ 0 0 _ _ _ (KX103 B) _
  refine ex_aload_n (pc := 47) (k := 0) (by decide +kernel) rfl ?_
  refine ex_iconst (pc := 48) (k := 0) (v := nI 0) (by decide +kernel) (by decide) ?_
  refine ex_putI (pc := 49) (index := 31) (ci := 10) (k := 8) (fin := false) (v := nI 0) (by decide +kernel) ⟨_, _, _, _, cf_Ways, by decide, in_t1 (i := 206) rfl rfl, rfl, (fun h => by cases h), by decide, rfl⟩ rfl (fun h => by cases h) (sh_L (b := 0) (n := 63) (i := 58) (j := 58) hB (KXs_103 B) rfl) ?_
  show Ex _ _ 0 0 _ _ _ (KX104 B) _
  refine ex_aload_n (pc := 52) (k := 0) (by decide +kernel) rfl ?_
  refine ex_aload_n (pc := 53) (k := 1) (by decide +kernel) rfl ?_
  refine ex_putR (pc := 54) (index := 35) (ci := 10) (k := 0) (fin := true) (v := some 1) (by decide +kernel) ⟨_, _, _, _, cf_Ways, by decide, in_t1 (i := 197) rfl rfl, rfl, (fun _ => rfl), rfl, rfl⟩ rfl (fun _ => rfl) (sh_L (b := 0) (n := 63) (i := 58) (j := 58) hB (KXs_104 B) rfl) ?_
  show Ex _ _ 0 0 _ _ _ (KX105 B) _
  refine ex_aload_n (pc := 57) (k := 0) (by decide +kernel) rfl ?_
  refine ex_aload_n (pc := 58) (k := 2) (by decide +kernel) rfl ?_
  refine ex_putR (pc := 59) (index := 39) (ci := 10) (k := 1) (fin := true) (v := some 46) (by decide +kernel) ⟨_, _, _, _, cf_Ways, by decide, in_t1 (i := 198) rfl rfl, rfl, (fun _ => rfl), rfl, rfl⟩ rfl (fun _ => rfl) (sh_L (b := 0) (n := 63) (i := 58) (j := 58) hB (KXs_105 B) rfl) ?_
  show Ex _ _ 0 0 _ _ _ (KX106 B) _
  exact ex_return (pc := 62) (by decide +kernel) rfl ⟨rfl, h⟩
def KX107 (B : Mem) : Mem := wr (KX106 B) 53 2 (some 58)
theorem KXs_107 (B : Mem) : sh (KX107 B) = sh B ++ (shT.drop 0).take 63 := (sh_wr _ _ _ _).trans (KXs_106 B)
theorem KX_c53 {d : Nat} {B : Mem} {K : Mem → Prop} (hB : (sh B).length = 0) (h : K (KX107 B)) : Con (d + 2) m_Finder_init 9 2194 [.ref 53, .ref 1, .ref 46] (KX81 B) (PV K) := by
  refine Con.of (lo := [some (.ref 53), some (.ref 1), some (.ref 46)]) F_Finder_init.1 rfl (Nat.le_of_ble_eq_true rfl) ?_
  refine ex_aload_n (pc := 0) (k := 0) (by decide +kernel) rfl ?_
  refine ex_objInit (pc := 1) (by decide +kernel) (in_t1 (i := 190) rfl rfl) (Nat.le_of_ble_eq_true rfl) (Nat.succ_le_succ (Nat.zero_le _)) ?_
  refine ex_aload_n (pc := 4) (k := 0) (by decide +kernel) rfl ?_
  refine ex_bipush (pc := 5) (k := 6) (v := nI 6) (by decide +kernel) (by decide) ?_
  refine ex_newa_int (pc := 7) (N := 6) (by decide +kernel) (in_t1 (i := 99) rfl rfl) (by decide) (by decide) (by decide) ⟨by decide, by decide⟩ (Nat.lt_of_le_of_lt (Nat.le_of_eq (sh_N (b := 0) (n := 54) (q := 54) hB (KXs_81 B) rfl)) (by decide)) ?_
  rw [nw_L (sh_N (b := 0) (n := 54) (q := 54) hB (KXs_81 B) rfl), (sh_N (b := 0) (n := 54) (q := 54) hB (KXs_81 B) rfl)]
  show Ex _ _ 8 2188 _ _ _ (KX82 B) _
  refine ex_putR (pc := 9) (index := 9) (ci := 2) (k := 3) (fin := true) (v := some 54) (by decide +kernel) ⟨_, _, _, _, cf_Finder, by decide, in_t1 (i := 229) rfl rfl, rfl, (fun _ => rfl), rfl, rfl⟩ rfl (fun _ => rfl) (sh_L (b := 0) (n := 55) (i := 53) (j := 53) hB (KXs_82 B) rfl) ?_
  show Ex _ _ 8 2188 _ _ _ (KX83 B) _
  refine ex_aload_n (pc := 12) (k := 0) (by decide +kernel) rfl ?_
  refine ex_iconst (pc := 13) (k := 0) (v := nI 0) (by decide +kernel) (by decide) ?_
  refine ex_putI (pc := 14) (index := 15) (ci := 2) (k := 4) (fin := false) (v := nI 0) (by decide +kernel) ⟨_, _, _, _, cf_Finder, by decide, in_t1 (i := 231) rfl rfl, rfl, (fun h => by cases h), rfl, rfl⟩ rfl (fun h => by cases h) (sh_L (b := 0) (n := 55) (i := 53) (j := 53) hB (KXs_83 B) rfl) ?_
  show Ex _ _ 8 2188 _ _ _ (KX84 B) _
  refine ex_aload_n (pc := 17) (k := 0) (by decide +kernel) rfl ?_
  refine ex_sipush (pc := 18) (k := 1764) (v := nI 1764) (by decide +kernel) (by decide) ?_
  refine ex_newa_int (pc := 21) (N := 1764) (by decide +kernel) (in_t1 (i := 99) rfl rfl) (by decide) (by decide) (by decide) ⟨by decide, by decide⟩ (Nat.lt_of_le_of_lt (Nat.le_of_eq (sh_N (b := 0) (n := 55) (q := 55) hB (KXs_84 B) rfl)) (by decide)) ?_
  rw [nw_L (sh_N (b := 0) (n := 55) (q := 55) hB (KXs_84 B) rfl), (sh_N (b := 0) (n := 55) (q := 55) hB (KXs_84 B) rfl)]
  show Ex _ _ 7 424 _ _ _ (KX85 B) _
  refine ex_putR (pc := 23) (index := 19) (ci := 2) (k := 5) (fin := true) (v := some 55) (by decide +kernel) ⟨_, _, _, _, cf_Finder, by decide, in_t1 (i := 233) rfl rfl, rfl, (fun _ => rfl), rfl, rfl⟩ rfl (fun _ => rfl) (sh_L (b := 0) (n := 56) (i := 53) (j := 53) hB (KXs_85 B) rfl) ?_
  show Ex _ _ 7 424 _ _ _ (KX86 B) _
  refine ex_aload_n (pc := 26) (k := 0) (by decide +kernel) rfl ?_
  refine ex_sipush (pc := 27) (k := 384) (v := nI 384) (by decide +kernel) (by decide) ?_
  refine ex_newa_int (pc := 30) (N := 384) (by decide +kernel) (in_t1 (i := 99) rfl rfl) (by decide) (by decide) (by decide) ⟨by decide, by decide⟩ (Nat.lt_of_le_of_lt (Nat.le_of_eq (sh_N (b := 0) (n := 56) (q := 56) hB (KXs_86 B) rfl)) (by decide)) ?_
  rw [nw_L (sh_N (b := 0) (n := 56) (q := 56) hB (KXs_86 B) rfl), (sh_N (b := 0) (n := 56) (q := 56) hB (KXs_86 B) rfl)]
  show Ex _ _ 6 40 _ _ _ (KX87 B) _
  refine ex_putR (pc := 32) (index := 22) (ci := 2) (k := 6) (fin := true) (v := some 56) (by decide +kernel) ⟨_, _, _, _, cf_Finder, by decide, in_t1 (i := 234) rfl rfl, rfl, (fun _ => rfl), rfl, rfl⟩ rfl (fun _ => rfl) (sh_L (b := 0) (n := 57) (i := 53) (j := 53) hB (KXs_87 B) rfl) ?_
  show Ex _ _ 6 40 _ _ _ (KX88 B) _
  refine ex_aload_n (pc := 35) (k := 0) (by decide +kernel) rfl ?_
  refine ex_bipush (pc := 36) (k := 7) (v := nI 7) (by decide +kernel) (by decide) ?_
  refine ex_newa_int (pc := 38) (N := 7) (by decide +kernel) (in_t1 (i := 99) rfl rfl) (by decide) (by decide) (by decide) ⟨by decide, by decide⟩ (Nat.lt_of_le_of_lt (Nat.le_of_eq (sh_N (b := 0) (n := 57) (q := 57) hB (KXs_88 B) rfl)) (by decide)) ?_
  rw [nw_L (sh_N (b := 0) (n := 57) (q := 57) hB (KXs_88 B) rfl), (sh_N (b := 0) (n := 57) (q := 57) hB (KXs_88 B) rfl)]
  show Ex _ _ 5 33 _ _ _ (KX89 B) _
  refine ex_putR (pc := 40) (index := 25) (ci := 2) (k := 7) (fin := true) (v := some 57) (by decide +kernel) ⟨_, _, _, _, cf_Finder, by decide, in_t1 (i := 235) rfl rfl, rfl, (fun _ => rfl), rfl, rfl⟩ rfl (fun _ => rfl) (sh_L (b := 0) (n := 58) (i := 53) (j := 53) hB (KXs_89 B) rfl) ?_
  show Ex _ _ 5 33 _ _ _ (KX90 B) _
  refine ex_aload_n (pc := 43) (k := 0) (by decide +kernel) rfl ?_
  refine ex_aload_n (pc := 44) (k := 1) (by decide +kernel) rfl ?_
  refine ex_putR (pc := 45) (index := 28) (ci := 2) (k := 0) (fin := true) (v := some 1) (by decide +kernel) ⟨_, _, _, _, cf_Finder, by decide, in_t1 (i := 226) rfl rfl, rfl, (fun _ => rfl), rfl, rfl⟩ rfl (fun _ => rfl) (sh_L (b := 0) (n := 58) (i := 53) (j := 53) hB (KXs_90 B) rfl) ?_
  show Ex _ _ 5 33 _ _ _ (KX91 B) _
  refine ex_aload_n (pc := 48) (k := 0) (by decide +kernel) rfl ?_
  refine ex_aload_n (pc := 49) (k := 2) (by decide +kernel) rfl ?_
  refine ex_putR (pc := 50) (index := 32) (ci := 2) (k := 1) (fin := true) (v := some 46) (by decide +kernel) ⟨_, _, _, _, cf_Finder, by decide, in_t1 (i := 227) rfl rfl, rfl, (fun _ => rfl), rfl, rfl⟩ rfl (fun _ => rfl) (sh_L (b := 0) (n := 58) (i := 53) (j := 53) hB (KXs_91 B) rfl) ?_
  show Ex _ _ 5 33 _ _ _ (KX92 B) _
  refine ex_aload_n (pc := 53) (k := 0) (by decide +kernel) rfl ?_
  refine ex_new (pc := 54) (by decide +kernel) (in_t1 (i := 191) rfl rfl) (in_t1 (i := 192) rfl rfl) (in_t1 (i := 7) rfl rfl) cf_Ways udv_Ways ⟨by decide, by decide⟩ (Nat.lt_of_le_of_lt (Nat.le_of_eq (sh_N (b := 0) (n := 58) (q := 58) hB (KXs_92 B) rfl)) (by decide)) ?_
  rw [nw_L (sh_N (b := 0) (n := 58) (q := 58) hB (KXs_92 B) rfl), (sh_N (b := 0) (n := 58) (q := 58) hB (KXs_92 B) rfl)]
  show Ex _ _ 4 24 _ _ _ (KX93 B) _
  refine ex_dup (pc := 57) (by decide +kernel) rfl ?_
  refine ex_aload_n (pc := 58) (k := 1) (by decide +kernel) rfl ?_
  refine ex_aload_n (pc := 59) (k := 2) (by decide +kernel) rfl ?_
  refine ex_callI (pc := 60) (as := [.ref 1, .ref 46]) (by decide +kernel) F_Ways_init (in_t1 (i := 193) rfl rfl) rfl rfl rfl (Nat.le_of_ble_eq_true rfl) (Nat.lt_succ_self _) ⟨by decide, by decide⟩ (KC_V (KX_c58 (B := B) hB ?_))
  show Ex _ _ 0 0 _ _ _ (KX106 B) _
  refine ex_putR (pc := 63) (index := 41) (ci := 2) (k := 2) (fin := true) (v := some 58) (by decide +kernel) ⟨_, _, _, _, cf_Finder, by decide, in_t1 (i := 228) rfl rfl, rfl, (fun _ => rfl), rfl, rfl⟩ rfl (fun _ => rfl) (sh_L (b := 0) (n := 63) (i := 53) (j := 53) hB (KXs_106 B) rfl) ?_
  show Ex _ _ 0 0 _ _ _ (KX107 B) _
  exact ex_return (pc := 66) (by decide +kernel) rfl ⟨rfl, h⟩
def KX108 (B : Mem) : Mem := wr (KX107 B) 0 8 (some 53)
theorem KXs_108 (B : Mem) : sh (KX108 B) = sh B ++ (shT.drop 0).take 63 := (sh_wr _ _ _ _).trans (KXs_107 B)
def KX109 (B : Mem) : Mem := nwL (KX108 B) 63 6 5
theorem KXs_109 (B : Mem) : sh (KX109 B) = sh B ++ (shT.drop 0).take 64 := sh_st (KXs_108 B) (by decide +kernel)
def KX110 (B : Mem) : Mem := nwL (KX109 B) 64 100 7
theorem KXs_110 (B : Mem) : sh (KX110 B) = sh B ++ (shT.drop 0).take 65 := sh_st (KXs_109 B) (by decide +kernel)
def KX111 (B : Mem) : Mem := wr (KX110 B) 63 2 (some 64)
theorem KXs_111 (B : Mem) : sh (KX111 B) = sh B ++ (shT.drop 0).take 65 := (sh_wr _ _ _ _).trans (KXs_110 B)
def KX112 (B : Mem) : Mem := wi (KX111 B) 63 3 (nI 0)
theorem KXs_112 (B : Mem) : sh (KX112 B) = sh B ++ (shT.drop 0).take 65 := (sh_wi _ _ _ _).trans (KXs_111 B)
def KX113 (B : Mem) : Mem := nwL (KX112 B) 65 100 42
theorem KXs_113 (B : Mem) : sh (KX113 B) = sh B ++ (shT.drop 0).take 66 := sh_st (KXs_112 B) (by decide +kernel)
def KX114 (B : Mem) : Mem := wr (KX113 B) 63 4 (some 65)
theorem KXs_114 (B : Mem) : sh (KX114 B) = sh B ++ (shT.drop 0).take 66 := (sh_wr _ _ _ _).trans (KXs_113 B)
def KX115 (B : Mem) : Mem := wr (KX114 B) 63 0 (some 1)
theorem KXs_115 (B : Mem) : sh (KX115 B) = sh B ++ (shT.drop 0).take 66 := (sh_wr _ _ _ _).trans (KXs_114 B)
def KX116 (B : Mem) : Mem := wr (KX115 B) 63 1 (some 51)
theorem KXs_116 (B : Mem) : sh (KX116 B) = sh B ++ (shT.drop 0).take 66 := (sh_wr _ _ _ _).trans (KXs_115 B)
theorem KX_c63 {d : Nat} {B : Mem} {K : Mem → Prop} (hB : (sh B).length = 0) (h : K (KX116 B)) : Con (d + 1) m_Pedlar_init 2 49 [.ref 63, .ref 1, .ref 51] (KX109 B) (PV K) := by
  refine Con.of (lo := [some (.ref 63), some (.ref 1), some (.ref 51)]) F_Pedlar_init.1 rfl (Nat.le_of_ble_eq_true rfl) ?_
  refine ex_aload_n (pc := 0) (k := 0) (by decide +kernel) rfl ?_
  refine ex_objInit (pc := 1) (by decide +kernel) (in_t2 (i := 18) rfl rfl) (Nat.le_of_ble_eq_true rfl) (Nat.succ_le_succ (Nat.zero_le _)) ?_
  refine ex_aload_n (pc := 4) (k := 0) (by decide +kernel) rfl ?_
  refine ex_bipush (pc := 5) (k := 7) (v := nI 7) (by decide +kernel) (by decide) ?_
  refine ex_newa_int (pc := 7) (N := 7) (by decide +kernel) (in_t1 (i := 99) rfl rfl) (by decide) (by decide) (by decide) ⟨by decide, by decide⟩ (Nat.lt_of_le_of_lt (Nat.le_of_eq (sh_N (b := 0) (n := 64) (q := 64) hB (KXs_109 B) rfl)) (by decide)) ?_
  rw [nw_L (sh_N (b := 0) (n := 64) (q := 64) hB (KXs_109 B) rfl), (sh_N (b := 0) (n := 64) (q := 64) hB (KXs_109 B) rfl)]
  show Ex _ _ 1 42 _ _ _ (KX110 B) _
  refine ex_putR (pc := 9) (index := 9) (ci := 6) (k := 2) (fin := true) (v := some 64) (by decide +kernel) ⟨_, _, _, _, cf_Pedlar, by decide, in_t2 (i := 21) rfl rfl, rfl, (fun _ => rfl), rfl, rfl⟩ rfl (fun _ => rfl) (sh_L (b := 0) (n := 65) (i := 63) (j := 63) hB (KXs_110 B) rfl) ?_
  show Ex _ _ 1 42 _ _ _ (KX111 B) _
  refine ex_aload_n (pc := 12) (k := 0) (by decide +kernel) rfl ?_
  refine ex_iconst (pc := 13) (k := 0) (v := nI 0) (by decide +kernel) (by decide) ?_
  refine ex_putI (pc := 14) (index := 15) (ci := 6) (k := 3) (fin := false) (v := nI 0) (by decide +kernel) ⟨_, _, _, _, cf_Pedlar, by decide, in_t2 (i := 23) rfl rfl, rfl, (fun h => by cases h), rfl, rfl⟩ rfl (fun h => by cases h) (sh_L (b := 0) (n := 65) (i := 63) (j := 63) hB (KXs_111 B) rfl) ?_
  show Ex _ _ 1 42 _ _ _ (KX112 B) _
  refine ex_aload_n (pc := 17) (k := 0) (by decide +kernel) rfl ?_
  refine ex_bipush (pc := 18) (k := 42) (v := nI 42) (by decide +kernel) (by decide) ?_
  refine ex_newa_int (pc := 20) (N := 42) (by decide +kernel) (in_t1 (i := 99) rfl rfl) (by decide) (by decide) (by decide) ⟨by decide, by decide⟩ (Nat.lt_of_le_of_lt (Nat.le_of_eq (sh_N (b := 0) (n := 65) (q := 65) hB (KXs_112 B) rfl)) (by decide)) ?_
  rw [nw_L (sh_N (b := 0) (n := 65) (q := 65) hB (KXs_112 B) rfl), (sh_N (b := 0) (n := 65) (q := 65) hB (KXs_112 B) rfl)]
  show Ex _ _ 0 0 _ _ _ (KX113 B) _
  refine ex_putR (pc := 22) (index := 19) (ci := 6) (k := 4) (fin := true) (v := some 65) (by decide +kernel) ⟨_, _, _, _, cf_Pedlar, by decide, in_t2 (i := 25) rfl rfl, rfl, (fun _ => rfl), rfl, rfl⟩ rfl (fun _ => rfl) (sh_L (b := 0) (n := 66) (i := 63) (j := 63) hB (KXs_113 B) rfl) ?_
  show Ex _ _ 0 0 _ _ _ (KX114 B) _
  refine ex_aload_n (pc := 25) (k := 0) (by decide +kernel) rfl ?_
  refine ex_aload_n (pc := 26) (k := 1) (by decide +kernel) rfl ?_
  refine ex_putR (pc := 27) (index := 22) (ci := 6) (k := 0) (fin := true) (v := some 1) (by decide +kernel) ⟨_, _, _, _, cf_Pedlar, by decide, in_t2 (i := 19) rfl rfl, rfl, (fun _ => rfl), rfl, rfl⟩ rfl (fun _ => rfl) (sh_L (b := 0) (n := 66) (i := 63) (j := 63) hB (KXs_114 B) rfl) ?_
  show Ex _ _ 0 0 _ _ _ (KX115 B) _
  refine ex_aload_n (pc := 30) (k := 0) (by decide +kernel) rfl ?_
  refine ex_aload_n (pc := 31) (k := 2) (by decide +kernel) rfl ?_
  refine ex_putR (pc := 32) (index := 26) (ci := 6) (k := 1) (fin := true) (v := some 51) (by decide +kernel) ⟨_, _, _, _, cf_Pedlar, by decide, in_t2 (i := 20) rfl rfl, rfl, (fun _ => rfl), rfl, rfl⟩ rfl (fun _ => rfl) (sh_L (b := 0) (n := 66) (i := 63) (j := 63) hB (KXs_115 B) rfl) ?_
  show Ex _ _ 0 0 _ _ _ (KX116 B) _
  exact ex_return (pc := 35) (by decide +kernel) rfl ⟨rfl, h⟩
def KX117 (B : Mem) : Mem := wr (KX116 B) 0 9 (some 63)
theorem KXs_117 (B : Mem) : sh (KX117 B) = sh B ++ (shT.drop 0).take 66 := (sh_wr _ _ _ _).trans (KXs_116 B)
def KX118 (B : Mem) : Mem := nwL (KX117 B) 66 106 4
theorem KXs_118 (B : Mem) : sh (KX118 B) = sh B ++ (shT.drop 0).take 67 := sh_st (KXs_117 B) (by decide +kernel)
def KX119 (B : Mem) : Mem := wr (KX118 B) 0 10 (some 66)
theorem KXs_119 (B : Mem) : sh (KX119 B) = sh B ++ (shT.drop 0).take 67 := (sh_wr _ _ _ _).trans (KXs_118 B)
def KX120 (B : Mem) : Mem := nwL (KX119 B) 67 8 3
theorem KXs_120 (B : Mem) : sh (KX120 B) = sh B ++ (shT.drop 0).take 68 := sh_st (KXs_119 B) (by decide +kernel)
def KX121 (B : Mem) : Mem := nwL (KX120 B) 68 100 40
theorem KXs_121 (B : Mem) : sh (KX121 B) = sh B ++ (shT.drop 0).take 69 := sh_st (KXs_120 B) (by decide +kernel)
def KX122 (B : Mem) : Mem := wr (KX121 B) 67 0 (some 68)
theorem KXs_122 (B : Mem) : sh (KX122 B) = sh B ++ (shT.drop 0).take 69 := (sh_wr _ _ _ _).trans (KXs_121 B)
def KX123 (B : Mem) : Mem := wi (KX122 B) 67 1 (-1)
theorem KXs_123 (B : Mem) : sh (KX123 B) = sh B ++ (shT.drop 0).take 69 := (sh_wi _ _ _ _).trans (KXs_122 B)
def KX124 (B : Mem) : Mem := wi (KX123 B) 67 2 (nI 0)
theorem KXs_124 (B : Mem) : sh (KX124 B) = sh B ++ (shT.drop 0).take 69 := (sh_wi _ _ _ _).trans (KXs_123 B)
theorem KX_c67 {d : Nat} {B : Mem} {K : Mem → Prop} (hB : (sh B).length = 0) (h : K (KX124 B)) : Con (d + 1) m_Sheet_init 1 40 [.ref 67] (KX120 B) (PV K) := by
  refine Con.of (lo := [some (.ref 67)]) F_Sheet_init.1 rfl (Nat.le_of_ble_eq_true rfl) ?_
  refine ex_aload_n (pc := 0) (k := 0) (by decide +kernel) rfl ?_
  refine ex_objInit (pc := 1) (by decide +kernel) (in_t2 (i := 43) rfl rfl) (Nat.le_of_ble_eq_true rfl) (Nat.succ_le_succ (Nat.zero_le _)) ?_
  refine ex_aload_n (pc := 4) (k := 0) (by decide +kernel) rfl ?_
  refine ex_bipush (pc := 5) (k := 40) (v := nI 40) (by decide +kernel) (by decide) ?_
  refine ex_newa_int (pc := 7) (N := 40) (by decide +kernel) (in_t1 (i := 99) rfl rfl) (by decide) (by decide) (by decide) ⟨by decide, by decide⟩ (Nat.lt_of_le_of_lt (Nat.le_of_eq (sh_N (b := 0) (n := 68) (q := 68) hB (KXs_120 B) rfl)) (by decide)) ?_
  rw [nw_L (sh_N (b := 0) (n := 68) (q := 68) hB (KXs_120 B) rfl), (sh_N (b := 0) (n := 68) (q := 68) hB (KXs_120 B) rfl)]
  show Ex _ _ 0 0 _ _ _ (KX121 B) _
  refine ex_putR (pc := 9) (index := 9) (ci := 8) (k := 0) (fin := true) (v := some 68) (by decide +kernel) ⟨_, _, _, _, cf_Sheet, by decide, in_t2 (i := 44) rfl rfl, rfl, (fun _ => rfl), rfl, rfl⟩ rfl (fun _ => rfl) (sh_L (b := 0) (n := 69) (i := 67) (j := 67) hB (KXs_121 B) rfl) ?_
  show Ex _ _ 0 0 _ _ _ (KX122 B) _
  refine ex_aload_n (pc := 12) (k := 0) (by decide +kernel) rfl ?_
  refine ex_iconst (pc := 13) (k := -1) (v := -1) (by decide +kernel) (by decide) ?_
  refine ex_putI (pc := 14) (index := 15) (ci := 8) (k := 1) (fin := false) (v := -1) (by decide +kernel) ⟨_, _, _, _, cf_Sheet, by decide, in_t2 (i := 47) rfl rfl, rfl, (fun h => by cases h), rfl, rfl⟩ rfl (fun h => by cases h) (sh_L (b := 0) (n := 69) (i := 67) (j := 67) hB (KXs_122 B) rfl) ?_
  show Ex _ _ 0 0 _ _ _ (KX123 B) _
  refine ex_aload_n (pc := 17) (k := 0) (by decide +kernel) rfl ?_
  refine ex_iconst (pc := 18) (k := 0) (v := nI 0) (by decide +kernel) (by decide) ?_
  refine ex_putI (pc := 19) (index := 19) (ci := 8) (k := 2) (fin := false) (v := nI 0) (by decide +kernel) ⟨_, _, _, _, cf_Sheet, by decide, in_t2 (i := 49) rfl rfl, rfl, (fun h => by cases h), rfl, rfl⟩ rfl (fun h => by cases h) (sh_L (b := 0) (n := 69) (i := 67) (j := 67) hB (KXs_123 B) rfl) ?_
  show Ex _ _ 0 0 _ _ _ (KX124 B) _
  exact ex_return (pc := 22) (by decide +kernel) rfl ⟨rfl, h⟩
def KX125 (B : Mem) : Mem := wr (KX124 B) 66 0 (some 67)
theorem KXs_125 (B : Mem) : sh (KX125 B) = sh B ++ (shT.drop 0).take 69 := (sh_wr _ _ _ _).trans (KXs_124 B)
def KX126 (B : Mem) : Mem := nwL (KX125 B) 69 8 3
theorem KXs_126 (B : Mem) : sh (KX126 B) = sh B ++ (shT.drop 0).take 70 := sh_st (KXs_125 B) (by decide +kernel)
def KX127 (B : Mem) : Mem := nwL (KX126 B) 70 100 40
theorem KXs_127 (B : Mem) : sh (KX127 B) = sh B ++ (shT.drop 0).take 71 := sh_st (KXs_126 B) (by decide +kernel)
def KX128 (B : Mem) : Mem := wr (KX127 B) 69 0 (some 70)
theorem KXs_128 (B : Mem) : sh (KX128 B) = sh B ++ (shT.drop 0).take 71 := (sh_wr _ _ _ _).trans (KXs_127 B)
def KX129 (B : Mem) : Mem := wi (KX128 B) 69 1 (-1)
theorem KXs_129 (B : Mem) : sh (KX129 B) = sh B ++ (shT.drop 0).take 71 := (sh_wi _ _ _ _).trans (KXs_128 B)
def KX130 (B : Mem) : Mem := wi (KX129 B) 69 2 (nI 0)
theorem KXs_130 (B : Mem) : sh (KX130 B) = sh B ++ (shT.drop 0).take 71 := (sh_wi _ _ _ _).trans (KXs_129 B)
theorem KX_c69 {d : Nat} {B : Mem} {K : Mem → Prop} (hB : (sh B).length = 0) (h : K (KX130 B)) : Con (d + 1) m_Sheet_init 1 40 [.ref 69] (KX126 B) (PV K) := by
  refine Con.of (lo := [some (.ref 69)]) F_Sheet_init.1 rfl (Nat.le_of_ble_eq_true rfl) ?_
  refine ex_aload_n (pc := 0) (k := 0) (by decide +kernel) rfl ?_
  refine ex_objInit (pc := 1) (by decide +kernel) (in_t2 (i := 43) rfl rfl) (Nat.le_of_ble_eq_true rfl) (Nat.succ_le_succ (Nat.zero_le _)) ?_
  refine ex_aload_n (pc := 4) (k := 0) (by decide +kernel) rfl ?_
  refine ex_bipush (pc := 5) (k := 40) (v := nI 40) (by decide +kernel) (by decide) ?_
  refine ex_newa_int (pc := 7) (N := 40) (by decide +kernel) (in_t1 (i := 99) rfl rfl) (by decide) (by decide) (by decide) ⟨by decide, by decide⟩ (Nat.lt_of_le_of_lt (Nat.le_of_eq (sh_N (b := 0) (n := 70) (q := 70) hB (KXs_126 B) rfl)) (by decide)) ?_
  rw [nw_L (sh_N (b := 0) (n := 70) (q := 70) hB (KXs_126 B) rfl), (sh_N (b := 0) (n := 70) (q := 70) hB (KXs_126 B) rfl)]
  show Ex _ _ 0 0 _ _ _ (KX127 B) _
  refine ex_putR (pc := 9) (index := 9) (ci := 8) (k := 0) (fin := true) (v := some 70) (by decide +kernel) ⟨_, _, _, _, cf_Sheet, by decide, in_t2 (i := 44) rfl rfl, rfl, (fun _ => rfl), rfl, rfl⟩ rfl (fun _ => rfl) (sh_L (b := 0) (n := 71) (i := 69) (j := 69) hB (KXs_127 B) rfl) ?_
  show Ex _ _ 0 0 _ _ _ (KX128 B) _
  refine ex_aload_n (pc := 12) (k := 0) (by decide +kernel) rfl ?_
  refine ex_iconst (pc := 13) (k := -1) (v := -1) (by decide +kernel) (by decide) ?_
  refine ex_putI (pc := 14) (index := 15) (ci := 8) (k := 1) (fin := false) (v := -1) (by decide +kernel) ⟨_, _, _, _, cf_Sheet, by decide, in_t2 (i := 47) rfl rfl, rfl, (fun h => by cases h), rfl, rfl⟩ rfl (fun h => by cases h) (sh_L (b := 0) (n := 71) (i := 69) (j := 69) hB (KXs_128 B) rfl) ?_
  show Ex _ _ 0 0 _ _ _ (KX129 B) _
  refine ex_aload_n (pc := 17) (k := 0) (by decide +kernel) rfl ?_
  refine ex_iconst (pc := 18) (k := 0) (v := nI 0) (by decide +kernel) (by decide) ?_
  refine ex_putI (pc := 19) (index := 19) (ci := 8) (k := 2) (fin := false) (v := nI 0) (by decide +kernel) ⟨_, _, _, _, cf_Sheet, by decide, in_t2 (i := 49) rfl rfl, rfl, (fun h => by cases h), rfl, rfl⟩ rfl (fun h => by cases h) (sh_L (b := 0) (n := 71) (i := 69) (j := 69) hB (KXs_129 B) rfl) ?_
  show Ex _ _ 0 0 _ _ _ (KX130 B) _
  exact ex_return (pc := 22) (by decide +kernel) rfl ⟨rfl, h⟩
def KX131 (B : Mem) : Mem := wr (KX130 B) 66 1 (some 69)
theorem KXs_131 (B : Mem) : sh (KX131 B) = sh B ++ (shT.drop 0).take 71 := (sh_wr _ _ _ _).trans (KXs_130 B)
def KX132 (B : Mem) : Mem := nwL (KX131 B) 71 8 3
theorem KXs_132 (B : Mem) : sh (KX132 B) = sh B ++ (shT.drop 0).take 72 := sh_st (KXs_131 B) (by decide +kernel)
def KX133 (B : Mem) : Mem := nwL (KX132 B) 72 100 40
theorem KXs_133 (B : Mem) : sh (KX133 B) = sh B ++ (shT.drop 0).take 73 := sh_st (KXs_132 B) (by decide +kernel)
def KX134 (B : Mem) : Mem := wr (KX133 B) 71 0 (some 72)
theorem KXs_134 (B : Mem) : sh (KX134 B) = sh B ++ (shT.drop 0).take 73 := (sh_wr _ _ _ _).trans (KXs_133 B)
def KX135 (B : Mem) : Mem := wi (KX134 B) 71 1 (-1)
theorem KXs_135 (B : Mem) : sh (KX135 B) = sh B ++ (shT.drop 0).take 73 := (sh_wi _ _ _ _).trans (KXs_134 B)
def KX136 (B : Mem) : Mem := wi (KX135 B) 71 2 (nI 0)
theorem KXs_136 (B : Mem) : sh (KX136 B) = sh B ++ (shT.drop 0).take 73 := (sh_wi _ _ _ _).trans (KXs_135 B)
theorem KX_c71 {d : Nat} {B : Mem} {K : Mem → Prop} (hB : (sh B).length = 0) (h : K (KX136 B)) : Con (d + 1) m_Sheet_init 1 40 [.ref 71] (KX132 B) (PV K) := by
  refine Con.of (lo := [some (.ref 71)]) F_Sheet_init.1 rfl (Nat.le_of_ble_eq_true rfl) ?_
  refine ex_aload_n (pc := 0) (k := 0) (by decide +kernel) rfl ?_
  refine ex_objInit (pc := 1) (by decide +kernel) (in_t2 (i := 43) rfl rfl) (Nat.le_of_ble_eq_true rfl) (Nat.succ_le_succ (Nat.zero_le _)) ?_
  refine ex_aload_n (pc := 4) (k := 0) (by decide +kernel) rfl ?_
  refine ex_bipush (pc := 5) (k := 40) (v := nI 40) (by decide +kernel) (by decide) ?_
  refine ex_newa_int (pc := 7) (N := 40) (by decide +kernel) (in_t1 (i := 99) rfl rfl) (by decide) (by decide) (by decide) ⟨by decide, by decide⟩ (Nat.lt_of_le_of_lt (Nat.le_of_eq (sh_N (b := 0) (n := 72) (q := 72) hB (KXs_132 B) rfl)) (by decide)) ?_
  rw [nw_L (sh_N (b := 0) (n := 72) (q := 72) hB (KXs_132 B) rfl), (sh_N (b := 0) (n := 72) (q := 72) hB (KXs_132 B) rfl)]
  show Ex _ _ 0 0 _ _ _ (KX133 B) _
  refine ex_putR (pc := 9) (index := 9) (ci := 8) (k := 0) (fin := true) (v := some 72) (by decide +kernel) ⟨_, _, _, _, cf_Sheet, by decide, in_t2 (i := 44) rfl rfl, rfl, (fun _ => rfl), rfl, rfl⟩ rfl (fun _ => rfl) (sh_L (b := 0) (n := 73) (i := 71) (j := 71) hB (KXs_133 B) rfl) ?_
  show Ex _ _ 0 0 _ _ _ (KX134 B) _
  refine ex_aload_n (pc := 12) (k := 0) (by decide +kernel) rfl ?_
  refine ex_iconst (pc := 13) (k := -1) (v := -1) (by decide +kernel) (by decide) ?_
  refine ex_putI (pc := 14) (index := 15) (ci := 8) (k := 1) (fin := false) (v := -1) (by decide +kernel) ⟨_, _, _, _, cf_Sheet, by decide, in_t2 (i := 47) rfl rfl, rfl, (fun h => by cases h), rfl, rfl⟩ rfl (fun h => by cases h) (sh_L (b := 0) (n := 73) (i := 71) (j := 71) hB (KXs_134 B) rfl) ?_
  show Ex _ _ 0 0 _ _ _ (KX135 B) _
  refine ex_aload_n (pc := 17) (k := 0) (by decide +kernel) rfl ?_
  refine ex_iconst (pc := 18) (k := 0) (v := nI 0) (by decide +kernel) (by decide) ?_
  refine ex_putI (pc := 19) (index := 19) (ci := 8) (k := 2) (fin := false) (v := nI 0) (by decide +kernel) ⟨_, _, _, _, cf_Sheet, by decide, in_t2 (i := 49) rfl rfl, rfl, (fun h => by cases h), rfl, rfl⟩ rfl (fun h => by cases h) (sh_L (b := 0) (n := 73) (i := 71) (j := 71) hB (KXs_135 B) rfl) ?_
  show Ex _ _ 0 0 _ _ _ (KX136 B) _
  exact ex_return (pc := 22) (by decide +kernel) rfl ⟨rfl, h⟩
def KX137 (B : Mem) : Mem := wr (KX136 B) 66 2 (some 71)
theorem KXs_137 (B : Mem) : sh (KX137 B) = sh B ++ (shT.drop 0).take 73 := (sh_wr _ _ _ _).trans (KXs_136 B)
def KX138 (B : Mem) : Mem := nwL (KX137 B) 73 8 3
theorem KXs_138 (B : Mem) : sh (KX138 B) = sh B ++ (shT.drop 0).take 74 := sh_st (KXs_137 B) (by decide +kernel)
def KX139 (B : Mem) : Mem := nwL (KX138 B) 74 100 40
theorem KXs_139 (B : Mem) : sh (KX139 B) = sh B ++ (shT.drop 0).take 75 := sh_st (KXs_138 B) (by decide +kernel)
def KX140 (B : Mem) : Mem := wr (KX139 B) 73 0 (some 74)
theorem KXs_140 (B : Mem) : sh (KX140 B) = sh B ++ (shT.drop 0).take 75 := (sh_wr _ _ _ _).trans (KXs_139 B)
def KX141 (B : Mem) : Mem := wi (KX140 B) 73 1 (-1)
theorem KXs_141 (B : Mem) : sh (KX141 B) = sh B ++ (shT.drop 0).take 75 := (sh_wi _ _ _ _).trans (KXs_140 B)
def KX142 (B : Mem) : Mem := wi (KX141 B) 73 2 (nI 0)
theorem KXs_142 (B : Mem) : sh (KX142 B) = sh B ++ (shT.drop 0).take 75 := (sh_wi _ _ _ _).trans (KXs_141 B)
theorem KX_c73 {d : Nat} {B : Mem} {K : Mem → Prop} (hB : (sh B).length = 0) (h : K (KX142 B)) : Con (d + 1) m_Sheet_init 1 40 [.ref 73] (KX138 B) (PV K) := by
  refine Con.of (lo := [some (.ref 73)]) F_Sheet_init.1 rfl (Nat.le_of_ble_eq_true rfl) ?_
  refine ex_aload_n (pc := 0) (k := 0) (by decide +kernel) rfl ?_
  refine ex_objInit (pc := 1) (by decide +kernel) (in_t2 (i := 43) rfl rfl) (Nat.le_of_ble_eq_true rfl) (Nat.succ_le_succ (Nat.zero_le _)) ?_
  refine ex_aload_n (pc := 4) (k := 0) (by decide +kernel) rfl ?_
  refine ex_bipush (pc := 5) (k := 40) (v := nI 40) (by decide +kernel) (by decide) ?_
  refine ex_newa_int (pc := 7) (N := 40) (by decide +kernel) (in_t1 (i := 99) rfl rfl) (by decide) (by decide) (by decide) ⟨by decide, by decide⟩ (Nat.lt_of_le_of_lt (Nat.le_of_eq (sh_N (b := 0) (n := 74) (q := 74) hB (KXs_138 B) rfl)) (by decide)) ?_
  rw [nw_L (sh_N (b := 0) (n := 74) (q := 74) hB (KXs_138 B) rfl), (sh_N (b := 0) (n := 74) (q := 74) hB (KXs_138 B) rfl)]
  show Ex _ _ 0 0 _ _ _ (KX139 B) _
  refine ex_putR (pc := 9) (index := 9) (ci := 8) (k := 0) (fin := true) (v := some 74) (by decide +kernel) ⟨_, _, _, _, cf_Sheet, by decide, in_t2 (i := 44) rfl rfl, rfl, (fun _ => rfl), rfl, rfl⟩ rfl (fun _ => rfl) (sh_L (b := 0) (n := 75) (i := 73) (j := 73) hB (KXs_139 B) rfl) ?_
  show Ex _ _ 0 0 _ _ _ (KX140 B) _
  refine ex_aload_n (pc := 12) (k := 0) (by decide +kernel) rfl ?_
  refine ex_iconst (pc := 13) (k := -1) (v := -1) (by decide +kernel) (by decide) ?_
  refine ex_putI (pc := 14) (index := 15) (ci := 8) (k := 1) (fin := false) (v := -1) (by decide +kernel) ⟨_, _, _, _, cf_Sheet, by decide, in_t2 (i := 47) rfl rfl, rfl, (fun h => by cases h), rfl, rfl⟩ rfl (fun h => by cases h) (sh_L (b := 0) (n := 75) (i := 73) (j := 73) hB (KXs_140 B) rfl) ?_
  show Ex _ _ 0 0 _ _ _ (KX141 B) _
  refine ex_aload_n (pc := 17) (k := 0) (by decide +kernel) rfl ?_
  refine ex_iconst (pc := 18) (k := 0) (v := nI 0) (by decide +kernel) (by decide) ?_
  refine ex_putI (pc := 19) (index := 19) (ci := 8) (k := 2) (fin := false) (v := nI 0) (by decide +kernel) ⟨_, _, _, _, cf_Sheet, by decide, in_t2 (i := 49) rfl rfl, rfl, (fun h => by cases h), rfl, rfl⟩ rfl (fun h => by cases h) (sh_L (b := 0) (n := 75) (i := 73) (j := 73) hB (KXs_141 B) rfl) ?_
  show Ex _ _ 0 0 _ _ _ (KX142 B) _
  exact ex_return (pc := 22) (by decide +kernel) rfl ⟨rfl, h⟩
def KX143 (B : Mem) : Mem := wr (KX142 B) 66 3 (some 73)
theorem KXs_143 (B : Mem) : sh (KX143 B) = sh B ++ (shT.drop 0).take 75 := (sh_wr _ _ _ _).trans (KXs_142 B)
theorem KX_c0 {d : Nat} {B : Mem} {Φ : Option Value → Mem → Prop} (hB : (sh B).length = 0) (h : Ex (d + 47) m_MD_init 3 330 162 [some (.ref 0), some (.int (nI 4))] [] (KX143 B) Φ) : Con (d + 47) m_MD_init 77 3451 [.ref 0] (KX1 B) Φ := by
  refine Con.ent (k := 1) F_MD_init.1 rfl (Nat.le_of_ble_eq_true rfl) ?_
  refine ex_aload_n (pc := 0) (k := 0) (by decide +kernel) rfl ?_
  refine ex_objInit (pc := 1) (by decide +kernel) (in_t1 (i := 26) rfl rfl) (Nat.le_of_ble_eq_true rfl) (Nat.succ_le_succ (Nat.zero_le _)) ?_
  refine ex_aload_n (pc := 4) (k := 0) (by decide +kernel) rfl ?_
  refine ex_new (pc := 5) (by decide +kernel) (in_t1 (i := 29) rfl rfl) (in_t1 (i := 30) rfl rfl) (in_t1 (i := 2) rfl rfl) cf_Land udv_Land ⟨by decide, by decide⟩ (Nat.lt_of_le_of_lt (Nat.le_of_eq (sh_N (b := 0) (n := 1) (q := 1) hB (KXs_1 B) rfl)) (by decide)) ?_
  rw [nw_L (sh_N (b := 0) (n := 1) (q := 1) hB (KXs_1 B) rfl), (sh_N (b := 0) (n := 1) (q := 1) hB (KXs_1 B) rfl)]
  show Ex _ _ 76 3439 _ _ _ (KX2 B) _
  refine ex_dup (pc := 8) (by decide +kernel) rfl ?_
  refine ex_callIN (host := "MarketDays") (pc := 9) (as := []) (by decide +kernel) F_Land_init (List.mem_filter.mpr ⟨in_u1 (i := 31) rfl, rfl⟩) rfl rfl rfl (Nat.le_of_ble_eq_true rfl) (Nat.lt_succ_self _) ⟨by decide, by decide⟩ (KC_V (KX_c1 (B := B) hB ?_))
  show Ex _ _ 56 3311 _ _ _ (KX22 B) _
  refine ex_putR (pc := 12) (index := 10) (ci := 0) (k := 0) (fin := true) (v := some 1) (by decide +kernel) ⟨_, _, _, _, cf_MD, by decide, in_t2 (i := 236) rfl rfl, rfl, (fun _ => rfl), rfl, rfl⟩ rfl (fun _ => rfl) (sh_L (b := 0) (n := 22) (i := 0) (j := 0) hB (KXs_22 B) rfl) ?_
  show Ex _ _ 56 3311 _ _ _ (KX23 B) _
  refine ex_aload_n (pc := 15) (k := 0) (by decide +kernel) rfl ?_
  refine ex_new (pc := 16) (by decide +kernel) (in_t1 (i := 29) rfl rfl) (in_t1 (i := 30) rfl rfl) (in_t1 (i := 2) rfl rfl) cf_Land udv_Land ⟨by decide, by decide⟩ (Nat.lt_of_le_of_lt (Nat.le_of_eq (sh_N (b := 0) (n := 22) (q := 22) hB (KXs_23 B) rfl)) (by decide)) ?_
  rw [nw_L (sh_N (b := 0) (n := 22) (q := 22) hB (KXs_23 B) rfl), (sh_N (b := 0) (n := 22) (q := 22) hB (KXs_23 B) rfl)]
  show Ex _ _ 55 3299 _ _ _ (KX24 B) _
  refine ex_dup (pc := 19) (by decide +kernel) rfl ?_
  refine ex_callIN (host := "MarketDays") (pc := 20) (as := []) (by decide +kernel) F_Land_init (List.mem_filter.mpr ⟨in_u1 (i := 31) rfl, rfl⟩) rfl rfl rfl (Nat.le_of_ble_eq_true rfl) (Nat.lt_succ_self _) ⟨by decide, by decide⟩ (KC_V (KX_c22 (B := B) hB ?_))
  show Ex _ _ 35 3171 _ _ _ (KX44 B) _
  refine ex_putR (pc := 23) (index := 16) (ci := 0) (k := 1) (fin := true) (v := some 22) (by decide +kernel) ⟨_, _, _, _, cf_MD, by decide, in_t2 (i := 237) rfl rfl, rfl, (fun _ => rfl), rfl, rfl⟩ rfl (fun _ => rfl) (sh_L (b := 0) (n := 43) (i := 0) (j := 0) hB (KXs_44 B) rfl) ?_
  show Ex _ _ 35 3171 _ _ _ (KX45 B) _
  refine ex_aload_n (pc := 26) (k := 0) (by decide +kernel) rfl ?_
  refine ex_iconst (pc := 27) (k := 0) (v := nI 0) (by decide +kernel) (by decide) ?_
  refine ex_putI (pc := 28) (index := 19) (ci := 0) (k := 2) (fin := false) (v := nI 0) (by decide +kernel) ⟨_, _, _, _, cf_MD, by decide, in_t2 (i := 238) rfl rfl, rfl, (fun h => by cases h), by decide, rfl⟩ rfl (fun h => by cases h) (sh_L (b := 0) (n := 43) (i := 0) (j := 0) hB (KXs_45 B) rfl) ?_
  show Ex _ _ 35 3171 _ _ _ (KX46 B) _
  refine ex_aload_n (pc := 31) (k := 0) (by decide +kernel) rfl ?_
  refine ex_new (pc := 32) (by decide +kernel) (in_t1 (i := 100) rfl rfl) (in_t1 (i := 101) rfl rfl) (in_t1 (i := 3) rfl rfl) cf_Tape udv_Tape ⟨by decide, by decide⟩ (Nat.lt_of_le_of_lt (Nat.le_of_eq (sh_N (b := 0) (n := 43) (q := 43) hB (KXs_46 B) rfl)) (by decide)) ?_
  rw [nw_L (sh_N (b := 0) (n := 43) (q := 43) hB (KXs_46 B) rfl), (sh_N (b := 0) (n := 43) (q := 43) hB (KXs_46 B) rfl)]
  show Ex _ _ 34 3161 _ _ _ (KX47 B) _
  refine ex_dup (pc := 35) (by decide +kernel) rfl ?_
  refine ex_callIN (host := "MarketDays") (pc := 36) (as := []) (by decide +kernel) F_Tape_init (List.mem_filter.mpr ⟨in_u1 (i := 102) rfl, rfl⟩) rfl rfl rfl (Nat.le_of_ble_eq_true rfl) (Nat.lt_succ_self _) ⟨by decide, by decide⟩ (KC_V (KX_c43 (B := B) hB ?_))
  show Ex _ _ 32 2841 _ _ _ (KX59 B) _
  refine ex_putR (pc := 39) (index := 26) (ci := 0) (k := 3) (fin := true) (v := some 43) (by decide +kernel) ⟨_, _, _, _, cf_MD, by decide, in_t2 (i := 239) rfl rfl, rfl, (fun _ => rfl), rfl, rfl⟩ rfl (fun _ => rfl) (sh_L (b := 0) (n := 46) (i := 0) (j := 0) hB (KXs_59 B) rfl) ?_
  show Ex _ _ 32 2841 _ _ _ (KX60 B) _
  refine ex_aload_n (pc := 42) (k := 0) (by decide +kernel) rfl ?_
  refine ex_new (pc := 43) (by decide +kernel) (in_t1 (i := 139) rfl rfl) (in_t1 (i := 140) rfl rfl) (in_t1 (i := 4) rfl rfl) cf_Law udv_Law ⟨by decide, by decide⟩ (Nat.lt_of_le_of_lt (Nat.le_of_eq (sh_N (b := 0) (n := 46) (q := 46) hB (KXs_60 B) rfl)) (by decide)) ?_
  rw [nw_L (sh_N (b := 0) (n := 46) (q := 46) hB (KXs_60 B) rfl), (sh_N (b := 0) (n := 46) (q := 46) hB (KXs_60 B) rfl)]
  show Ex _ _ 31 2836 _ _ _ (KX61 B) _
  refine ex_dup (pc := 46) (by decide +kernel) rfl ?_
  refine ex_aload_n (pc := 47) (k := 0) (by decide +kernel) rfl ?_
  refine ex_getR (pc := 48) (a := 1) (by decide +kernel) lf_MD_10 (sh_L (b := 0) (n := 47) (i := 0) (j := 0) hB (KXs_61 B) rfl) rfl ?_
  refine ex_callI (pc := 51) (as := [.ref 1]) (by decide +kernel) F_Law_init (in_t1 (i := 141) rfl rfl) rfl rfl rfl (Nat.le_of_ble_eq_true rfl) (Nat.lt_succ_self _) ⟨by decide, by decide⟩ (KC_V (KX_c46 (B := B) hB ?_))
  show Ex _ _ 28 2784 _ _ _ (KX69 B) _
  refine ex_putR (pc := 54) (index := 35) (ci := 0) (k := 4) (fin := true) (v := some 46) (by decide +kernel) ⟨_, _, _, _, cf_MD, by decide, in_t3 (i := 0) rfl rfl, rfl, (fun _ => rfl), rfl, rfl⟩ rfl (fun _ => rfl) (sh_L (b := 0) (n := 50) (i := 0) (j := 0) hB (KXs_69 B) rfl) ?_
  show Ex _ _ 28 2784 _ _ _ (KX70 B) _
  refine ex_aload_n (pc := 57) (k := 0) (by decide +kernel) rfl ?_
  refine ex_bipush (pc := 58) (k := 12) (v := nI 12) (by decide +kernel) (by decide) ?_
  refine ex_anew (pc := 60) (ci := 105) (C := "MarketDays$Giving") (N := 12) (by decide +kernel) (in_t1 (i := 164) rfl rfl) (by decide) (by decide) (by decide) (by decide) ⟨by decide, by decide⟩ (Nat.lt_of_le_of_lt (Nat.le_of_eq (sh_N (b := 0) (n := 50) (q := 50) hB (KXs_70 B) rfl)) (by decide)) ?_
  rw [nw_L (sh_N (b := 0) (n := 50) (q := 50) hB (KXs_70 B) rfl), (sh_N (b := 0) (n := 50) (q := 50) hB (KXs_70 B) rfl)]
  show Ex _ _ 27 2772 _ _ _ (KX71 B) _
  refine ex_putR (pc := 63) (index := 41) (ci := 0) (k := 5) (fin := true) (v := some 50) (by decide +kernel) ⟨_, _, _, _, cf_MD, by decide, in_t3 (i := 1) rfl rfl, rfl, (fun _ => rfl), rfl, rfl⟩ rfl (fun _ => rfl) (sh_L (b := 0) (n := 51) (i := 0) (j := 0) hB (KXs_71 B) rfl) ?_
  show Ex _ _ 27 2772 _ _ _ (KX72 B) _
  refine ex_aload_n (pc := 66) (k := 0) (by decide +kernel) rfl ?_
  refine ex_iconst (pc := 67) (k := 0) (v := nI 0) (by decide +kernel) (by decide) ?_
  refine ex_putI (pc := 68) (index := 45) (ci := 0) (k := 6) (fin := false) (v := nI 0) (by decide +kernel) ⟨_, _, _, _, cf_MD, by decide, in_t3 (i := 2) rfl rfl, rfl, (fun h => by cases h), rfl, rfl⟩ rfl (fun h => by cases h) (sh_L (b := 0) (n := 51) (i := 0) (j := 0) hB (KXs_72 B) rfl) ?_
  show Ex _ _ 27 2772 _ _ _ (KX73 B) _
  refine ex_aload_n (pc := 71) (k := 0) (by decide +kernel) rfl ?_
  refine ex_new (pc := 72) (by decide +kernel) (in_t1 (i := 166) rfl rfl) (in_t1 (i := 167) rfl rfl) (in_t1 (i := 5) rfl rfl) cf_Fair udv_Fair ⟨by decide, by decide⟩ (Nat.lt_of_le_of_lt (Nat.le_of_eq (sh_N (b := 0) (n := 51) (q := 51) hB (KXs_73 B) rfl)) (by decide)) ?_
  rw [nw_L (sh_N (b := 0) (n := 51) (q := 51) hB (KXs_73 B) rfl), (sh_N (b := 0) (n := 51) (q := 51) hB (KXs_73 B) rfl)]
  show Ex _ _ 26 2768 _ _ _ (KX74 B) _
  refine ex_dup (pc := 75) (by decide +kernel) rfl ?_
  refine ex_aload_n (pc := 76) (k := 0) (by decide +kernel) rfl ?_
  refine ex_getR (pc := 77) (a := 1) (by decide +kernel) lf_MD_10 (sh_L (b := 0) (n := 52) (i := 0) (j := 0) hB (KXs_74 B) rfl) rfl ?_
  refine ex_aload_n (pc := 80) (k := 0) (by decide +kernel) rfl ?_
  refine ex_getR (pc := 81) (a := 46) (by decide +kernel) lf_MD_35 (sh_L (b := 0) (n := 52) (i := 0) (j := 0) hB (KXs_74 B) rfl) rfl ?_
  refine ex_callI (pc := 84) (as := [.ref 1, .ref 46]) (by decide +kernel) F_Fair_init (in_t1 (i := 168) rfl rfl) rfl rfl rfl (Nat.le_of_ble_eq_true rfl) (Nat.lt_succ_self _) ⟨by decide, by decide⟩ (KC_V (KX_c51 (B := B) hB ?_))
  show Ex _ _ 25 2762 _ _ _ (KX79 B) _
  refine ex_putR (pc := 87) (index := 54) (ci := 0) (k := 7) (fin := true) (v := some 51) (by decide +kernel) ⟨_, _, _, _, cf_MD, by decide, in_t3 (i := 3) rfl rfl, rfl, (fun _ => rfl), rfl, rfl⟩ rfl (fun _ => rfl) (sh_L (b := 0) (n := 53) (i := 0) (j := 0) hB (KXs_79 B) rfl) ?_
  show Ex _ _ 25 2762 _ _ _ (KX80 B) _
  refine ex_aload_n (pc := 90) (k := 0) (by decide +kernel) rfl ?_
  refine ex_new (pc := 91) (by decide +kernel) (in_t1 (i := 185) rfl rfl) (in_t1 (i := 186) rfl rfl) (in_t1 (i := 6) rfl rfl) cf_Finder udv_Finder ⟨by decide, by decide⟩ (Nat.lt_of_le_of_lt (Nat.le_of_eq (sh_N (b := 0) (n := 53) (q := 53) hB (KXs_80 B) rfl)) (by decide)) ?_
  rw [nw_L (sh_N (b := 0) (n := 53) (q := 53) hB (KXs_80 B) rfl), (sh_N (b := 0) (n := 53) (q := 53) hB (KXs_80 B) rfl)]
  show Ex _ _ 24 2754 _ _ _ (KX81 B) _
  refine ex_dup (pc := 94) (by decide +kernel) rfl ?_
  refine ex_aload_n (pc := 95) (k := 0) (by decide +kernel) rfl ?_
  refine ex_getR (pc := 96) (a := 1) (by decide +kernel) lf_MD_10 (sh_L (b := 0) (n := 54) (i := 0) (j := 0) hB (KXs_81 B) rfl) rfl ?_
  refine ex_aload_n (pc := 99) (k := 0) (by decide +kernel) rfl ?_
  refine ex_getR (pc := 100) (a := 46) (by decide +kernel) lf_MD_35 (sh_L (b := 0) (n := 54) (i := 0) (j := 0) hB (KXs_81 B) rfl) rfl ?_
  refine ex_callI (pc := 103) (as := [.ref 1, .ref 46]) (by decide +kernel) F_Finder_init (in_t1 (i := 187) rfl rfl) rfl rfl rfl (Nat.le_of_ble_eq_true rfl) (Nat.lt_succ_self _) ⟨by decide, by decide⟩ (KC_V (KX_c53 (B := B) hB ?_))
  show Ex _ _ 15 560 _ _ _ (KX107 B) _
  refine ex_putR (pc := 106) (index := 61) (ci := 0) (k := 8) (fin := true) (v := some 53) (by decide +kernel) ⟨_, _, _, _, cf_MD, by decide, in_t3 (i := 4) rfl rfl, rfl, (fun _ => rfl), rfl, rfl⟩ rfl (fun _ => rfl) (sh_L (b := 0) (n := 63) (i := 0) (j := 0) hB (KXs_107 B) rfl) ?_
  show Ex _ _ 15 560 _ _ _ (KX108 B) _
  refine ex_aload_n (pc := 109) (k := 0) (by decide +kernel) rfl ?_
  refine ex_new (pc := 110) (by decide +kernel) (in_t2 (i := 13) rfl rfl) (in_t2 (i := 14) rfl rfl) (in_t1 (i := 8) rfl rfl) cf_Pedlar udv_Pedlar ⟨by decide, by decide⟩ (Nat.lt_of_le_of_lt (Nat.le_of_eq (sh_N (b := 0) (n := 63) (q := 63) hB (KXs_108 B) rfl)) (by decide)) ?_
  rw [nw_L (sh_N (b := 0) (n := 63) (q := 63) hB (KXs_108 B) rfl), (sh_N (b := 0) (n := 63) (q := 63) hB (KXs_108 B) rfl)]
  show Ex _ _ 14 555 _ _ _ (KX109 B) _
  refine ex_dup (pc := 113) (by decide +kernel) rfl ?_
  refine ex_aload_n (pc := 114) (k := 0) (by decide +kernel) rfl ?_
  refine ex_getR (pc := 115) (a := 1) (by decide +kernel) lf_MD_10 (sh_L (b := 0) (n := 64) (i := 0) (j := 0) hB (KXs_109 B) rfl) rfl ?_
  refine ex_aload_n (pc := 118) (k := 0) (by decide +kernel) rfl ?_
  refine ex_getR (pc := 119) (a := 51) (by decide +kernel) lf_MD_54 (sh_L (b := 0) (n := 64) (i := 0) (j := 0) hB (KXs_109 B) rfl) rfl ?_
  refine ex_callI (pc := 122) (as := [.ref 1, .ref 51]) (by decide +kernel) F_Pedlar_init (in_t2 (i := 15) rfl rfl) rfl rfl rfl (Nat.le_of_ble_eq_true rfl) (Nat.lt_succ_self _) ⟨by decide, by decide⟩ (KC_V (KX_c63 (B := B) hB ?_))
  show Ex _ _ 12 506 _ _ _ (KX116 B) _
  refine ex_putR (pc := 125) (index := 70) (ci := 0) (k := 9) (fin := true) (v := some 63) (by decide +kernel) ⟨_, _, _, _, cf_MD, by decide, in_t3 (i := 5) rfl rfl, rfl, (fun _ => rfl), rfl, rfl⟩ rfl (fun _ => rfl) (sh_L (b := 0) (n := 66) (i := 0) (j := 0) hB (KXs_116 B) rfl) ?_
  show Ex _ _ 12 506 _ _ _ (KX117 B) _
  refine ex_aload_n (pc := 128) (k := 0) (by decide +kernel) rfl ?_
  refine ex_iconst (pc := 129) (k := 4) (v := nI 4) (by decide +kernel) (by decide) ?_
  refine ex_anew (pc := 130) (ci := 106) (C := "MarketDays$Sheet") (N := 4) (by decide +kernel) (in_t2 (i := 37) rfl rfl) (by decide) (by decide) (by decide) (by decide) ⟨by decide, by decide⟩ (Nat.lt_of_le_of_lt (Nat.le_of_eq (sh_N (b := 0) (n := 66) (q := 66) hB (KXs_117 B) rfl)) (by decide)) ?_
  rw [nw_L (sh_N (b := 0) (n := 66) (q := 66) hB (KXs_117 B) rfl), (sh_N (b := 0) (n := 66) (q := 66) hB (KXs_117 B) rfl)]
  show Ex _ _ 11 502 _ _ _ (KX118 B) _
  refine ex_putR (pc := 133) (index := 76) (ci := 0) (k := 10) (fin := true) (v := some 66) (by decide +kernel) ⟨_, _, _, _, cf_MD, by decide, in_t3 (i := 6) rfl rfl, rfl, (fun _ => rfl), rfl, rfl⟩ rfl (fun _ => rfl) (sh_L (b := 0) (n := 67) (i := 0) (j := 0) hB (KXs_118 B) rfl) ?_
  show Ex _ _ 11 502 _ _ _ (KX119 B) _
  refine ex_iconst (pc := 136) (k := 0) (v := nI 0) (by decide +kernel) (by decide) ?_
  refine ex_istore_n (pc := 137) (k := 1) (lo2 := [some (.ref 0), some (.int (nI 0))]) (by decide +kernel) (by decide) rfl ?_
  refine ex_iload_n (pc := 138) (k := 1) (by decide +kernel) rfl ?_
  refine ex_iconst (pc := 139) (k := 4) (v := nI 4) (by decide +kernel) (by decide) ?_
  refine ex_icmp_ge (pc := 140) (off := 22) (tgt := 162) (by decide +kernel) (by decide) (fun hc => absurd hc (by decide)) (fun _ => ?_)
  refine ex_aload_n (pc := 143) (k := 0) (by decide +kernel) rfl ?_
  refine ex_getR (pc := 144) (a := 66) (by decide +kernel) lf_MD_76 (sh_L (b := 0) (n := 67) (i := 0) (j := 0) hB (KXs_119 B) rfl) rfl ?_
  refine ex_iload_n (pc := 147) (k := 1) (by decide +kernel) rfl ?_
  refine ex_new (pc := 148) (by decide +kernel) (in_t2 (i := 37) rfl rfl) (in_t2 (i := 39) rfl rfl) (in_t1 (i := 9) rfl rfl) cf_Sheet udv_Sheet ⟨by decide, by decide⟩ (Nat.lt_of_le_of_lt (Nat.le_of_eq (sh_N (b := 0) (n := 67) (q := 67) hB (KXs_119 B) rfl)) (by decide)) ?_
  rw [nw_L (sh_N (b := 0) (n := 67) (q := 67) hB (KXs_119 B) rfl), (sh_N (b := 0) (n := 67) (q := 67) hB (KXs_119 B) rfl)]
  show Ex _ _ 10 499 _ _ _ (KX120 B) _
  refine ex_dup (pc := 151) (by decide +kernel) rfl ?_
  refine ex_callIN (host := "MarketDays") (pc := 152) (as := []) (by decide +kernel) F_Sheet_init (List.mem_filter.mpr ⟨in_u2 (i := 40) rfl, rfl⟩) rfl rfl rfl (Nat.le_of_ble_eq_true rfl) (Nat.lt_succ_self _) ⟨by decide, by decide⟩ (KC_V (KX_c67 (B := B) hB ?_))
  show Ex _ _ 9 459 _ _ _ (KX124 B) _
  refine ex_aast (pc := 155) (by decide +kernel) (sh_L (b := 0) (n := 69) (i := 66) (j := 66) hB (KXs_124 B) rfl) (vN (n := 4) (by decide) (by decide)) (sh_L (b := 0) (n := 69) (i := 67) (j := 67) hB (KXs_124 B) rfl) (by decide) ?_
  rw [show (nI 0).toNatClampNeg = 0 from nI_clamp (by decide)]
  show Ex _ _ 9 459 _ _ _ (KX125 B) _
  refine ex_iinc (pc := 156) (i := 1) (k := 1) (v := nI 1) (lo2 := [some (.ref 0), some (.int (nI 1))]) (by decide +kernel) (by decide) rfl (by decide) rfl ?_
  refine ex_goto (pc := 159) (off := -21) (tgt := 138) (by decide +kernel) (by decide) ?_
  refine ex_iload_n (pc := 138) (k := 1) (by decide +kernel) rfl ?_
  refine ex_iconst (pc := 139) (k := 4) (v := nI 4) (by decide +kernel) (by decide) ?_
  refine ex_icmp_ge (pc := 140) (off := 22) (tgt := 162) (by decide +kernel) (by decide) (fun hc => absurd hc (by decide)) (fun _ => ?_)
  refine ex_aload_n (pc := 143) (k := 0) (by decide +kernel) rfl ?_
  refine ex_getR (pc := 144) (a := 66) (by decide +kernel) lf_MD_76 (sh_L (b := 0) (n := 69) (i := 0) (j := 0) hB (KXs_125 B) rfl) rfl ?_
  refine ex_iload_n (pc := 147) (k := 1) (by decide +kernel) rfl ?_
  refine ex_new (pc := 148) (by decide +kernel) (in_t2 (i := 37) rfl rfl) (in_t2 (i := 39) rfl rfl) (in_t1 (i := 9) rfl rfl) cf_Sheet udv_Sheet ⟨by decide, by decide⟩ (Nat.lt_of_le_of_lt (Nat.le_of_eq (sh_N (b := 0) (n := 69) (q := 69) hB (KXs_125 B) rfl)) (by decide)) ?_
  rw [nw_L (sh_N (b := 0) (n := 69) (q := 69) hB (KXs_125 B) rfl), (sh_N (b := 0) (n := 69) (q := 69) hB (KXs_125 B) rfl)]
  show Ex _ _ 8 456 _ _ _ (KX126 B) _
  refine ex_dup (pc := 151) (by decide +kernel) rfl ?_
  refine ex_callIN (host := "MarketDays") (pc := 152) (as := []) (by decide +kernel) F_Sheet_init (List.mem_filter.mpr ⟨in_u2 (i := 40) rfl, rfl⟩) rfl rfl rfl (Nat.le_of_ble_eq_true rfl) (Nat.lt_succ_self _) ⟨by decide, by decide⟩ (KC_V (KX_c69 (B := B) hB ?_))
  show Ex _ _ 7 416 _ _ _ (KX130 B) _
  refine ex_aast (pc := 155) (by decide +kernel) (sh_L (b := 0) (n := 71) (i := 66) (j := 66) hB (KXs_130 B) rfl) (vN (n := 4) (by decide) (by decide)) (sh_L (b := 0) (n := 71) (i := 69) (j := 69) hB (KXs_130 B) rfl) (by decide) ?_
  rw [show (nI 1).toNatClampNeg = 1 from nI_clamp (by decide)]
  show Ex _ _ 7 416 _ _ _ (KX131 B) _
  refine ex_iinc (pc := 156) (i := 1) (k := 1) (v := nI 2) (lo2 := [some (.ref 0), some (.int (nI 2))]) (by decide +kernel) (by decide) rfl (by decide) rfl ?_
  refine ex_goto (pc := 159) (off := -21) (tgt := 138) (by decide +kernel) (by decide) ?_
  refine ex_iload_n (pc := 138) (k := 1) (by decide +kernel) rfl ?_
  refine ex_iconst (pc := 139) (k := 4) (v := nI 4) (by decide +kernel) (by decide) ?_
  refine ex_icmp_ge (pc := 140) (off := 22) (tgt := 162) (by decide +kernel) (by decide) (fun hc => absurd hc (by decide)) (fun _ => ?_)
  refine ex_aload_n (pc := 143) (k := 0) (by decide +kernel) rfl ?_
  refine ex_getR (pc := 144) (a := 66) (by decide +kernel) lf_MD_76 (sh_L (b := 0) (n := 71) (i := 0) (j := 0) hB (KXs_131 B) rfl) rfl ?_
  refine ex_iload_n (pc := 147) (k := 1) (by decide +kernel) rfl ?_
  refine ex_new (pc := 148) (by decide +kernel) (in_t2 (i := 37) rfl rfl) (in_t2 (i := 39) rfl rfl) (in_t1 (i := 9) rfl rfl) cf_Sheet udv_Sheet ⟨by decide, by decide⟩ (Nat.lt_of_le_of_lt (Nat.le_of_eq (sh_N (b := 0) (n := 71) (q := 71) hB (KXs_131 B) rfl)) (by decide)) ?_
  rw [nw_L (sh_N (b := 0) (n := 71) (q := 71) hB (KXs_131 B) rfl), (sh_N (b := 0) (n := 71) (q := 71) hB (KXs_131 B) rfl)]
  show Ex _ _ 6 413 _ _ _ (KX132 B) _
  refine ex_dup (pc := 151) (by decide +kernel) rfl ?_
  refine ex_callIN (host := "MarketDays") (pc := 152) (as := []) (by decide +kernel) F_Sheet_init (List.mem_filter.mpr ⟨in_u2 (i := 40) rfl, rfl⟩) rfl rfl rfl (Nat.le_of_ble_eq_true rfl) (Nat.lt_succ_self _) ⟨by decide, by decide⟩ (KC_V (KX_c71 (B := B) hB ?_))
  show Ex _ _ 5 373 _ _ _ (KX136 B) _
  refine ex_aast (pc := 155) (by decide +kernel) (sh_L (b := 0) (n := 73) (i := 66) (j := 66) hB (KXs_136 B) rfl) (vN (n := 4) (by decide) (by decide)) (sh_L (b := 0) (n := 73) (i := 71) (j := 71) hB (KXs_136 B) rfl) (by decide) ?_
  rw [show (nI 2).toNatClampNeg = 2 from nI_clamp (by decide)]
  show Ex _ _ 5 373 _ _ _ (KX137 B) _
  refine ex_iinc (pc := 156) (i := 1) (k := 1) (v := nI 3) (lo2 := [some (.ref 0), some (.int (nI 3))]) (by decide +kernel) (by decide) rfl (by decide) rfl ?_
  refine ex_goto (pc := 159) (off := -21) (tgt := 138) (by decide +kernel) (by decide) ?_
  refine ex_iload_n (pc := 138) (k := 1) (by decide +kernel) rfl ?_
  refine ex_iconst (pc := 139) (k := 4) (v := nI 4) (by decide +kernel) (by decide) ?_
  refine ex_icmp_ge (pc := 140) (off := 22) (tgt := 162) (by decide +kernel) (by decide) (fun hc => absurd hc (by decide)) (fun _ => ?_)
  refine ex_aload_n (pc := 143) (k := 0) (by decide +kernel) rfl ?_
  refine ex_getR (pc := 144) (a := 66) (by decide +kernel) lf_MD_76 (sh_L (b := 0) (n := 73) (i := 0) (j := 0) hB (KXs_137 B) rfl) rfl ?_
  refine ex_iload_n (pc := 147) (k := 1) (by decide +kernel) rfl ?_
  refine ex_new (pc := 148) (by decide +kernel) (in_t2 (i := 37) rfl rfl) (in_t2 (i := 39) rfl rfl) (in_t1 (i := 9) rfl rfl) cf_Sheet udv_Sheet ⟨by decide, by decide⟩ (Nat.lt_of_le_of_lt (Nat.le_of_eq (sh_N (b := 0) (n := 73) (q := 73) hB (KXs_137 B) rfl)) (by decide)) ?_
  rw [nw_L (sh_N (b := 0) (n := 73) (q := 73) hB (KXs_137 B) rfl), (sh_N (b := 0) (n := 73) (q := 73) hB (KXs_137 B) rfl)]
  show Ex _ _ 4 370 _ _ _ (KX138 B) _
  refine ex_dup (pc := 151) (by decide +kernel) rfl ?_
  refine ex_callIN (host := "MarketDays") (pc := 152) (as := []) (by decide +kernel) F_Sheet_init (List.mem_filter.mpr ⟨in_u2 (i := 40) rfl, rfl⟩) rfl rfl rfl (Nat.le_of_ble_eq_true rfl) (Nat.lt_succ_self _) ⟨by decide, by decide⟩ (KC_V (KX_c73 (B := B) hB ?_))
  show Ex _ _ 3 330 _ _ _ (KX142 B) _
  refine ex_aast (pc := 155) (by decide +kernel) (sh_L (b := 0) (n := 75) (i := 66) (j := 66) hB (KXs_142 B) rfl) (vN (n := 4) (by decide) (by decide)) (sh_L (b := 0) (n := 75) (i := 73) (j := 73) hB (KXs_142 B) rfl) (by decide) ?_
  rw [show (nI 3).toNatClampNeg = 3 from nI_clamp (by decide)]
  show Ex _ _ 3 330 _ _ _ (KX143 B) _
  refine ex_iinc (pc := 156) (i := 1) (k := 1) (v := nI 4) (lo2 := [some (.ref 0), some (.int (nI 4))]) (by decide +kernel) (by decide) rfl (by decide) rfl ?_
  refine ex_goto (pc := 159) (off := -21) (tgt := 138) (by decide +kernel) (by decide) ?_
  refine ex_iload_n (pc := 138) (k := 1) (by decide +kernel) rfl ?_
  refine ex_iconst (pc := 139) (k := 4) (v := nI 4) (by decide +kernel) (by decide) ?_
  refine ex_icmp_ge (pc := 140) (off := 22) (tgt := 162) (by decide +kernel) (by decide) (fun _ => ?_) (fun hc => absurd (by decide) hc)
  exact h
