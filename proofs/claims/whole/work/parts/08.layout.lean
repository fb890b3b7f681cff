/-! the layout that the constructors leave: shapes of the first 113 cells, references that never change; wrappers for printed blocks -/
def shT : List (Nat × Nat) := [(0, 11), (4, 12), (100, 6), (100, 6), (100, 6), (100, 6), (103, 6), (100, 6), (100, 6), (100, 6), (100, 6), (100, 6), (100, 6), (103, 6), (100, 6), (100, 6), (100, 6), (100, 6), (100, 6), (100, 6), (100, 10), (100, 10), (4, 12), (100, 6), (100, 6), (100, 6), (100, 6), (103, 6), (100, 6), (100, 6), (100, 6), (100, 6), (100, 6), (100, 6), (103, 6), (100, 6), (100, 6), (100, 6), (100, 6), (100, 6), (100, 6), (100, 10), (100, 10), (9, 10), (100, 160), (100, 160), (5, 5), (104, 6), (100, 6), (100, 40), (105, 12), (1, 4), (100, 6), (2, 8), (100, 6), (100, 1764), (100, 384), (100, 7), (10, 9), (100, 6), (100, 6), (100, 6), (100, 6), (6, 5), (100, 7), (100, 42), (106, 4), (8, 3), (100, 40), (8, 3), (100, 40), (8, 3), (100, 40), (8, 3), (100, 40), (7, 2), (100, 3), (100, 9), (11, 56), (100, 6), (100, 6), (100, 6), (100, 6), (100, 36), (100, 10), (100, 10), (100, 160), (100, 1200), (100, 24), (100, 12), (100, 12), (100, 72), (100, 6), (100, 7), (100, 6), (100, 6), (100, 6), (100, 36), (100, 10), (100, 10), (100, 4), (100, 4), (100, 160), (100, 36), (102, 11), (100, 200), (100, 200), (100, 6), (101, 36), (100, 6), (100, 29400), (101, 29400), (100, 1968)]
def refT : List (List (Option Nat)) := [[some 1, some 22, none, some 43, some 46, some 50, none, some 51, some 53, some 63, some 66], [some 2, some 3, some 4, some 5, some 6, some 13, some 20, some 21], [], [], [], [], [some 7, some 8, some 9, some 10, some 11, some 12], [], [], [], [], [], [], [some 14, some 15, some 16, some 17, some 18, some 19], [], [], [], [], [], [], [], [], [some 23, some 24, some 25, some 26, some 27, some 34, some 41, some 42], [], [], [], [], [some 28, some 29, some 30, some 31, some 32, some 33], [], [], [], [], [], [], [some 35, some 36, some 37, some 38, some 39, some 40], [], [], [], [], [], [], [], [], [some 44, none, none, none, none, none, none, none, some 45], [], [], [some 1, some 47, none, some 48, some 49], [], [], [], [], [some 1, some 46, some 52], [], [some 1, some 46, some 58, some 54, none, some 55, some 56, some 57], [], [], [], [], [some 1, some 46, none, some 59, some 60, none, some 61, some 62], [], [], [], [], [some 1, some 51, some 64, none, some 65], [], [], [some 67, some 69, some 71, some 73], [some 68], [], [some 70], [], [some 72], [], [some 74], [], [some 76, some 77], [], [], [none, some 79, some 80, some 81, some 82, some 83, none, none, some 84, some 85, some 86, none, some 87, some 88, none, none, none, some 89, some 90, some 91, none, none, some 92, none, some 93, none, none, none, none, none, some 94, some 95, some 96, some 97, some 98, some 99, some 100, some 101, some 102, some 103, none, none, none, none, some 104, some 105, none, none, none, some 106, some 107, some 108, some 109, some 110, some 111, some 112], [], [], [], [], [], [], [], [], [], [], [], [], [], [], [], [], [], [], [], [], [], [], [], [], [], [], [], [], [], [], [], [], [], []]
/-- x's part: cells 0 .. 74; m's part: cells 78 .. 112 -/
def Fz (a b : Nat) (M : Mem) : Prop := (∀ (j : Nat) (kn : Nat × Nat), a ≤ j → j < b → shT[j]? = some kn → (sh M)[j]? = some kn) ∧ (∀ (j k q : Nat) (l : List (Option Nat)), a ≤ j → j < b → refT[j]? = some l → l[k]? = some (some q) → mr M j k = some q)
def Fx (M : Mem) : Prop := Fz 0 75 M
def Fm (M : Mem) : Prop := Fz 78 113 M
theorem Fx.s {M : Mem} (h : Fx M) {j : Nat} {kn : Nat × Nat} (hj : shT[j]? = some kn) (hl : j < 75 := by decide) : (sh M)[j]? = some kn := h.1 j kn (Nat.zero_le _) hl hj
theorem Fx.r {M : Mem} (h : Fx M) {j k q : Nat} {l : List (Option Nat)} (hj : refT[j]? = some l) (hk : l[k]? = some (some q)) (hl : j < 75 := by decide) : mr M j k = some q := h.2 j k q l (Nat.zero_le _) hl hj hk
theorem Fm.s {M : Mem} (h : Fm M) {j : Nat} {kn : Nat × Nat} (hj : shT[j]? = some kn) (h1 : 78 ≤ j := by decide) (h2 : j < 113 := by decide) : (sh M)[j]? = some kn := h.1 j kn h1 h2 hj
theorem Fm.r {M : Mem} (h : Fm M) {j k q : Nat} {l : List (Option Nat)} (hj : refT[j]? = some l) (hk : l[k]? = some (some q)) (h1 : 78 ≤ j := by decide) (h2 : j < 113 := by decide) : mr M j k = some q := h.2 j k q l h1 h2 hj hk
theorem Fx.len {M : Mem} (h : Fx M) : 75 ≤ (sh M).length := by
  have := (List.getElem?_eq_some_iff.mp (h.s (j := 74) rfl)).1
  omega
theorem Fm.len {M : Mem} (h : Fm M) : 113 ≤ (sh M).length := by
  have := (List.getElem?_eq_some_iff.mp (h.s (j := 112) rfl)).1
  omega
theorem Fz.nw {a b : Nat} {M : Mem} (h : Fz a b M) (hb : b ≤ (sh M).length) (k N : Nat) : Fz a b (nw M k N) := by
  refine ⟨fun j kn h1 h2 hj => ?_, fun j q r l h1 h2 hj hk => ?_⟩
  · show (sh M ++ [(k, N)])[j]? = some kn
    rw [List.getElem?_append_left (by omega)]
    exact h.1 j kn h1 h2 hj
  · show ro (mr M) (sh M).length (fun _ => none) j q = some r
    rw [ro_n (by omega)]
    exact h.2 j q r l h1 h2 hj hk
theorem Fx.fnw {M : Mem} (h : Fx M) (k N : Nat) : Fx (nw M k N) := Fz.nw h h.len k N
theorem Fm.fnw {M : Mem} (h : Fm M) (k N : Nat) : Fm (nw M k N) := Fz.nw h h.len k N
/-- a reference outside the table is written -/
theorem Fz.wr {a b : Nat} {M : Mem} (h : Fz a b M) {j k : Nat} (v : Option Nat) (hn : a ≤ j → j < b → ∀ l, refT[j]? = some l → ∀ q, l[k]? ≠ some (some q)) : Fz a b (wr M j k v) := by
  refine ⟨h.1, fun i q r l h1 h2 hj hk => ?_⟩
  show u2 (mr M) j k v i q = some r
  by_cases hij : i = j
  · subst hij
    rw [u2_s]
    by_cases hq : q = k
    · subst hq
      exact absurd hk (hn h1 h2 l hj r)
    · rw [u1_n hq]
      exact h.2 i q r l h1 h2 hj hk
  · rw [u2_n hij]
    exact h.2 i q r l h1 h2 hj hk
theorem Fx.fwr {M : Mem} (h : Fx M) {j k : Nat} (v : Option Nat) (hn : ∀ l, refT[j]? = some l → ∀ q, l[k]? ≠ some (some q)) : Fx (wr M j k v) := Fz.wr h v (fun _ _ => hn)
theorem Fx.fwrN {M : Mem} (h : Fx M) {j k : Nat} (v : Option Nat) (hn : 75 ≤ j) : Fx (wr M j k v) := Fz.wr h v (fun _ h2 => by omega)
theorem Fm.fwrN {M : Mem} (h : Fm M) {j k : Nat} (v : Option Nat) (hn : j < 78 ∨ 113 ≤ j) : Fm (wr M j k v) := Fz.wr h v (fun h1 h2 => by omega)
theorem Fz.of {a b : Nat} {M M2 : Mem} (h : Fz a b M) (h1 : ∀ j, a ≤ j → j < b → (sh M2)[j]? = (sh M)[j]?) (h2 : ∀ j, a ≤ j → j < b → mr M2 j = mr M j) : Fz a b M2 := ⟨fun j kn a1 a2 hj => by rw [h1 j a1 a2]; exact h.1 j kn a1 a2 hj, fun j k r l a1 a2 hj hk => by
  rw [h2 j a1 a2]
  exact h.2 j k r l a1 a2 hj hk⟩
def b2i (b : Bool) : Int32 := if b then 1 else 0
theorem b2i_t : b2i true = 1 := rfl
theorem b2i_f : b2i false = 0 := rfl
theorem b2i_0 (b : Bool) : b2i b = 0 ↔ b = false := by cases b <;> decide
theorem b2i_n (b : Bool) : narrow .boolean (.int (b2i b)) = .int (b2i b) := by cases b <;> rfl
/-- ends: an int, a boolean, a long, nothing, a reference or null -/
def PI (K : Int32 → Mem → Prop) : Option Value → Mem → Prop := fun o M => ∃ v, o = some (.int v) ∧ K v M
def PB (K : Bool → Mem → Prop) : Option Value → Mem → Prop := fun o M => ∃ b, o = some (.int (b2i b)) ∧ K b M
def PL (K : Int64 → Mem → Prop) : Option Value → Mem → Prop := fun o M => ∃ v, o = some (.long v) ∧ K v M
def PV (K : Mem → Prop) : Option Value → Mem → Prop := fun o M => o = none ∧ K M
def PR (K : Option Nat → Mem → Prop) : Option Value → Mem → Prop := fun o M => ∃ r, o = some (rv r) ∧ K r M
section EY
variable {d : Nat} {y : Mth} {bc bs pc : Nat} {lo : List (Option Value)} {st : List Value} {M : Mem} {Φ : Option Value → Mem → Prop}
theorem ey_getI {index j ci k N : Nat} {v : Int32} (hd : decode y.2.1 pc = .ok (.getfield index, 3)) (hL : LF y.1.cls index ci k 0) (hs : (sh M)[j]? = some (ci, N)) (hv : mi M j k = v) (kk : Ex d y bc bs (pc + 3) lo (.int v :: st) M Φ) : Ex d y bc bs pc lo (.ref j :: st) M Φ := ex_getI hd hL hs (hv ▸ kk)
theorem ey_iald {j N k : Nat} {i v : Int32} (hd : decode y.2.1 pc = .ok (.iaload, 1)) (hs : (sh M)[j]? = some (100, N)) (hi : vp_in i N) (hk : i.toNatClampNeg = k) (hv : mi M j k = v) (kk : Ex d y bc bs (pc + 1) lo (.int v :: st) M Φ) : Ex d y bc bs pc lo (.int i :: .ref j :: st) M Φ := ex_iald hd hs hi (by rw [hk, hv]; exact kk)
theorem ey_zald {j N k : Nat} {i v : Int32} (hd : decode y.2.1 pc = .ok (.baload, 1)) (hs : (sh M)[j]? = some (101, N)) (hi : vp_in i N) (hk : i.toNatClampNeg = k) (hv : mi M j k = v) (kk : Ex d y bc bs (pc + 1) lo (.int v :: st) M Φ) : Ex d y bc bs pc lo (.int i :: .ref j :: st) M Φ := ex_zald hd hs hi (by rw [hk, hv]; exact kk)
theorem ey_lald {j N k : Nat} {i : Int32} {v : Int64} (hd : decode y.2.1 pc = .ok (.laload, 1)) (hs : (sh M)[j]? = some (102, N)) (hi : vp_in i N) (hk : i.toNatClampNeg = k) (hv : ml M j k = v) (kk : Ex d y bc bs (pc + 1) lo (.long v :: st) M Φ) : Ex d y bc bs pc lo (.int i :: .ref j :: st) M Φ := ex_lald hd hs hi (by rw [hk, hv]; exact kk)
theorem ey_aald {j ci N k : Nat} {i : Int32} {r : Option Nat} (hd : decode y.2.1 pc = .ok (.aaload, 1)) (hs : (sh M)[j]? = some (ci, N)) (hc : 103 ≤ ci ∧ ci ≤ 106) (hi : vp_in i N) (hk : i.toNatClampNeg = k) (hv : mr M j k = r) (kk : Ex d y bc bs (pc + 1) lo (rv r :: st) M Φ) : Ex d y bc bs pc lo (.int i :: .ref j :: st) M Φ := ex_aald hd hs hc hi (by rw [hk, hv]; exact kk)
theorem ey_iast {j N k : Nat} {i v : Int32} (hd : decode y.2.1 pc = .ok (.iastore, 1)) (hs : (sh M)[j]? = some (100, N)) (hi : vp_in i N) (hk : i.toNatClampNeg = k) (kk : Ex d y bc bs (pc + 1) lo st (wi M j k v) Φ) : Ex d y bc bs pc lo (.int v :: .int i :: .ref j :: st) M Φ := ex_iast hd hs hi (by rw [hk]; exact kk)
theorem ey_zast {j N k : Nat} {i v : Int32} (hd : decode y.2.1 pc = .ok (.bastore, 1)) (hs : (sh M)[j]? = some (101, N)) (hi : vp_in i N) (hk : i.toNatClampNeg = k) (hz : narrow .boolean (.int v) = .int v) (kk : Ex d y bc bs (pc + 1) lo st (wi M j k v) Φ) : Ex d y bc bs pc lo (.int v :: .int i :: .ref j :: st) M Φ := ex_zast hd hs hi hz (by rw [hk]; exact kk)
theorem ey_ifeqB {b : Bool} {off : Int} {tgt : Nat} (hd : decode y.2.1 pc = .ok (.ifCond .eq off, 3)) (ht : (pc : Int) + off = (tgt : Int)) (k1 : b = false → Ex d y bc bs tgt lo st M Φ) (k2 : b = true → Ex d y bc bs (pc + 3) lo st M Φ) : Ex d y bc bs pc lo (.int (b2i b) :: st) M Φ := ex_if_eq hd ht (fun h => k1 ((b2i_0 b).mp h)) (fun h => k2 (by cases b; exact absurd rfl h; rfl))
theorem ey_ifneB {b : Bool} {off : Int} {tgt : Nat} (hd : decode y.2.1 pc = .ok (.ifCond .ne off, 3)) (ht : (pc : Int) + off = (tgt : Int)) (k1 : b = true → Ex d y bc bs tgt lo st M Φ) (k2 : b = false → Ex d y bc bs (pc + 3) lo st M Φ) : Ex d y bc bs pc lo (.int (b2i b) :: st) M Φ := ex_if_ne hd ht (fun h => k1 (by cases b; exact absurd rfl h; rfl)) (fun h => k2 ((b2i_0 b).mp h))
theorem ey_areturn {r : Option Nat} {rt : FieldType} (hd : decode y.2.1 pc = .ok (.areturn, 1)) (hr : y.2.2.2 = some rt) (hrt : (∃ n, rt = .object n) ∨ ∃ t, rt = .array t) (h : Φ (some (rv r)) M) : Ex d y bc bs pc lo [rv r] M Φ := by
  cases r with
  | none => exact ex_areturnN hd hr hrt h
  | some a => exact ex_areturn hd hr hrt h
end EY
theorem KC_I {d : Nat} {y : Mth} {bc bs pc : Nat} {lo : List (Option Value)} {rest : List Value} {Φ : Option Value → Mem → Prop} {d2 : Nat} {y2 : Mth} {mc ms : Nat} {as : List Value} {M : Mem} (h : Con d2 y2 mc ms as M (PI fun v M1 => Ex d y bc bs (pc + 3) lo (.int v :: rest) M1 Φ)) : Con d2 y2 mc ms as M (KC d y bc bs pc lo rest Φ) := h.mono (fun o M2 ⟨v, e, k⟩ => by subst e; exact k)
theorem KC_B {d : Nat} {y : Mth} {bc bs pc : Nat} {lo : List (Option Value)} {rest : List Value} {Φ : Option Value → Mem → Prop} {d2 : Nat} {y2 : Mth} {mc ms : Nat} {as : List Value} {M : Mem} (h : Con d2 y2 mc ms as M (PB fun v M1 => Ex d y bc bs (pc + 3) lo (.int (b2i v) :: rest) M1 Φ)) : Con d2 y2 mc ms as M (KC d y bc bs pc lo rest Φ) := h.mono (fun o M2 ⟨v, e, k⟩ => by subst e; exact k)
theorem KC_L {d : Nat} {y : Mth} {bc bs pc : Nat} {lo : List (Option Value)} {rest : List Value} {Φ : Option Value → Mem → Prop} {d2 : Nat} {y2 : Mth} {mc ms : Nat} {as : List Value} {M : Mem} (h : Con d2 y2 mc ms as M (PL fun v M1 => Ex d y bc bs (pc + 3) lo (.long v :: rest) M1 Φ)) : Con d2 y2 mc ms as M (KC d y bc bs pc lo rest Φ) := h.mono (fun o M2 ⟨v, e, k⟩ => by subst e; exact k)
theorem KC_V {d : Nat} {y : Mth} {bc bs pc : Nat} {lo : List (Option Value)} {rest : List Value} {Φ : Option Value → Mem → Prop} {d2 : Nat} {y2 : Mth} {mc ms : Nat} {as : List Value} {M : Mem} (h : Con d2 y2 mc ms as M (PV fun M1 => Ex d y bc bs (pc + 3) lo rest M1 Φ)) : Con d2 y2 mc ms as M (KC d y bc bs pc lo rest Φ) := h.mono (fun o M2 ⟨e, k⟩ => by subst e; exact k)
theorem KC_R {d : Nat} {y : Mth} {bc bs pc : Nat} {lo : List (Option Value)} {rest : List Value} {Φ : Option Value → Mem → Prop} {d2 : Nat} {y2 : Mth} {mc ms : Nat} {as : List Value} {M : Mem} (h : Con d2 y2 mc ms as M (PR fun r M1 => Ex d y bc bs (pc + 3) lo (rv r :: rest) M1 Φ)) : Con d2 y2 mc ms as M (KC d y bc bs pc lo rest Φ) := h.mono (fun o M2 ⟨v, e, k⟩ => by subst e; exact k)
def mk : List Bool → List (Option Value) → List (Option Value)
  | true :: bs, v :: l => v :: mk bs l
  | false :: bs, _ :: l => none :: mk bs l
  | _, _ => []
theorem mk_at : ∀ (bs : List Bool) (l : List (Option Value)) (i : Nat) (v : Value), (mk bs l)[i]? = some (some v) → l[i]? = some (some v)
  | [], l, i, v, h => by simp [mk] at h
  | _ :: _, [], i, v, h => by simp [mk] at h
  | true :: bs, w :: l, 0, v, h => by simpa [mk] using h
  | false :: bs, w :: l, 0, v, h => by simp [mk] at h
  | true :: bs, w :: l, i + 1, v, h => by
    simp only [mk, List.getElem?_cons_succ] at h ⊢
    exact mk_at bs l i v h
  | false :: bs, w :: l, i + 1, v, h => by
    simp only [mk, List.getElem?_cons_succ] at h ⊢
    exact mk_at bs l i v h
theorem Ex.msk {d : Nat} {y : Mth} {bc bs pc : Nat} {lo : List (Option Value)} {st : List Value} {M : Mem} {Φ : Option Value → Mem → Prop} (m : List Bool) (h : Ex d y bc bs pc (mk m lo) st M Φ) : Ex d y bc bs pc lo st M Φ := h.low (fun i v q => mk_at m lo i v q)
theorem tab_out {x : Int32} {lo hi : Int} (h : ∀ q : Int, lo ≤ q → q ≤ hi → ¬ x = Int32.ofInt q) : x.toInt < lo ∨ hi < x.toInt := by
  by_cases h1 : x.toInt < lo
  · exact Or.inl h1
  · by_cases h2 : hi < x.toInt
    · exact Or.inr h2
    · exact absurd (show x = Int32.ofInt x.toInt by simp) (h x.toInt (by omega) (by omega))
theorem lf_Land_9 : LF "MarketDays$Land" 9 4 0 2 := ⟨_, _, _, _, cf_Land, by decide, in_t1 (i := 37) rfl rfl, rfl⟩
theorem lf_Law_45 : LF "MarketDays$Law" 45 4 0 2 := ⟨_, _, _, _, cf_Land, by decide, in_t1 (i := 38) rfl rfl, rfl⟩
theorem lf_Pedlar_70 : LF "MarketDays$Pedlar" 70 4 0 2 := ⟨_, _, _, _, cf_Land, by decide, in_t1 (i := 39) rfl rfl, rfl⟩
theorem lf_MD_140 : LF "MarketDays" 140 4 0 2 := ⟨_, _, _, _, cf_Land, by decide, in_t1 (i := 40) rfl rfl, rfl⟩
theorem lf_Land_15 : LF "MarketDays$Land" 15 4 1 2 := ⟨_, _, _, _, cf_Land, by decide, in_t1 (i := 41) rfl rfl, rfl⟩
theorem lf_Ways_74 : LF "MarketDays$Ways" 74 4 1 2 := ⟨_, _, _, _, cf_Land, by decide, in_t1 (i := 42) rfl rfl, rfl⟩
theorem lf_Fair_50 : LF "MarketDays$Fair" 50 4 1 2 := ⟨_, _, _, _, cf_Land, by decide, in_t1 (i := 43) rfl rfl, rfl⟩
theorem lf_MD_130 : LF "MarketDays" 130 4 1 2 := ⟨_, _, _, _, cf_Land, by decide, in_t1 (i := 44) rfl rfl, rfl⟩
theorem lf_Land_18 : LF "MarketDays$Land" 18 4 2 2 := ⟨_, _, _, _, cf_Land, by decide, in_t1 (i := 45) rfl rfl, rfl⟩
theorem lf_Law_59 : LF "MarketDays$Law" 59 4 2 2 := ⟨_, _, _, _, cf_Land, by decide, in_t1 (i := 46) rfl rfl, rfl⟩
theorem lf_MD_134 : LF "MarketDays" 134 4 2 2 := ⟨_, _, _, _, cf_Land, by decide, in_t1 (i := 47) rfl rfl, rfl⟩
theorem lf_Land_21 : LF "MarketDays$Land" 21 4 3 2 := ⟨_, _, _, _, cf_Land, by decide, in_t1 (i := 48) rfl rfl, rfl⟩
theorem lf_Ways_77 : LF "MarketDays$Ways" 77 4 3 2 := ⟨_, _, _, _, cf_Land, by decide, in_t1 (i := 49) rfl rfl, rfl⟩
theorem lf_MD_137 : LF "MarketDays" 137 4 3 2 := ⟨_, _, _, _, cf_Land, by decide, in_t1 (i := 50) rfl rfl, rfl⟩
theorem lf_Fair_62 : LF "MarketDays$Fair" 62 4 3 2 := ⟨_, _, _, _, cf_Land, by decide, in_t1 (i := 51) rfl rfl, rfl⟩
theorem lf_Land_26 : LF "MarketDays$Land" 26 4 4 2 := ⟨_, _, _, _, cf_Land, by decide, in_t1 (i := 52) rfl rfl, rfl⟩
theorem lf_Land_29 : LF "MarketDays$Land" 29 4 5 2 := ⟨_, _, _, _, cf_Land, by decide, in_t1 (i := 53) rfl rfl, rfl⟩
theorem lf_Land_32 : LF "MarketDays$Land" 32 4 6 2 := ⟨_, _, _, _, cf_Land, by decide, in_t1 (i := 54) rfl rfl, rfl⟩
theorem lf_Land_35 : LF "MarketDays$Land" 35 4 7 2 := ⟨_, _, _, _, cf_Land, by decide, in_t1 (i := 55) rfl rfl, rfl⟩
theorem lf_Land_38 : LF "MarketDays$Land" 38 4 8 0 := ⟨_, _, _, _, cf_Land, by decide, in_t1 (i := 56) rfl rfl, rfl⟩
theorem lf_Fair_27 : LF "MarketDays$Fair" 27 4 8 0 := ⟨_, _, _, _, cf_Land, by decide, in_t1 (i := 57) rfl rfl, rfl⟩
theorem lf_Ways_49 : LF "MarketDays$Ways" 49 4 8 0 := ⟨_, _, _, _, cf_Land, by decide, in_t1 (i := 58) rfl rfl, rfl⟩
theorem lf_Pedlar_35 : LF "MarketDays$Pedlar" 35 4 8 0 := ⟨_, _, _, _, cf_Land, by decide, in_t1 (i := 59) rfl rfl, rfl⟩
theorem lf_MD_109 : LF "MarketDays" 109 4 8 0 := ⟨_, _, _, _, cf_Land, by decide, in_t1 (i := 60) rfl rfl, rfl⟩
theorem lf_Finder_66 : LF "MarketDays$Finder" 66 4 8 0 := ⟨_, _, _, _, cf_Land, by decide, in_t1 (i := 61) rfl rfl, rfl⟩
theorem lf_Land_42 : LF "MarketDays$Land" 42 4 9 0 := ⟨_, _, _, _, cf_Land, by decide, in_t1 (i := 62) rfl rfl, rfl⟩
theorem lf_Pedlar_30 : LF "MarketDays$Pedlar" 30 4 9 0 := ⟨_, _, _, _, cf_Land, by decide, in_t1 (i := 63) rfl rfl, rfl⟩
theorem lf_Finder_45 : LF "MarketDays$Finder" 45 4 9 0 := ⟨_, _, _, _, cf_Land, by decide, in_t1 (i := 64) rfl rfl, rfl⟩
theorem lf_MD_123 : LF "MarketDays" 123 4 9 0 := ⟨_, _, _, _, cf_Land, by decide, in_t1 (i := 65) rfl rfl, rfl⟩
theorem lf_Law_62 : LF "MarketDays$Law" 62 4 9 0 := ⟨_, _, _, _, cf_Land, by decide, in_t1 (i := 66) rfl rfl, rfl⟩
theorem lf_Giving_41 : LF "MarketDays$Giving" 41 4 9 0 := ⟨_, _, _, _, cf_Land, by decide, in_t1 (i := 67) rfl rfl, rfl⟩
theorem lf_Fair_53 : LF "MarketDays$Fair" 53 4 9 0 := ⟨_, _, _, _, cf_Land, by decide, in_t1 (i := 68) rfl rfl, rfl⟩
theorem lf_Land_45 : LF "MarketDays$Land" 45 4 10 0 := ⟨_, _, _, _, cf_Land, by decide, in_t1 (i := 69) rfl rfl, rfl⟩
theorem lf_MD_150 : LF "MarketDays" 150 4 10 0 := ⟨_, _, _, _, cf_Land, by decide, in_t1 (i := 70) rfl rfl, rfl⟩
theorem lf_Land_48 : LF "MarketDays$Land" 48 4 11 0 := ⟨_, _, _, _, cf_Land, by decide, in_t1 (i := 71) rfl rfl, rfl⟩
theorem lf_Law_32 : LF "MarketDays$Law" 32 4 11 0 := ⟨_, _, _, _, cf_Land, by decide, in_t1 (i := 72) rfl rfl, rfl⟩
theorem lf_MD_162 : LF "MarketDays" 162 4 11 0 := ⟨_, _, _, _, cf_Land, by decide, in_t1 (i := 73) rfl rfl, rfl⟩
theorem lf_Tape_9 : LF "MarketDays$Tape" 9 9 0 2 := ⟨_, _, _, _, cf_Tape, by decide, in_t1 (i := 106) rfl rfl, rfl⟩
theorem lf_Tape_15 : LF "MarketDays$Tape" 15 9 1 0 := ⟨_, _, _, _, cf_Tape, by decide, in_t1 (i := 107) rfl rfl, rfl⟩
theorem lf_MD_153 : LF "MarketDays" 153 9 1 0 := ⟨_, _, _, _, cf_Tape, by decide, in_t1 (i := 108) rfl rfl, rfl⟩
theorem lf_Tape_19 : LF "MarketDays$Tape" 19 9 2 0 := ⟨_, _, _, _, cf_Tape, by decide, in_t1 (i := 109) rfl rfl, rfl⟩
theorem lf_MD_159 : LF "MarketDays" 159 9 2 0 := ⟨_, _, _, _, cf_Tape, by decide, in_t1 (i := 110) rfl rfl, rfl⟩
theorem lf_Tape_22 : LF "MarketDays$Tape" 22 9 3 0 := ⟨_, _, _, _, cf_Tape, by decide, in_t1 (i := 111) rfl rfl, rfl⟩
theorem lf_Tape_25 : LF "MarketDays$Tape" 25 9 4 0 := ⟨_, _, _, _, cf_Tape, by decide, in_t1 (i := 112) rfl rfl, rfl⟩
theorem lf_Tape_28 : LF "MarketDays$Tape" 28 9 5 0 := ⟨_, _, _, _, cf_Tape, by decide, in_t1 (i := 113) rfl rfl, rfl⟩
theorem lf_Tape_31 : LF "MarketDays$Tape" 31 9 6 0 := ⟨_, _, _, _, cf_Tape, by decide, in_t1 (i := 114) rfl rfl, rfl⟩
theorem lf_Tape_34 : LF "MarketDays$Tape" 34 9 7 0 := ⟨_, _, _, _, cf_Tape, by decide, in_t1 (i := 115) rfl rfl, rfl⟩
theorem lf_Tape_37 : LF "MarketDays$Tape" 37 9 8 2 := ⟨_, _, _, _, cf_Tape, by decide, in_t1 (i := 116) rfl rfl, rfl⟩
theorem lf_Tape_40 : LF "MarketDays$Tape" 40 9 9 0 := ⟨_, _, _, _, cf_Tape, by decide, in_t1 (i := 117) rfl rfl, rfl⟩
theorem lf_Law_28 : LF "MarketDays$Law" 28 5 0 2 := ⟨_, _, _, _, cf_Law, by decide, in_t1 (i := 147) rfl rfl, rfl⟩
theorem lf_Law_11 : LF "MarketDays$Law" 11 5 1 2 := ⟨_, _, _, _, cf_Law, by decide, in_t1 (i := 148) rfl rfl, rfl⟩
theorem lf_Law_17 : LF "MarketDays$Law" 17 5 2 0 := ⟨_, _, _, _, cf_Law, by decide, in_t1 (i := 149) rfl rfl, rfl⟩
theorem lf_MD_156 : LF "MarketDays" 156 5 2 0 := ⟨_, _, _, _, cf_Law, by decide, in_t1 (i := 150) rfl rfl, rfl⟩
theorem lf_Law_21 : LF "MarketDays$Law" 21 5 3 2 := ⟨_, _, _, _, cf_Law, by decide, in_t1 (i := 151) rfl rfl, rfl⟩
theorem lf_Law_25 : LF "MarketDays$Law" 25 5 4 2 := ⟨_, _, _, _, cf_Law, by decide, in_t1 (i := 152) rfl rfl, rfl⟩
theorem lf_Fair_19 : LF "MarketDays$Fair" 19 1 0 2 := ⟨_, _, _, _, cf_Fair, by decide, in_t1 (i := 172) rfl rfl, rfl⟩
theorem lf_Fair_23 : LF "MarketDays$Fair" 23 1 1 2 := ⟨_, _, _, _, cf_Fair, by decide, in_t1 (i := 173) rfl rfl, rfl⟩
theorem lf_Fair_9 : LF "MarketDays$Fair" 9 1 2 2 := ⟨_, _, _, _, cf_Fair, by decide, in_t1 (i := 174) rfl rfl, rfl⟩
theorem lf_Fair_15 : LF "MarketDays$Fair" 15 1 3 2 := ⟨_, _, _, _, cf_Fair, by decide, in_t1 (i := 175) rfl rfl, rfl⟩
theorem lf_Ways_35 : LF "MarketDays$Ways" 35 10 0 2 := ⟨_, _, _, _, cf_Ways, by decide, in_t1 (i := 197) rfl rfl, rfl⟩
theorem lf_Ways_39 : LF "MarketDays$Ways" 39 10 1 2 := ⟨_, _, _, _, cf_Ways, by decide, in_t1 (i := 198) rfl rfl, rfl⟩
theorem lf_Ways_9 : LF "MarketDays$Ways" 9 10 2 0 := ⟨_, _, _, _, cf_Ways, by decide, in_t1 (i := 199) rfl rfl, rfl⟩
theorem lf_Ways_15 : LF "MarketDays$Ways" 15 10 3 2 := ⟨_, _, _, _, cf_Ways, by decide, in_t1 (i := 200) rfl rfl, rfl⟩
theorem lf_Ways_19 : LF "MarketDays$Ways" 19 10 4 2 := ⟨_, _, _, _, cf_Ways, by decide, in_t1 (i := 201) rfl rfl, rfl⟩
theorem lf_Ways_22 : LF "MarketDays$Ways" 22 10 5 0 := ⟨_, _, _, _, cf_Ways, by decide, in_t1 (i := 202) rfl rfl, rfl⟩
theorem lf_Ways_25 : LF "MarketDays$Ways" 25 10 6 2 := ⟨_, _, _, _, cf_Ways, by decide, in_t1 (i := 203) rfl rfl, rfl⟩
theorem lf_Ways_28 : LF "MarketDays$Ways" 28 10 7 2 := ⟨_, _, _, _, cf_Ways, by decide, in_t1 (i := 204) rfl rfl, rfl⟩
theorem lf_Finder_89 : LF "MarketDays$Finder" 89 10 7 2 := ⟨_, _, _, _, cf_Ways, by decide, in_t1 (i := 205) rfl rfl, rfl⟩
theorem lf_Ways_31 : LF "MarketDays$Ways" 31 10 8 0 := ⟨_, _, _, _, cf_Ways, by decide, in_t1 (i := 206) rfl rfl, rfl⟩
theorem lf_Finder_28 : LF "MarketDays$Finder" 28 2 0 2 := ⟨_, _, _, _, cf_Finder, by decide, in_t1 (i := 226) rfl rfl, rfl⟩
theorem lf_Finder_32 : LF "MarketDays$Finder" 32 2 1 2 := ⟨_, _, _, _, cf_Finder, by decide, in_t1 (i := 227) rfl rfl, rfl⟩
theorem lf_Finder_41 : LF "MarketDays$Finder" 41 2 2 2 := ⟨_, _, _, _, cf_Finder, by decide, in_t1 (i := 228) rfl rfl, rfl⟩
theorem lf_Finder_9 : LF "MarketDays$Finder" 9 2 3 2 := ⟨_, _, _, _, cf_Finder, by decide, in_t1 (i := 229) rfl rfl, rfl⟩
theorem lf_MD_242 : LF "MarketDays" 242 2 3 2 := ⟨_, _, _, _, cf_Finder, by decide, in_t1 (i := 230) rfl rfl, rfl⟩
theorem lf_Finder_15 : LF "MarketDays$Finder" 15 2 4 0 := ⟨_, _, _, _, cf_Finder, by decide, in_t1 (i := 231) rfl rfl, rfl⟩
theorem lf_MD_239 : LF "MarketDays" 239 2 4 0 := ⟨_, _, _, _, cf_Finder, by decide, in_t1 (i := 232) rfl rfl, rfl⟩
theorem lf_Finder_19 : LF "MarketDays$Finder" 19 2 5 2 := ⟨_, _, _, _, cf_Finder, by decide, in_t1 (i := 233) rfl rfl, rfl⟩
theorem lf_Finder_22 : LF "MarketDays$Finder" 22 2 6 2 := ⟨_, _, _, _, cf_Finder, by decide, in_t1 (i := 234) rfl rfl, rfl⟩
theorem lf_Finder_25 : LF "MarketDays$Finder" 25 2 7 2 := ⟨_, _, _, _, cf_Finder, by decide, in_t1 (i := 235) rfl rfl, rfl⟩
theorem lf_Pedlar_22 : LF "MarketDays$Pedlar" 22 6 0 2 := ⟨_, _, _, _, cf_Pedlar, by decide, in_t2 (i := 19) rfl rfl, rfl⟩
theorem lf_Pedlar_26 : LF "MarketDays$Pedlar" 26 6 1 2 := ⟨_, _, _, _, cf_Pedlar, by decide, in_t2 (i := 20) rfl rfl, rfl⟩
theorem lf_Pedlar_9 : LF "MarketDays$Pedlar" 9 6 2 2 := ⟨_, _, _, _, cf_Pedlar, by decide, in_t2 (i := 21) rfl rfl, rfl⟩
theorem lf_MD_267 : LF "MarketDays" 267 6 2 2 := ⟨_, _, _, _, cf_Pedlar, by decide, in_t2 (i := 22) rfl rfl, rfl⟩
theorem lf_Pedlar_15 : LF "MarketDays$Pedlar" 15 6 3 0 := ⟨_, _, _, _, cf_Pedlar, by decide, in_t2 (i := 23) rfl rfl, rfl⟩
theorem lf_MD_264 : LF "MarketDays" 264 6 3 0 := ⟨_, _, _, _, cf_Pedlar, by decide, in_t2 (i := 24) rfl rfl, rfl⟩
theorem lf_Pedlar_19 : LF "MarketDays$Pedlar" 19 6 4 2 := ⟨_, _, _, _, cf_Pedlar, by decide, in_t2 (i := 25) rfl rfl, rfl⟩
theorem lf_Sheet_9 : LF "MarketDays$Sheet" 9 8 0 2 := ⟨_, _, _, _, cf_Sheet, by decide, in_t2 (i := 44) rfl rfl, rfl⟩
theorem lf_Pedlar_78 : LF "MarketDays$Pedlar" 78 8 0 2 := ⟨_, _, _, _, cf_Sheet, by decide, in_t2 (i := 45) rfl rfl, rfl⟩
theorem lf_MD_187 : LF "MarketDays" 187 8 0 2 := ⟨_, _, _, _, cf_Sheet, by decide, in_t2 (i := 46) rfl rfl, rfl⟩
theorem lf_Sheet_15 : LF "MarketDays$Sheet" 15 8 1 0 := ⟨_, _, _, _, cf_Sheet, by decide, in_t2 (i := 47) rfl rfl, rfl⟩
theorem lf_MD_287 : LF "MarketDays" 287 8 1 0 := ⟨_, _, _, _, cf_Sheet, by decide, in_t2 (i := 48) rfl rfl, rfl⟩
theorem lf_Sheet_19 : LF "MarketDays$Sheet" 19 8 2 0 := ⟨_, _, _, _, cf_Sheet, by decide, in_t2 (i := 49) rfl rfl, rfl⟩
theorem lf_Pedlar_73 : LF "MarketDays$Pedlar" 73 8 2 0 := ⟨_, _, _, _, cf_Sheet, by decide, in_t2 (i := 50) rfl rfl, rfl⟩
theorem lf_MD_182 : LF "MarketDays" 182 8 2 0 := ⟨_, _, _, _, cf_Sheet, by decide, in_t2 (i := 51) rfl rfl, rfl⟩
theorem lf_Rule_7 : LF "MarketDays$Rule" 7 7 0 2 := ⟨_, _, _, _, cf_Rule, by decide, in_t2 (i := 222) rfl rfl, rfl⟩
theorem lf_Law_52 : LF "MarketDays$Law" 52 7 0 2 := ⟨_, _, _, _, cf_Rule, by decide, in_t2 (i := 223) rfl rfl, rfl⟩
theorem lf_Rule_13 : LF "MarketDays$Rule" 13 7 1 2 := ⟨_, _, _, _, cf_Rule, by decide, in_t2 (i := 224) rfl rfl, rfl⟩
theorem lf_Law_65 : LF "MarketDays$Law" 65 7 1 2 := ⟨_, _, _, _, cf_Rule, by decide, in_t2 (i := 225) rfl rfl, rfl⟩
theorem lf_MD_10 : LF "MarketDays" 10 0 0 2 := ⟨_, _, _, _, cf_MD, by decide, in_t2 (i := 236) rfl rfl, rfl⟩
theorem lf_MD_16 : LF "MarketDays" 16 0 1 2 := ⟨_, _, _, _, cf_MD, by decide, in_t2 (i := 237) rfl rfl, rfl⟩
theorem lf_MD_19 : LF "MarketDays" 19 0 2 0 := ⟨_, _, _, _, cf_MD, by decide, in_t2 (i := 238) rfl rfl, rfl⟩
theorem lf_MD_26 : LF "MarketDays" 26 0 3 2 := ⟨_, _, _, _, cf_MD, by decide, in_t2 (i := 239) rfl rfl, rfl⟩
theorem lf_MD_35 : LF "MarketDays" 35 0 4 2 := ⟨_, _, _, _, cf_MD, by decide, in_t3 (i := 0) rfl rfl, rfl⟩
theorem lf_MD_41 : LF "MarketDays" 41 0 5 2 := ⟨_, _, _, _, cf_MD, by decide, in_t3 (i := 1) rfl rfl, rfl⟩
theorem lf_MD_45 : LF "MarketDays" 45 0 6 0 := ⟨_, _, _, _, cf_MD, by decide, in_t3 (i := 2) rfl rfl, rfl⟩
theorem lf_MD_54 : LF "MarketDays" 54 0 7 2 := ⟨_, _, _, _, cf_MD, by decide, in_t3 (i := 3) rfl rfl, rfl⟩
theorem lf_MD_61 : LF "MarketDays" 61 0 8 2 := ⟨_, _, _, _, cf_MD, by decide, in_t3 (i := 4) rfl rfl, rfl⟩
theorem lf_MD_70 : LF "MarketDays" 70 0 9 2 := ⟨_, _, _, _, cf_MD, by decide, in_t3 (i := 5) rfl rfl, rfl⟩
theorem lf_MD_76 : LF "MarketDays" 76 0 10 2 := ⟨_, _, _, _, cf_MD, by decide, in_t3 (i := 6) rfl rfl, rfl⟩
theorem lf_Giving_9 : LF "MarketDays$Giving" 9 3 0 0 := ⟨_, _, _, _, cf_Giving, by decide, in_t3 (i := 168) rfl rfl, rfl⟩
theorem lf_MD_223 : LF "MarketDays" 223 3 0 0 := ⟨_, _, _, _, cf_Giving, by decide, in_t3 (i := 169) rfl rfl, rfl⟩
theorem lf_Giving_15 : LF "MarketDays$Giving" 15 3 1 2 := ⟨_, _, _, _, cf_Giving, by decide, in_t3 (i := 170) rfl rfl, rfl⟩
theorem lf_MD_226 : LF "MarketDays" 226 3 1 2 := ⟨_, _, _, _, cf_Giving, by decide, in_t3 (i := 171) rfl rfl, rfl⟩
theorem lf_MM_151 : LF "MarketDaysModel" 151 11 0 0 := ⟨_, _, _, _, cf_MM, by decide, in_t5 (i := 76) rfl rfl, rfl⟩
theorem lf_MM_7 : LF "MarketDaysModel" 7 11 1 2 := ⟨_, _, _, _, cf_MM, by decide, in_t5 (i := 77) rfl rfl, rfl⟩
theorem lf_MM_13 : LF "MarketDaysModel" 13 11 2 2 := ⟨_, _, _, _, cf_MM, by decide, in_t5 (i := 78) rfl rfl, rfl⟩
theorem lf_MM_16 : LF "MarketDaysModel" 16 11 3 2 := ⟨_, _, _, _, cf_MM, by decide, in_t5 (i := 79) rfl rfl, rfl⟩
theorem lf_MM_19 : LF "MarketDaysModel" 19 11 4 2 := ⟨_, _, _, _, cf_MM, by decide, in_t5 (i := 80) rfl rfl, rfl⟩
theorem lf_MM_22 : LF "MarketDaysModel" 22 11 5 2 := ⟨_, _, _, _, cf_MM, by decide, in_t5 (i := 81) rfl rfl, rfl⟩
theorem lf_MM_25 : LF "MarketDaysModel" 25 11 6 0 := ⟨_, _, _, _, cf_MM, by decide, in_t5 (i := 82) rfl rfl, rfl⟩
theorem lf_MM_168 : LF "MarketDaysModel" 168 11 7 0 := ⟨_, _, _, _, cf_MM, by decide, in_t5 (i := 83) rfl rfl, rfl⟩
theorem lf_MM_29 : LF "MarketDaysModel" 29 11 8 2 := ⟨_, _, _, _, cf_MM, by decide, in_t5 (i := 84) rfl rfl, rfl⟩
theorem lf_MM_32 : LF "MarketDaysModel" 32 11 9 2 := ⟨_, _, _, _, cf_MM, by decide, in_t5 (i := 85) rfl rfl, rfl⟩
theorem lf_MM_35 : LF "MarketDaysModel" 35 11 10 2 := ⟨_, _, _, _, cf_MM, by decide, in_t5 (i := 86) rfl rfl, rfl⟩
theorem lf_MM_171 : LF "MarketDaysModel" 171 11 11 0 := ⟨_, _, _, _, cf_MM, by decide, in_t5 (i := 87) rfl rfl, rfl⟩
theorem lf_MM_38 : LF "MarketDaysModel" 38 11 12 2 := ⟨_, _, _, _, cf_MM, by decide, in_t5 (i := 88) rfl rfl, rfl⟩
theorem lf_MM_41 : LF "MarketDaysModel" 41 11 13 2 := ⟨_, _, _, _, cf_MM, by decide, in_t5 (i := 89) rfl rfl, rfl⟩
theorem lf_MM_44 : LF "MarketDaysModel" 44 11 14 0 := ⟨_, _, _, _, cf_MM, by decide, in_t5 (i := 90) rfl rfl, rfl⟩
theorem lf_MM_233 : LF "MarketDaysModel" 233 11 15 0 := ⟨_, _, _, _, cf_MM, by decide, in_t5 (i := 91) rfl rfl, rfl⟩
theorem lf_MM_260 : LF "MarketDaysModel" 260 11 16 0 := ⟨_, _, _, _, cf_MM, by decide, in_t5 (i := 92) rfl rfl, rfl⟩
theorem lf_MM_47 : LF "MarketDaysModel" 47 11 17 2 := ⟨_, _, _, _, cf_MM, by decide, in_t5 (i := 93) rfl rfl, rfl⟩
theorem lf_MM_50 : LF "MarketDaysModel" 50 11 18 2 := ⟨_, _, _, _, cf_MM, by decide, in_t5 (i := 94) rfl rfl, rfl⟩
theorem lf_MM_53 : LF "MarketDaysModel" 53 11 19 2 := ⟨_, _, _, _, cf_MM, by decide, in_t5 (i := 95) rfl rfl, rfl⟩
theorem lf_MM_313 : LF "MarketDaysModel" 313 11 20 0 := ⟨_, _, _, _, cf_MM, by decide, in_t5 (i := 96) rfl rfl, rfl⟩
theorem lf_MM_317 : LF "MarketDaysModel" 317 11 21 0 := ⟨_, _, _, _, cf_MM, by decide, in_t5 (i := 97) rfl rfl, rfl⟩
theorem lf_MM_56 : LF "MarketDaysModel" 56 11 22 2 := ⟨_, _, _, _, cf_MM, by decide, in_t5 (i := 98) rfl rfl, rfl⟩
theorem lf_MM_341 : LF "MarketDaysModel" 341 11 23 0 := ⟨_, _, _, _, cf_MM, by decide, in_t5 (i := 99) rfl rfl, rfl⟩
theorem lf_MM_59 : LF "MarketDaysModel" 59 11 24 2 := ⟨_, _, _, _, cf_MM, by decide, in_t5 (i := 100) rfl rfl, rfl⟩
theorem lf_MM_344 : LF "MarketDaysModel" 344 11 25 0 := ⟨_, _, _, _, cf_MM, by decide, in_t5 (i := 101) rfl rfl, rfl⟩
theorem lf_MM_347 : LF "MarketDaysModel" 347 11 26 0 := ⟨_, _, _, _, cf_MM, by decide, in_t5 (i := 102) rfl rfl, rfl⟩
theorem lf_MM_350 : LF "MarketDaysModel" 350 11 27 0 := ⟨_, _, _, _, cf_MM, by decide, in_t5 (i := 103) rfl rfl, rfl⟩
theorem lf_MM_353 : LF "MarketDaysModel" 353 11 28 0 := ⟨_, _, _, _, cf_MM, by decide, in_t5 (i := 104) rfl rfl, rfl⟩
theorem lf_MM_356 : LF "MarketDaysModel" 356 11 29 0 := ⟨_, _, _, _, cf_MM, by decide, in_t5 (i := 105) rfl rfl, rfl⟩
theorem lf_MM_62 : LF "MarketDaysModel" 62 11 30 2 := ⟨_, _, _, _, cf_MM, by decide, in_t5 (i := 106) rfl rfl, rfl⟩
theorem lf_MM_65 : LF "MarketDaysModel" 65 11 31 2 := ⟨_, _, _, _, cf_MM, by decide, in_t5 (i := 107) rfl rfl, rfl⟩
theorem lf_MM_68 : LF "MarketDaysModel" 68 11 32 2 := ⟨_, _, _, _, cf_MM, by decide, in_t5 (i := 108) rfl rfl, rfl⟩
theorem lf_MM_71 : LF "MarketDaysModel" 71 11 33 2 := ⟨_, _, _, _, cf_MM, by decide, in_t5 (i := 109) rfl rfl, rfl⟩
theorem lf_MM_74 : LF "MarketDaysModel" 74 11 34 2 := ⟨_, _, _, _, cf_MM, by decide, in_t5 (i := 110) rfl rfl, rfl⟩
theorem lf_MM_77 : LF "MarketDaysModel" 77 11 35 2 := ⟨_, _, _, _, cf_MM, by decide, in_t5 (i := 111) rfl rfl, rfl⟩
theorem lf_MM_80 : LF "MarketDaysModel" 80 11 36 2 := ⟨_, _, _, _, cf_MM, by decide, in_t5 (i := 112) rfl rfl, rfl⟩
theorem lf_MM_83 : LF "MarketDaysModel" 83 11 37 2 := ⟨_, _, _, _, cf_MM, by decide, in_t5 (i := 113) rfl rfl, rfl⟩
theorem lf_MM_86 : LF "MarketDaysModel" 86 11 38 2 := ⟨_, _, _, _, cf_MM, by decide, in_t5 (i := 114) rfl rfl, rfl⟩
theorem lf_MM_89 : LF "MarketDaysModel" 89 11 39 2 := ⟨_, _, _, _, cf_MM, by decide, in_t5 (i := 115) rfl rfl, rfl⟩
theorem lf_MM_176 : LF "MarketDaysModel" 176 11 40 0 := ⟨_, _, _, _, cf_MM, by decide, in_t5 (i := 116) rfl rfl, rfl⟩
theorem lf_MM_179 : LF "MarketDaysModel" 179 11 41 0 := ⟨_, _, _, _, cf_MM, by decide, in_t5 (i := 117) rfl rfl, rfl⟩
theorem lf_MM_182 : LF "MarketDaysModel" 182 11 42 0 := ⟨_, _, _, _, cf_MM, by decide, in_t5 (i := 118) rfl rfl, rfl⟩
theorem lf_MM_185 : LF "MarketDaysModel" 185 11 43 0 := ⟨_, _, _, _, cf_MM, by decide, in_t5 (i := 119) rfl rfl, rfl⟩
theorem lf_MM_114 : LF "MarketDaysModel" 114 11 44 2 := ⟨_, _, _, _, cf_MM, by decide, in_t5 (i := 120) rfl rfl, rfl⟩
theorem lf_MM_118 : LF "MarketDaysModel" 118 11 45 2 := ⟨_, _, _, _, cf_MM, by decide, in_t5 (i := 121) rfl rfl, rfl⟩
theorem lf_MM_195 : LF "MarketDaysModel" 195 11 46 0 := ⟨_, _, _, _, cf_MM, by decide, in_t5 (i := 122) rfl rfl, rfl⟩
theorem lf_MM_202 : LF "MarketDaysModel" 202 11 47 0 := ⟨_, _, _, _, cf_MM, by decide, in_t5 (i := 123) rfl rfl, rfl⟩
theorem lf_MM_192 : LF "MarketDaysModel" 192 11 48 0 := ⟨_, _, _, _, cf_MM, by decide, in_t5 (i := 124) rfl rfl, rfl⟩
theorem lf_MM_121 : LF "MarketDaysModel" 121 11 49 2 := ⟨_, _, _, _, cf_MM, by decide, in_t5 (i := 125) rfl rfl, rfl⟩
theorem lf_MM_124 : LF "MarketDaysModel" 124 11 50 2 := ⟨_, _, _, _, cf_MM, by decide, in_t5 (i := 126) rfl rfl, rfl⟩
theorem lf_MM_127 : LF "MarketDaysModel" 127 11 51 2 := ⟨_, _, _, _, cf_MM, by decide, in_t5 (i := 127) rfl rfl, rfl⟩
theorem lf_MM_131 : LF "MarketDaysModel" 131 11 52 2 := ⟨_, _, _, _, cf_MM, by decide, in_t5 (i := 128) rfl rfl, rfl⟩
theorem lf_MM_134 : LF "MarketDaysModel" 134 11 53 2 := ⟨_, _, _, _, cf_MM, by decide, in_t5 (i := 129) rfl rfl, rfl⟩
theorem lf_MM_137 : LF "MarketDaysModel" 137 11 54 2 := ⟨_, _, _, _, cf_MM, by decide, in_t5 (i := 130) rfl rfl, rfl⟩
theorem lf_MM_140 : LF "MarketDaysModel" 140 11 55 2 := ⟨_, _, _, _, cf_MM, by decide, in_t5 (i := 131) rfl rfl, rfl⟩
