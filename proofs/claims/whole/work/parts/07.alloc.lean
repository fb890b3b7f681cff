/-! rules of Ex: new cells; Object.<init>, Math.min, Math.max, System.arraycopy -/
def ro {α : Type} (f : Nat → Nat → α) (j : Nat) (g : Nat → α) : Nat → Nat → α := fun a => if a = j then g else f a
theorem ro_s {α : Type} (f : Nat → Nat → α) (j : Nat) (g : Nat → α) : ro f j g j = g := by simp [ro]
theorem ro_n {α : Type} {f : Nat → Nat → α} {j a : Nat} {g : Nat → α} (h : a ≠ j) : ro f j g a = f a := by simp [ro, h]
/-- a new cell of kind k and size N, all 0 or null -/
def nw (M : Mem) (k N : Nat) : Mem := (sh M ++ [(k, N)], ro (mi M) (sh M).length (fun _ => 0), ro (ml M) (sh M).length (fun _ => 0), ro (mr M) (sh M).length (fun _ => none), sc M)
/-- row j of ints becomes g -/
def wrow (M : Mem) (j : Nat) (g : Nat → Int32) : Mem := (sh M, ro (mi M) j g, ml M, mr M, sc M)
def dv (t : Nat) : Value := match t with
  | 0 => .int 0
  | 1 => .long 0
  | _ => .null
theorem vv_nw (M : Mem) (k N t q : Nat) : vv t (nw M k N) (sh M).length q = dv t := by
  match t with
  | 0 => show Value.int (ro (mi M) _ _ _ q) = _; rw [ro_s]; rfl
  | 1 => show Value.long (ro (ml M) _ _ _ q) = _; rw [ro_s]; rfl
  | t + 2 => show rv (ro (mr M) _ _ _ q) = _; rw [ro_s]; rfl
theorem vv_nw_n {M : Mem} {k N i : Nat} (t q : Nat) (h : i ≠ (sh M).length) : vv t (nw M k N) i q = vv t M i q := by
  match t with
  | 0 => show Value.int (ro (mi M) _ _ i q) = _; rw [ro_n h]; rfl
  | 1 => show Value.long (ro (ml M) _ _ i q) = _; rw [ro_n h]; rfl
  | t + 2 => show rv (ro (mr M) _ _ i q) = _; rw [ro_n h]; rfl
theorem cv_dv (E : EV) (t : Nat) : cv E (dv t) = dv t := by
  match t with
  | 0 => rfl
  | 1 => rfl
  | t + 2 => rfl
theorem Wd.push {E : EV} {M : Mem} {H H2 : Heap} {k N : Nat} (h : Wd E M H) (hl : (sh M).length < 1048576) (hz : H2.size = H.size + 1) (hq : ∀ q, q < H.size → H2[q]? = H[q]?) (hj : cellOk E (nw M k N) H2 (sh M).length (k, N)) : Wd E (nw M k N) H2 := by
  have hs : sh (nw M k N) = sh M ++ [(k, N)] := rfl
  refine ⟨by rw [hz, hs, h.1, List.length_append]; rfl, by rw [hs, List.length_append]; exact hl, fun q hq0 => ?_, fun i kn2 hi => ?_, h.2.2.2.2⟩
  · rw [hq q (by rw [h.1]; omega)]
    exact h.2.2.1 q hq0
  · rw [hs] at hi
    by_cases hij : i < (sh M).length
    · rw [List.getElem?_append_left hij] at hi
      have h1 := h.2.2.2.1 i kn2 hi
      have e : H2[eZ E + i]? = H[eZ E + i]? := hq _ (by rw [h.1]; omega)
      unfold cellOk at h1 ⊢
      split
      · rename_i hc
        rw [if_pos hc] at h1
        obtain ⟨r, a1, a2, a3⟩ := h1
        exact ⟨r, a1, a2, (a3.kept e).to (fun k _ => by rw [vv_nw_n _ _ (by omega)])⟩
      · rename_i hc
        rw [if_neg hc] at h1
        rw [e, h1]
        congr 2
        funext k
        rw [vv_nw_n _ _ (by omega)]
    · have hlt := (List.getElem?_eq_some_iff.mp hi).1
      rw [List.length_append] at hlt
      have e : i = (sh M).length := by
        have : ([(k, N)] : List (Nat × Nat)).length = 1 := rfl
        omega
      subst e
      rw [List.getElem?_append_right (Nat.le_refl _)] at hi
      simp at hi
      subst hi
      exact hj
theorem Wd.newref {E : EV} {M : Mem} {H : Heap} (h : Wd E M H) (hl : (sh M).length < 1048576) : H.size = ad E (sh M).length := by rw [ad_lt hl, h.1]
section EXA
variable {d : Nat} {y : Mth} {bc bs pc : Nat} {lo : List (Option Value)} {st : List Value} {M : Mem} {Φ : Option Value → Mem → Prop}
theorem ex_new {index ci N : Nat} {C : String} {T : u_T} {ty : Nat → FieldType} (hd : decode y.2.1 pc = .ok (.new index, 3)) (hk : Cond.classLink y.1.cls index C ∈ gtbl) (hi : Cond.instantiable C N ∈ gtbl) (hini : Cond.initialized C ∈ gtbl) (hC : CF ci C T N ty) (hdv : ∀ k, k < N → defaultValue (ty k) = dv (ftc ci k)) (hb : 1 ≤ bc ∧ N ≤ bs) (hlen : (sh M).length < 1048576)
    (kk : Ex d y (bc - 1) (bs - N) (pc + 3) lo (.ref (sh M).length :: st) (nw M ci N) Φ) : Ex d y bc bs pc lo st M Φ := fun E p e R s m args below meth cc H locs cells slots ls ok hp hc hn hl => by
  have hts := ok.2.2.2.2.2.1
  have hKn := ok.2.2.2.2.2.2.2.2.1.1.1 ci _ hC.1
  refine W.newcK ok.1 ok.2.1 ok.2.2.2.2.1 (hts _ hk) (hts _ hi) (hts _ hini) rfl hd (by omega) (by omega) hKn.2.1 rfl fun H1 kC hkC e1 z1 o1 => ?_
  show W _ _ _ _ _ _ _ _ _ _ _ _ _ _ _ (F0 m (pc + 3) ls (Value.ref H.size :: _))
  rw [hp.1.newref hlen]
  refine kk E p e R s m args below meth cc H1 locs (cells + 1) (slots + N) ls ok ⟨hp.1.push hlen z1 o1 ?_, Nat.le_trans hp.2.1 (by omega), hp.2.2⟩ (by omega) (by omega) hl
  unfold cellOk
  rw [if_pos hC.2.1]
  rw [hp.1.1] at e1
  refine ⟨_, hC.1, rfl, (u_born ty hts hC.2.2.1 hKn hkC e1 hC.2.2.2.2).to (fun k hk => ?_)⟩
  rw [vv_nw, cv_dv]
  exact hdv k hk
theorem arr_new {E : EV} {M : Mem} {s : State} {H H1 : Heap} {locs : List Loc} {k N : Nat} (hp : Hp E M s H locs) (hlen : (sh M).length < 1048576) (hk : ¬ k < 100) (e1 : H1[H.size]? = some (arrV (eT E k) N (fun _ => dv (akt k)))) (z1 : H1.size = H.size + 1) (o1 : ∀ q, q < H.size → H1[q]? = H[q]?) : Hp E (nw M k N) s H1 locs := by
  refine ⟨hp.1.push hlen z1 o1 ?_, Nat.le_trans hp.2.1 (by omega), hp.2.2⟩
  unfold cellOk
  rw [if_neg hk]
  rw [hp.1.1] at e1
  rw [e1]
  congr 2
  funext q
  rw [vv_nw, cv_dv]
theorem ex_newa_int {n : Int32} {N : Nat} (hd : decode y.2.1 pc = .ok (.newarray .int, 2)) (hw : Cond.arrayClass .int ∈ gtbl) (h0 : ¬ n < 0) (hN : n.toNatClampNeg = N) (hmax : N ≤ 1000000) (hb : 1 ≤ bc ∧ N ≤ bs) (hlen : (sh M).length < 1048576)
    (kk : Ex d y (bc - 1) (bs - N) (pc + 2) lo (.ref (sh M).length :: st) (nw M 100 N) Φ) : Ex d y bc bs pc lo (.int n :: st) M Φ := fun E p e R s m args below meth cc H locs cells slots ls ok hp hc hn hl => by
  have hts := ok.2.2.2.2.2.1
  refine va_newaK (atype := .int) (N := N) ok.1 ok.2.1 (hts _ hw) rfl hd rfl h0 hN (by show N * 4 ≤ 536870912; omega) (by omega) (by omega) rfl fun H1 cA e1 z1 o1 hAr hNm => ?_
  have hcA : cA = eT E 100 := Option.some.inj (hNm.symm.trans (ok.2.2.2.2.2.2.2.2.1.2.1 100 (by omega) (by omega)).2)
  subst hcA
  show W _ _ _ _ _ _ _ _ _ _ _ _ _ _ _ (F0 m (pc + 2) ls (Value.ref H.size :: _))
  rw [hp.1.newref hlen]
  exact kk E p e R s m args below meth cc H1 locs (cells + 1) (slots + N) ls ok (arr_new hp hlen (by omega) e1 z1 o1) (by omega) (by omega) hl
theorem ex_newa_boolean {n : Int32} {N : Nat} (hd : decode y.2.1 pc = .ok (.newarray .boolean, 2)) (hw : Cond.arrayClass .boolean ∈ gtbl) (h0 : ¬ n < 0) (hN : n.toNatClampNeg = N) (hmax : N ≤ 1000000) (hb : 1 ≤ bc ∧ N ≤ bs) (hlen : (sh M).length < 1048576)
    (kk : Ex d y (bc - 1) (bs - N) (pc + 2) lo (.ref (sh M).length :: st) (nw M 101 N) Φ) : Ex d y bc bs pc lo (.int n :: st) M Φ := fun E p e R s m args below meth cc H locs cells slots ls ok hp hc hn hl => by
  have hts := ok.2.2.2.2.2.1
  refine va_newaK (atype := .boolean) (N := N) ok.1 ok.2.1 (hts _ hw) rfl hd rfl h0 hN (by show N * 1 ≤ 536870912; omega) (by omega) (by omega) rfl fun H1 cA e1 z1 o1 hAr hNm => ?_
  have hcA : cA = eT E 101 := Option.some.inj (hNm.symm.trans (ok.2.2.2.2.2.2.2.2.1.2.1 101 (by omega) (by omega)).2)
  subst hcA
  show W _ _ _ _ _ _ _ _ _ _ _ _ _ _ _ (F0 m (pc + 2) ls (Value.ref H.size :: _))
  rw [hp.1.newref hlen]
  exact kk E p e R s m args below meth cc H1 locs (cells + 1) (slots + N) ls ok (arr_new hp hlen (by omega) e1 z1 o1) (by omega) (by omega) hl
theorem ex_newa_long {n : Int32} {N : Nat} (hd : decode y.2.1 pc = .ok (.newarray .long, 2)) (hw : Cond.arrayClass .long ∈ gtbl) (h0 : ¬ n < 0) (hN : n.toNatClampNeg = N) (hmax : N ≤ 1000000) (hb : 1 ≤ bc ∧ N ≤ bs) (hlen : (sh M).length < 1048576)
    (kk : Ex d y (bc - 1) (bs - N) (pc + 2) lo (.ref (sh M).length :: st) (nw M 102 N) Φ) : Ex d y bc bs pc lo (.int n :: st) M Φ := fun E p e R s m args below meth cc H locs cells slots ls ok hp hc hn hl => by
  have hts := ok.2.2.2.2.2.1
  refine va_newaK (atype := .long) (N := N) ok.1 ok.2.1 (hts _ hw) rfl hd rfl h0 hN (by show N * 8 ≤ 536870912; omega) (by omega) (by omega) rfl fun H1 cA e1 z1 o1 hAr hNm => ?_
  have hcA : cA = eT E 102 := Option.some.inj (hNm.symm.trans (ok.2.2.2.2.2.2.2.2.1.2.1 102 (by omega) (by omega)).2)
  subst hcA
  show W _ _ _ _ _ _ _ _ _ _ _ _ _ _ _ (F0 m (pc + 2) ls (Value.ref H.size :: _))
  rw [hp.1.newref hlen]
  exact kk E p e R s m args below meth cc H1 locs (cells + 1) (slots + N) ls ok (arr_new hp hlen (by omega) e1 z1 o1) (by omega) (by omega) hl
theorem ex_anew {index ci : Nat} {C : String} {n : Int32} {N : Nat} (hd : decode y.2.1 pc = .ok (.anewarray index, 3)) (hk : Cond.classLink y.1.cls index C ∈ gtbl) (hci : (ci = 104 ∧ C = "MarketDays$Rule") ∨ (ci = 105 ∧ C = "MarketDays$Giving") ∨ (ci = 106 ∧ C = "MarketDays$Sheet")) (h0 : ¬ n < 0) (hN : n.toNatClampNeg = N) (hmax : N ≤ 1000000) (hb : 1 ≤ bc ∧ N ≤ bs) (hlen : (sh M).length < 1048576)
    (kk : Ex d y (bc - 1) (bs - N) (pc + 3) lo (.ref (sh M).length :: st) (nw M ci N) Φ) : Ex d y bc bs pc lo (.int n :: st) M Φ := fun E p e R s m args below meth cc H locs cells slots ls ok hp hc hn hl => by
  have hts := ok.2.2.2.2.2.1
  have hE := ok.2.2.2.2.2.2.2.2.1
  subst hN
  have hov : va_AO C s ∧ aty ci = .object C ∧ akt ci = 2 ∧ 103 ≤ ci ∧ ci ≤ 106 := by
    rcases hci with ⟨rfl, rfl⟩ | ⟨rfl, rfl⟩ | ⟨rfl, rfl⟩
    · exact ⟨hE.2.2.2.1.1, rfl, rfl, by omega, by omega⟩
    · exact ⟨hE.2.2.2.1.2.1, rfl, rfl, by omega, by omega⟩
    · exact ⟨hE.2.2.2.1.2.2.1, rfl, rfl, by omega, by omega⟩
  obtain ⟨ho, hty, hak, hl1, hl2⟩ := hov
  refine W.anew ok.1 ok.2.1 ok.2.2.2.2.1 (hts _ hk) (va_AO.use ho) rfl hd rfl h0 (by omega) (by omega) (by omega) fun cA kA comp f1 f2 f3 f4 => ?_
  have hra := (hE.2.1 ci (by omega) (by omega)).2
  rw [hty] at hra
  obtain ⟨_, _, -, -, -, hra4⟩ := hra
  have hcA : cA = eT E ci := Option.some.inj (f1.symm.trans hra4)
  subst hcA
  show W _ _ _ _ _ _ _ _ _ _ _ _ _ _ _ (F0 m (pc + 3) ls (Value.ref H.size :: _))
  rw [hp.1.newref hlen]
  refine kk E p e R s m args below meth cc _ locs (cells + 1) (slots + n.toNatClampNeg) ls ok (arr_new hp hlen (by omega) ?_ (by simp) (fun q hq => by rw [Array.getElem?_push, if_neg (Nat.ne_of_lt hq)])) (by omega) (by omega) hl
  rw [hak, ← arrV_new]
  simp [dv]
theorem ex_objInit {index j : Nat} (hd : decode y.2.1 pc = .ok (.invokespecial index, 3)) (hk : Cond.methodLink y.1.cls index Lib.objectInit ∈ gtbl) (hw : (st.map fun v => v.category).sum ≤ 20) (hd1 : 1 ≤ d) (kk : Ex d y bc bs (pc + 3) lo st M Φ) : Ex d y bc bs pc lo (.ref j :: st) M Φ := fun E p e R s m args below meth cc H locs cells slots ls ok hp hc hn hl => by
  have hts := ok.2.2.2.2.2.1
  have h1 := ok.2.2.2.2.2.2.2.2.2.1
  have h2 := ok.2.2.2.2.2.2.2.2.2.2.1
  refine W.objInit ok.1 ok.2.1 ok.2.2.2.2.1 (hts _ hk) (hts _ (in_t1 (i := 27) rfl rfl)) (hts _ (in_t1 (i := 28) rfl rfl)) rfl (hl.1.trans ok.2.2.2.1.symm) rfl hd (by omega) (by show 2 * 0 + _ + 12 ≤ _; rw [cat_sum]; omega) ?_
  exact kk E p e R s m args below meth cc H locs cells slots ls ok hp hc hn hl
theorem ex_min {index : Nat} {x z : Int32} (hd : decode y.2.1 pc = .ok (.invokestatic index, 3)) (hk : Cond.methodLink y.1.cls index Lib.Math.min.name ∈ gtbl) (hw : (st.map fun v => v.category).sum ≤ 20) (hd1 : 1 ≤ d) (kk : Ex d y bc bs (pc + 3) lo (.int (if z < x then z else x) :: st) M Φ) : Ex d y bc bs pc lo (.int z :: .int x :: st) M Φ := fun E p e R s m args below meth cc H locs cells slots ls ok hp hc hn hl => by
  have hts := ok.2.2.2.2.2.1
  have h1 := ok.2.2.2.2.2.2.2.2.2.1
  have h2 := ok.2.2.2.2.2.2.2.2.2.2.1
  refine va_mmin ok.1 ok.2.1 (ok.2.2.2.1.trans hl.1.symm) ok.2.2.2.2.1 (hts _ hk) (hts _ (in_t2 (i := 206) rfl rfl)) (hts _ (in_t1 (i := 16) rfl rfl)) (hts _ (in_t2 (i := 207) rfl rfl)) (by omega) (by rw [cat_sum]; omega) (by omega) (by omega) hd ?_
  exact kk E p e R s m args below meth cc H locs cells slots ls ok hp hc hn hl
theorem ex_max {index : Nat} {x z : Int32} (hd : decode y.2.1 pc = .ok (.invokestatic index, 3)) (hk : Cond.methodLink y.1.cls index Lib.Math.max.name ∈ gtbl) (hw : (st.map fun v => v.category).sum ≤ 20) (hd1 : 1 ≤ d) (kk : Ex d y bc bs (pc + 3) lo (.int (if x < z then z else x) :: st) M Φ) : Ex d y bc bs pc lo (.int z :: .int x :: st) M Φ := fun E p e R s m args below meth cc H locs cells slots ls ok hp hc hn hl => by
  have hts := ok.2.2.2.2.2.1
  have h1 := ok.2.2.2.2.2.2.2.2.2.1
  have h2 := ok.2.2.2.2.2.2.2.2.2.2.1
  refine va_mmax ok.1 ok.2.1 (ok.2.2.2.1.trans hl.1.symm) ok.2.2.2.2.1 (hts _ hk) (hts _ (in_t3 (i := 136) rfl rfl)) (hts _ (in_t1 (i := 16) rfl rfl)) (hts _ (in_t3 (i := 137) rfl rfl)) (by omega) (by rw [cat_sum]; omega) (by omega) (by omega) hd ?_
  exact kk E p e R s m args below meth cc H locs cells slots ls ok hp hc hn hl
theorem pos_clamp {z : Int32} (h : ¬ z < 0) : z.toInt = (z.toNatClampNeg : Int) := by
  have h0 : (0 : Int) ≤ z.toInt := by
    have := Int32.not_lt.mp h
    simpa using Int32.le_iff_toInt_le.mp this
  show z.toInt = ((z.toInt.toNat : Nat) : Int)
  omega
theorem vv_wrow {M : Mem} {j : Nat} {g : Nat → Int32} (t i q : Nat) (h : i ≠ j) : vv t (wrow M j g) i q = vv t M i q := by
  match t with
  | 0 => show Value.int (ro (mi M) j g i q) = _; rw [ro_n h]; rfl
  | 1 => rfl
  | t + 2 => rfl
/-- System.arraycopy of ints -/
theorem ex_acopy {index i0 j0 N0 N1 : Nat} {sp dp n : Int32} (hd : decode y.2.1 pc = .ok (.invokestatic index, 3)) (hk : Cond.methodLink y.1.cls index arraycopyName ∈ gtbl) (hs0 : (sh M)[i0]? = some (100, N0)) (hs1 : (sh M)[j0]? = some (100, N1)) (h1 : ¬ sp < 0) (h2 : ¬ dp < 0) (h3 : ¬ n < 0) (h4 : sp.toNatClampNeg + n.toNatClampNeg ≤ N0) (h5 : dp.toNatClampNeg + n.toNatClampNeg ≤ N1) (hw : (st.map fun v => v.category).sum ≤ 10) (hd1 : 1 ≤ d)
    (kk : Ex d y bc bs (pc + 3) lo st (wrow M j0 (va_cpy (mi M i0) (mi M j0) sp.toNatClampNeg dp.toNatClampNeg n.toNatClampNeg)) Φ) : Ex d y bc bs pc lo (.int n :: .int dp :: .ref j0 :: .int sp :: .ref i0 :: st) M Φ := fun E p e R s m args below meth cc H locs cells slots ls ok hp hc hn hl => by
  have hts := ok.2.2.2.2.2.1
  have q1 := ok.2.2.2.2.2.2.2.2.2.1
  have q2 := ok.2.2.2.2.2.2.2.2.2.2.1
  have hE := ok.2.2.2.2.2.2.2.2.1
  have hc0 : H[ad E i0]? = some (arrV (eT E 100) N0 (fun k => .int (mi M i0 k))) := by rw [hp.1.adr hs0]; exact hp.1.arr hs0 (by omega)
  have hc1 : H[ad E j0]? = some (arrV (eT E 100) N1 (fun k => .int (mi M j0 k))) := by rw [hp.1.adr hs1]; exact hp.1.arr hs1 (by omega)
  obtain ⟨-, k0, hk0, cm0, hkk0⟩ := (hE.2.1 100 (by omega) (by omega)).1 N0 (fun j => .int (mi M i0 j))
  obtain ⟨-, k1, hk1, cm1, hkk1⟩ := (hE.2.1 100 (by omega) (by omega)).1 N1 (fun j => .int (mi M j0 j))
  intro T hT X
  obtain ⟨vm', X', step⟩ := X.arraycopy ok.1 ok.2.2.2.2.1 (hts _ hk) (hts _ (in_t2 (i := 210) rfl rfl)) (hts _ (in_t2 (i := 209) rfl rfl)) (hts _ (in_t1 (i := 17) rfl rfl)) (srcPos := sp) (destPos := dp) (n := n) (by rw [hT]; exact hc0) (by rw [hT]; exact hc1)
    (fun _ h => by cases h) (fun _ h => by cases h) (fun h => by cases h) (fun h => by cases h) hk0 hk1 hkk0 hkk1 rfl h1 h2 h3
    (by rw [pos_clamp h1, pos_clamp h3, arrV_size]; omega) (by rw [pos_clamp h2, pos_clamp h3, arrV_size]; omega)
    (fun vm₁ _ i hi => by
      have e : (arrV (eT E 100) N0 (fun k => .int (mi M i0 k))).slots.getD (sp.toNatClampNeg + i) .null = .int (mi M i0 (sp.toNatClampNeg + i)) := by
        rw [Array.getD_eq_getD_getElem?, arrV_read _ _ (by omega)]
        rfl
      rw [e]
      exact ⟨rfl, trivial⟩)
    (g := F0 m pc ls (.int n :: .int dp :: .ref (ad E j0) :: .int sp :: .ref (ad E i0) :: st.map (cv E))) rfl (hl.1.trans ok.2.2.2.1.symm) (rest := st.map (cv E)) rfl (by rw [ok.2.1]; exact hd) (by omega) (by
      have e9 : nativeFrameWords "java/lang/System" "arraycopy" 5 + 11 ≤ 50 := by decide +kernel
      show 2 * 0 + _ + _ ≤ _
      rw [cat_sum]
      omega)
  have e1 : copied (arrV (eT E 100) N0 (fun k => .int (mi M i0 k))) (arrV (eT E 100) N1 (fun k => .int (mi M j0 k))) sp dp n = arrV (eT E 100) N1 (fun k => .int (va_cpy (mi M i0) (mi M j0) sp.toNatClampNeg dp.toNatClampNeg n.toNatClampNeg k)) := va_copied (fun z => .int z) _ _ _ _ h4
  rw [e1] at X' step
  have hlt : ad E j0 < H.size := (Array.getElem?_eq_some_iff.mp hc1).1
  have hheap : ((T.setVm vm').setCell (ad E j0) (arrV (eT E 100) N1 (fun k => .int (va_cpy (mi M i0) (mi M j0) sp.toNatClampNeg dp.toNatClampNeg n.toNatClampNeg k)))).heap = H.setIfInBounds (ad E j0) (arrV (eT E 100) N1 (fun k => .int (va_cpy (mi M i0) (mi M j0) sp.toNatClampNeg dp.toNatClampNeg n.toNatClampNeg k))) := by rw [← hT]; rfl
  obtain ⟨t, a1, b1⟩ := kk E p e R s m args below meth cc _ _ cells slots ls ok ⟨hp.1.set hs1 rfl rfl (H2 := H.setIfInBounds (ad E j0) _) (by simp) (fun q hq => by rw [hp.1.adr hs1]; simp [Array.getElem?_setIfInBounds, Ne.symm hq]) (fun t i q h => vv_wrow t i q h) (by
      unfold cellOk
      rw [if_neg (show ¬ (100 : Nat) < 100 by omega), ← hp.1.adr hs1]
      simp only [Array.getElem?_setIfInBounds, hlt, if_pos]
      congr 2
      funext q
      show _ = Value.int (ro (mi M) j0 _ j0 q)
      rw [ro_s]), by simp; exact hp.2.1, fun q hq => by
      rcases List.mem_append.mp hq with h | h
      · exact hp.2.2 q h
      · obtain ⟨z, -, hz⟩ := List.mem_map.mp h
        rw [← hz, hp.1.adr hs1]
        exact Nat.le_add_right _ _⟩ hc hn hl _ hheap X'
  exact ⟨t, step t a1, b1⟩
end EXA
theorem udv_MD : ∀ k, k < 11 → defaultValue (ty_MD k) = dv (ftc 0 k) := by decide +kernel
theorem udv_Fair : ∀ k, k < 4 → defaultValue (ty_Fair k) = dv (ftc 1 k) := by decide +kernel
theorem udv_Finder : ∀ k, k < 8 → defaultValue (ty_Finder k) = dv (ftc 2 k) := by decide +kernel
theorem udv_Giving : ∀ k, k < 2 → defaultValue (ty_Giving k) = dv (ftc 3 k) := by decide +kernel
theorem udv_Land : ∀ k, k < 12 → defaultValue (ty_Land k) = dv (ftc 4 k) := by decide +kernel
theorem udv_Law : ∀ k, k < 5 → defaultValue (ty_Law k) = dv (ftc 5 k) := by decide +kernel
theorem udv_Pedlar : ∀ k, k < 5 → defaultValue (ty_Pedlar k) = dv (ftc 6 k) := by decide +kernel
theorem udv_Rule : ∀ k, k < 2 → defaultValue (ty_Rule k) = dv (ftc 7 k) := by decide +kernel
theorem udv_Sheet : ∀ k, k < 3 → defaultValue (ty_Sheet k) = dv (ftc 8 k) := by decide +kernel
theorem udv_Tape : ∀ k, k < 10 → defaultValue (ty_Tape k) = dv (ftc 9 k) := by decide +kernel
theorem udv_Ways : ∀ k, k < 9 → defaultValue (ty_Ways k) = dv (ftc 10 k) := by decide +kernel
theorem udv_MM : ∀ k, k < 56 → defaultValue (ty_MM k) = dv (ftc 11 k) := by decide +kernel
