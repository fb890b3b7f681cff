/-! what the law's start gives: the classes, the arrays, the String constants, the statics -/
section ENV
variable {s : State} {b : Nat}
theorem ev_cls (hts : ∀ w ∈ gtbl, w.before #[Value.ref b] s = true) : ∃ D : va_G, va_K D cls_tbl [] s := by
  have h : ∀ k : Nat, ∃ q : ClassId × (Nat → Nat), ∀ r : vw_C, cls_tbl[k]? = some r → u_Kn s r.1 r.2.1 r.2.2 q.1 q.2 := by
    intro k
    match k with
    | 0 =>
      obtain ⟨c, i, h⟩ := u_known (args := #[Value.ref b]) (C := "MarketDays") (T := FF_MD) (N := 11) (n := 11) hts uws_MD (hts _ (in_t1 (i := 22) rfl rfl))
      exact ⟨(c, i), fun r hr => by cases hr; exact h⟩
    | 1 =>
      obtain ⟨c, i, h⟩ := u_known (args := #[Value.ref b]) (C := "MarketDays$Fair") (T := FF_Fair) (N := 4) (n := 4) hts uws_Fair (hts _ (in_t1 (i := 167) rfl rfl))
      exact ⟨(c, i), fun r hr => by cases hr; exact h⟩
    | 2 =>
      obtain ⟨c, i, h⟩ := u_known (args := #[Value.ref b]) (C := "MarketDays$Finder") (T := FF_Finder) (N := 8) (n := 8) hts uws_Finder (hts _ (in_t1 (i := 186) rfl rfl))
      exact ⟨(c, i), fun r hr => by cases hr; exact h⟩
    | 3 =>
      obtain ⟨c, i, h⟩ := u_known (args := #[Value.ref b]) (C := "MarketDays$Giving") (T := FF_Giving) (N := 2) (n := 2) hts uws_Giving (hts _ (in_t3 (i := 160) rfl rfl))
      exact ⟨(c, i), fun r hr => by cases hr; exact h⟩
    | 4 =>
      obtain ⟨c, i, h⟩ := u_known (args := #[Value.ref b]) (C := "MarketDays$Land") (T := FF_Land) (N := 12) (n := 12) hts uws_Land (hts _ (in_t1 (i := 30) rfl rfl))
      exact ⟨(c, i), fun r hr => by cases hr; exact h⟩
    | 5 =>
      obtain ⟨c, i, h⟩ := u_known (args := #[Value.ref b]) (C := "MarketDays$Law") (T := FF_Law) (N := 5) (n := 5) hts uws_Law (hts _ (in_t1 (i := 140) rfl rfl))
      exact ⟨(c, i), fun r hr => by cases hr; exact h⟩
    | 6 =>
      obtain ⟨c, i, h⟩ := u_known (args := #[Value.ref b]) (C := "MarketDays$Pedlar") (T := FF_Pedlar) (N := 5) (n := 5) hts uws_Pedlar (hts _ (in_t2 (i := 14) rfl rfl))
      exact ⟨(c, i), fun r hr => by cases hr; exact h⟩
    | 7 =>
      obtain ⟨c, i, h⟩ := u_known (args := #[Value.ref b]) (C := "MarketDays$Rule") (T := FF_Rule) (N := 2) (n := 2) hts uws_Rule (hts _ (in_t2 (i := 195) rfl rfl))
      exact ⟨(c, i), fun r hr => by cases hr; exact h⟩
    | 8 =>
      obtain ⟨c, i, h⟩ := u_known (args := #[Value.ref b]) (C := "MarketDays$Sheet") (T := FF_Sheet) (N := 3) (n := 3) hts uws_Sheet (hts _ (in_t2 (i := 39) rfl rfl))
      exact ⟨(c, i), fun r hr => by cases hr; exact h⟩
    | 9 =>
      obtain ⟨c, i, h⟩ := u_known (args := #[Value.ref b]) (C := "MarketDays$Tape") (T := FF_Tape) (N := 10) (n := 10) hts uws_Tape (hts _ (in_t1 (i := 101) rfl rfl))
      exact ⟨(c, i), fun r hr => by cases hr; exact h⟩
    | 10 =>
      obtain ⟨c, i, h⟩ := u_known (args := #[Value.ref b]) (C := "MarketDays$Ways") (T := FF_Ways) (N := 9) (n := 9) hts uws_Ways (hts _ (in_t1 (i := 192) rfl rfl))
      exact ⟨(c, i), fun r hr => by cases hr; exact h⟩
    | 11 =>
      obtain ⟨c, i, h⟩ := u_known (args := #[Value.ref b]) (C := "MarketDaysModel") (T := FF_MM) (N := 56) (n := 56) hts uws_MM (hts _ (in_t5 (i := 52) rfl rfl))
      exact ⟨(c, i), fun r hr => by cases hr; exact h⟩
    | k + 12 => exact ⟨(0, fun _ => 0), fun r hr => absurd hr (by simp [cls_tbl])⟩
  obtain ⟨f, hf⟩ := Classical.axiomOfChoice h
  exact ⟨(fun k => (f k).1, fun k => (f k).2), fun k r hr => hf k r hr, fun k q hq => by simp at hq⟩
theorem ev_prim {ty : FieldType} (hp : ∀ C, ty ≠ .object C) (ha : ∀ t, ty ≠ .array t) (h : (Cond.arrayClass ty).before #[Value.ref b] s = true) (hpr : ∀ (cA : ClassId) (kA : Class) (comp : ClassId), s.vm.findClass ("[" ++ ty.toString) = some cA → s.vm.classes[cA]? = some kA → kA.kind = .array comp ty → ArrOfT s cA ty ∧ va_RA s cA ty) : ∃ cA, ArrOfT s cA ty ∧ va_RA s cA ty := by
  obtain ⟨c, k, comp, h1, h2, h3⟩ := Cond.arrayClass_spec h
  exact ⟨c, hpr c k comp h1 h2 h3⟩
theorem ev_int (h : (Cond.arrayClass .int).before #[Value.ref b] s = true) : ∃ cA, ArrOfT s cA .int ∧ va_RA s cA .int := ev_prim (fun C z => by cases z) (fun t z => by cases z) h (fun c k comp h1 h2 h3 => ⟨fun n z => ⟨fun q w => (by cases w), k, h2, comp, h3⟩, h1⟩)
theorem ev_bool (h : (Cond.arrayClass .boolean).before #[Value.ref b] s = true) : ∃ cA, ArrOfT s cA .boolean ∧ va_RA s cA .boolean := ev_prim (fun C z => by cases z) (fun t z => by cases z) h (fun c k comp h1 h2 h3 => ⟨fun n z => ⟨fun q w => (by cases w), k, h2, comp, h3⟩, h1⟩)
theorem ev_long (h : (Cond.arrayClass .long).before #[Value.ref b] s = true) : ∃ cA, ArrOfT s cA .long ∧ va_RA s cA .long := ev_prim (fun C z => by cases z) (fun t z => by cases z) h (fun c k comp h1 h2 h3 => ⟨fun n z => ⟨fun q w => (by cases w), k, h2, comp, h3⟩, h1⟩)
theorem ev_obj {C : String} (h : va_AO C s) : ∃ cA, ArrOfT s cA (.object C) ∧ va_RA s cA (.object C) := by
  obtain ⟨comp, c, k, h1, -, h2, h3, h4⟩ := Cond.arrayOver_spec h
  exact ⟨c, fun n z => ⟨fun q w => (by cases w), k, h2, comp, h3⟩, k, comp, h2, h3, h1, h4⟩
/-- the rows of ints' class: its component is the class of arrays of ints -/
theorem ev_rows {cI : ClassId} (hI : va_RA s cI .int) (h : (Cond.arrayOver (.array .int)).before #[Value.ref b] s = true) : ∃ (cA : ClassId) (k : Class), ArrOfT s cA (.array .int) ∧ va_RA s cA (.array .int) ∧ s.vm.classes[cA]? = some k ∧ k.kind = .array cI (.array .int) := by
  have hI2 : s.vm.findClass (FieldType.array .int).toString = some cI := hI
  simp only [Cond.before, Cond.holds, Cond.value, beq_iff_eq, hI2, Option.bind_some, Option.bind_eq_some_iff, Option.map_eq_some_iff] at h
  obtain ⟨c, hi, k, hk, hb⟩ := h
  obtain ⟨hlt, hp, -⟩ := Array.findIdx?_eq_some_iff_getElem.mp hi
  rw [(Array.getElem?_eq_some_iff.mp hk).2] at hp
  cases hkind : k.kind with
  | array component ty =>
    rw [hkind] at hb hp
    simp at hb hp
    have e : k.kind = .array cI (.array .int) := by rw [hkind, hp, hb.1]
    exact ⟨c, k, fun n z => ⟨fun q w => (by cases w), k, hk, cI, e⟩, hb.2, hk, e⟩
  | _ => rw [hkind] at hb; simp at hb
theorem ev_arrs (htw : ∀ w ∈ lw_tbl, w.before #[Value.ref b] s = true) (hts : ∀ w ∈ gtbl, w.before #[Value.ref b] s = true) : ∃ eT : Nat → ClassId, (∀ k, 100 ≤ k → k ≤ 106 → ArrOfT s (eT k) (aty k) ∧ va_RA s (eT k) (aty k)) ∧ ∃ k : Class, s.vm.classes[eT 103]? = some k ∧ k.kind = .array (eT 100) (.array .int) := by
  obtain ⟨c0, a0⟩ := ev_int (hts _ (in_t1 (i := 99) rfl rfl))
  obtain ⟨c1, a1⟩ := ev_bool (hts _ (in_t6 (i := 6) rfl rfl))
  obtain ⟨c2, a2⟩ := ev_long (hts _ (in_t6 (i := 5) rfl rfl))
  obtain ⟨c3, k3, a3, b3, d3, e3⟩ := ev_rows a0.2 (htw _ (in_u1 (i := 36) rfl))
  obtain ⟨c4, a4⟩ := ev_obj (va_AO.of (htw _ (in_u1 (i := 146) rfl)))
  obtain ⟨c5, a5⟩ := ev_obj (va_AO.of (htw _ (in_u1 (i := 165) rfl)))
  obtain ⟨c6, a6⟩ := ev_obj (va_AO.of (htw _ (in_u2 (i := 38) rfl)))
  refine ⟨fun k => if k = 100 then c0 else if k = 101 then c1 else if k = 102 then c2 else if k = 103 then c3 else if k = 104 then c4 else if k = 105 then c5 else c6, fun k h1 h2 => ?_, k3, d3, e3⟩
  rcases (show k = 100 ∨ k = 101 ∨ k = 102 ∨ k = 103 ∨ k = 104 ∨ k = 105 ∨ k = 106 by omega) with rfl | rfl | rfl | rfl | rfl | rfl | rfl
  · exact a0
  · exact a1
  · exact a2
  · exact ⟨a3, b3⟩
  · exact a4
  · exact a5
  · exact a6
/-- the words of the Statement's premise, laid flat -/
theorem fl_in {w : Cond} {i : Nat} (h : (flatC (Jvm.Cond.and given_1 narrow_1))[i]? = some w) : w ∈ flatC (Jvm.Cond.and given_1 narrow_1) := List.mem_of_getElem? h
def ev_tm (i : Nat) : Term := Term.string (sTab.getD i ("", 0, "")).1 (sTab.getD i ("", 0, "")).2.1
theorem fl_ex : ∀ i, i < 12 → Cond.exactly (ev_tm i) "java/lang/String" ∈ flatC (Jvm.Cond.and given_1 narrow_1) := by decide +kernel
theorem fl_co : ∀ i, i < 12 → Cond.eq (.field (ev_tm i) "java/lang/String" "coder" "B") (.int 0) ∈ flatC (Jvm.Cond.and given_1 narrow_1) := by decide +kernel
theorem fl_ar : ∀ i, i < 12 → Cond.arrayOf (.field (ev_tm i) "java/lang/String" "value" "[B") .byte ∈ flatC (Jvm.Cond.and given_1 narrow_1) := by decide +kernel
theorem fl_le : ∀ i, i < 12 → Cond.eq (.length (.field (ev_tm i) "java/lang/String" "value" "[B")) (.int (Int32.ofNat (sLen.getD i 0))) ∈ flatC (Jvm.Cond.and given_1 narrow_1) := by decide +kernel
theorem fl_el : ∀ i, i < 12 → ∀ j, j < sLen.getD i 0 → Cond.eq (.elem (.field (ev_tm i) "java/lang/String" "value" "[B") (.int (Int32.ofNat j))) (.int ((sByt.getD i []).getD j 0)) ∈ flatC (Jvm.Cond.and given_1 narrow_1) := by decide +kernel
theorem fl_ne : ∀ i, i < 12 → ∀ j, j < 12 → i ≠ j → Cond.not (Cond.eq (ev_tm i) (ev_tm j)) ∈ flatC (Jvm.Cond.and given_1 narrow_1) ∨ Cond.not (Cond.eq (ev_tm j) (ev_tm i)) ∈ flatC (Jvm.Cond.and given_1 narrow_1) := by decide +kernel
theorem fl_cs : Cond.eq (.static "java/lang/String" "COMPACT_STRINGS" "Z") (.int 1) ∈ flatC (Jvm.Cond.and given_1 narrow_1) := by decide +kernel
theorem fl_sf : Cond.isRef (.static "jdk/internal/util/Preconditions" "SIOOBE_FORMATTER" "Ljava/util/function/BiFunction;") ∈ flatC (Jvm.Cond.and given_1 narrow_1) := by decide +kernel
theorem sLen_lt : ∀ i, i < 12 → sLen.getD i 0 < 2 ^ 31 := by decide +kernel
theorem ev_strs (hfl : ∀ w ∈ flatC (Jvm.Cond.and given_1 narrow_1), w.before #[Value.ref b] s = true) : ∃ eK eV : Nat → Nat, vk_S 12 sLen sByt eK eV (fun q => s.heap.size ≤ q) s s.heap ∧ ∀ i, i < 12 → (ev_tm i).eval #[Value.ref b] s none [] s = some (.ref (eK i)) :=
  vk_Sof (args := #[Value.ref b]) (tm := ev_tm) sLen_lt (fun i hi => hfl _ (fl_ex i hi)) (fun i hi => hfl _ (fl_co i hi)) (fun i hi => hfl _ (fl_ar i hi)) (fun i hi => hfl _ (fl_le i hi)) (fun i hi j hj => hfl _ (fl_el i hi j hj)) (fun i j hi hj hij => (fl_ne i hi j hj hij).imp (hfl _) (hfl _)) (fun a ha => Nat.not_le.mpr ha)
theorem ev_refs (htw : ∀ w ∈ lw_tbl, w.before #[Value.ref b] s = true) : ∀ (i : Nat) (t : String × Nat × String), sTab[i]? = some t → (Cond.stringRef t.1 t.2.1 t.2.2).before #[Value.ref b] s = true := by
  intro i t h
  match i, h with
  | 0, h => cases h; exact htw _ (in_u2 (i := 59) rfl)
  | 1, h => cases h; exact htw _ (in_u2 (i := 127) rfl)
  | 2, h => cases h; exact htw _ (in_u2 (i := 134) rfl)
  | 3, h => cases h; exact htw _ (in_u2 (i := 135) rfl)
  | 4, h => cases h; exact htw _ (in_u2 (i := 136) rfl)
  | 5, h => cases h; exact htw _ (in_u2 (i := 137) rfl)
  | 6, h => cases h; exact htw _ (in_u2 (i := 138) rfl)
  | 7, h => cases h; exact htw _ (in_u2 (i := 139) rfl)
  | 8, h => cases h; exact htw _ (in_u2 (i := 140) rfl)
  | 9, h => cases h; exact htw _ (in_u2 (i := 141) rfl)
  | 10, h => cases h; exact htw _ (in_u2 (i := 142) rfl)
  | 11, h => cases h; exact htw _ (in_u2 (i := 143) rfl)
  | i + 12, h => exact absurd h (by simp [sTab])
theorem ev_sfm (hl : (Cond.laysStatic "jdk/internal/util/Preconditions" "SIOOBE_FORMATTER" "Ljava/util/function/BiFunction;").before #[Value.ref b] s = true) (hini : (Cond.initialized "jdk/internal/util/Preconditions").before #[Value.ref b] s = true) (h : (Cond.isRef (.static "jdk/internal/util/Preconditions" "SIOOBE_FORMATTER" "Ljava/util/function/BiFunction;")).before #[Value.ref b] s = true) : ∃ f : Nat, va_Z "jdk/internal/util/Preconditions" "SIOOBE_FORMATTER" "Ljava/util/function/BiFunction;" .null (fun q => s.heap.size ≤ q) s s.heap ∨ va_Z "jdk/internal/util/Preconditions" "SIOOBE_FORMATTER" "Ljava/util/function/BiFunction;" (.ref f) (fun q => s.heap.size ≤ q) s s.heap := by
  rcases va_Zqof (A := fun q => s.heap.size ≤ q) hl hini h (fun a ha => Nat.not_le.mpr ha) with h | ⟨f, h⟩
  · exact ⟨0, .inl h⟩
  · exact ⟨f, .inr h⟩
theorem ev_at {p : Program} {m : MethodId} {meth : Method} {c : Code} {L : Nat} {xs : Nat → Int32} (l : Launch) (C0 : lw_At p s m meth c b L xs) : ∃ E : EV, eL E = l ∧ eZ E = s.heap.size ∧ eG E = s.heap ∧ eB E = b ∧ EnvOK E s := by
  obtain ⟨hx, hb, hr, hml, hown, hts, hX, hbl, hlocks, hgv⟩ := id C0
  have hg : ∀ w ∈ gtbl, w.before #[Value.ref b] s = true := fun w hw => hts w (List.mem_filter.mp hw).1
  have hfl := flat_of_before _ hgv
  obtain ⟨D, hD⟩ := ev_cls hg
  obtain ⟨T, hT, hR⟩ := ev_arrs hts hg
  obtain ⟨K, V, hS, hKe⟩ := ev_strs hfl
  obtain ⟨f, hf⟩ := ev_sfm (hts _ (in_u2 (i := 85) rfl)) (hg _ (in_t1 (i := 12) rfl rfl)) (hfl _ fl_sf)
  obtain ⟨scr, hcb, hof, hkn, hsz, hval⟩ := hX
  refine ⟨(l, s.heap.size, s.heap, D, T, K, V, b, f), rfl, rfl, rfl, rfl, hD, hT, fun w hw => ?_, ⟨va_AO.of (hts _ (in_u1 (i := 146) rfl)), va_AO.of (hts _ (in_u1 (i := 165) rfl)), va_AO.of (hts _ (in_u2 (i := 38) rfl)), hR⟩, ⟨hS, fun i t ht => ?_⟩, ⟨va_Zof (hts _ (in_u2 (i := 69) rfl)) (hg _ (in_t1 (i := 10) rfl rfl)) (va_eqt (hfl _ fl_cs)) (fun a ha => Nat.not_le.mpr ha), hf⟩, rfl, scr, hcb, hof, hkn⟩
  · obtain ⟨a, i, y, h, rfl⟩ := nst_M hw
    exact va_Nw.of rfl (hts _ (List.mem_filter.mp hw).1)
  · have hi : i < 12 := (List.getElem?_eq_some_iff.mp ht).1
    refine vk_R.of (A := #[Value.ref b]) (ev_refs hts i t ht) ?_
    have := hKe i hi
    rw [show ev_tm i = Term.string t.1 t.2.1 by unfold ev_tm; rw [List.getD_eq_getElem?_getD, ht]; rfl] at this
    exact this
end ENV
