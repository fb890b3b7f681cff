/-! contracts, and the rules of Ex for calls -/
theorem gtbl_good {w : Cond} (h : w ∈ gtbl) : (w.onTables && w.keeps) = true ∨ ∃ ty, w = .arrayClass ty := good_of_word (List.mem_filter.mp h).2
def wsY (y : Mth) : List Cond := Cond.code y.1 y.2.1 y.2.2.1 y.2.2.2 :: gtbl
theorem good_ws {y : Mth} {n : Nat} (h : MF y n) : GoodIn gtbl (wsY y) := by
  intro w hw
  rcases List.mem_cons.mp hw with rfl | hw
  · exact ⟨h.1, gtbl_good h.1⟩
  · exact ⟨hw, gtbl_good hw⟩
def rmY (d mc ms : Nat) : Room := { frames := d, cells := mc, slots := ms, locals := 64 * d }
def PF (E : EV) (as : List Value) (M : Mem) : Array Value → State → Prop := fun v U => v = (as.map (cv E)).toArray ∧ EnvOK E U ∧ Wd E M U.heap
def Con (d : Nat) (y : Mth) (mc ms : Nat) (as : List Value) (M : Mem) (Φ : Option Value → Mem → Prop) : Prop :=
  ∀ E : EV, Met (eL E) y.1 (wsY y) (rmY d mc ms) (PF E as M) (QF E Φ) mc ms (fun q => eZ E ≤ q)
def en0 : List Value → List (Option Value)
  | [] => []
  | .long x :: vs => some (.long x) :: none :: en0 vs
  | .double x :: vs => some (.double x) :: none :: en0 vs
  | v :: vs => some v :: en0 vs
theorem en0_at (E : EV) : ∀ (as : List Value) (i b : Nat) (v : Value), (en0 as)[i]? = some (some v) → (i + b, cv E v) ∈ lv_args b (as.map (cv E)) := by
  intro as
  induction as with
  | nil => intro i b v h; simp [en0] at h
  | cons w ws ih =>
    intro i b v h
    have one : ∀ (u : Value), u.category = 1 → en0 (u :: ws) = some u :: en0 ws → (en0 (u :: ws))[i]? = some (some v) → (i + b, cv E v) ∈ lv_args b ((u :: ws).map (cv E)) := by
      intro u hu e h
      rw [e] at h
      have e2 : lv_args b ((u :: ws).map (cv E)) = (b, cv E u) :: lv_args (b + 1) (ws.map (cv E)) := by
        have : (cv E u).category = 1 := (cv_cat E u).trans hu
        simp [lv_args, this]
      rw [e2]
      cases i with
      | zero =>
        simp at h
        subst h
        simp
      | succ i =>
        have := ih i (b + 1) v (by simpa using h)
        rw [show i + 1 + b = i + (b + 1) by omega]
        exact List.mem_cons_of_mem _ this
    have two : ∀ (u : Value), u.category = 2 → en0 (u :: ws) = some u :: none :: en0 ws → (en0 (u :: ws))[i]? = some (some v) → (i + b, cv E v) ∈ lv_args b ((u :: ws).map (cv E)) := by
      intro u hu e h
      rw [e] at h
      have e2 : lv_args b ((u :: ws).map (cv E)) = (b, cv E u) :: lv_args (b + 2) (ws.map (cv E)) := by
        have : (cv E u).category = 2 := (cv_cat E u).trans hu
        simp [lv_args, this]
      rw [e2]
      match i with
      | 0 =>
        simp at h
        subst h
        simp
      | 1 => simp at h
      | i + 2 =>
        have := ih i (b + 2) v (by simpa using h)
        rw [show i + 2 + b = i + (b + 2) by omega]
        exact List.mem_cons_of_mem _ this
    cases w with
    | long x => exact two _ rfl rfl h
    | double x => exact two _ rfl rfl h
    | _ => exact one _ rfl rfl h
theorem en0_len (E : EV) : ∀ (as : List Value), (lg_sl (as.map (cv E))).length = (en0 as).length
  | [] => rfl
  | v :: vs => by
    have ih := en0_len E vs
    have e : lg_sl ((v :: vs).map (cv E)) = (if (cv E v).category = 2 then [.val (cv E v), .second] else [.val (cv E v)]) ++ lg_sl (vs.map (cv E)) := by
      simp [lg_sl, List.flatMap_cons]
    rw [e, List.length_append, ih, cv_cat]
    cases v <;> simp [Value.category, en0] <;> omega
theorem Con.of {d : Nat} {y : Mth} {mc ms n : Nat} {as : List Value} {lo : List (Option Value)} {M : Mem} {Φ : Option Value → Mem → Prop} (hF : MF y n) (hlo : en0 as = lo) (hn : lo.length ≤ y.2.2.1) (h : Ex d y mc ms 0 lo [] M Φ) : Con d y mc ms as M Φ := by
  intro E
  refine Met.ofW (cc := y.2.1) (maxL := y.2.2.1) (ret := y.2.2.2) hF.2.2.2.2.1 rfl ?_
  intro p e s m args below meth c s₁ B hml hv
  obtain ⟨rfl, hE, hW⟩ := hv
  subst hlo
  have hts := atoms_spec (ws := wsY y) B.pre
  rw [lg_entry_eq]
  have hl := lv_entry (as.map (cv E)) (n := y.2.2.1) (by rw [en0_len]; exact hn)
  refine h E p e _ s m _ below meth c s.heap [] 0 0 _ ⟨B.exec, B.bytes, B.returns, hml, findClass_of_methodNamed B.named, fun w hw => hts w (List.mem_cons_of_mem _ hw), B.notSynchronized, (fun q => (name_of_methodNamed B.named B.method).1.trans q), hE, Nat.le_refl _, Nat.le_refl _, by rw [hW.1]; exact Nat.le_add_right _ _⟩ ⟨hW, Nat.le_refl _, fun q hq => by cases hq⟩ (by rw [Nat.zero_add]; exact Nat.le_refl _) (by rw [Nat.zero_add]; exact Nat.le_refl _) ⟨hl.1, hl.2.1, fun i v hi => ?_⟩
  exact hl.2.2 _ (by have := en0_at E as i 0 v hi; simpa using this)
theorem Con.mono {d : Nat} {y : Mth} {mc ms : Nat} {as : List Value} {M : Mem} {Φ Ψ : Option Value → Mem → Prop} (h : Con d y mc ms as M Φ) (hi : ∀ o M2, Φ o M2 → Ψ o M2) : Con d y mc ms as M Ψ := by
  intro E p e a1 a2 a3 s m args below b1 b2 b3 b4
  obtain ⟨t, o, h1, h2, h3, ⟨⟨r, M2, q1, q2, q3⟩, h4⟩⟩ := h E p e a1 a2 a3 s m args below b1 b2 b3 b4
  exact ⟨t, o, h1, h2, h3, ⟨⟨r, M2, q1, hi _ _ q2, q3⟩, h4⟩⟩
theorem PF_blind (E : EV) (as : List Value) (M : Mem) : FrameBlind (PF E as M) := fun a U g mk q => ⟨q.1, EnvOK.same (u := U) (U := U.calling g mk a) rfl q.2.1, q.2.2⟩
section EXC
variable {d : Nat} {y : Mth} {bc bs pc : Nat} {lo : List (Option Value)} {st : List Value} {M : Mem} {Φ : Option Value → Mem → Prop}
/-- behind a call -/
theorem ex_back {E : EV} {p : Program} {e : Env} {R : Room} {s : State} {m : MethodId} {args a : Array Value} {below : List Frame} {meth : Method} {cc : Code} {H : Heap} {locs : List Loc} {cells slots mc ms : Nat} {ls : Array Slot} {st0 : List Value} {rest : List Value}
    (hr : va_Run p (eL E) e R s m args below meth cc H locs cells slots mc ms (F0 m pc ls st0) (rest.map (cv E)) (QF E (fun o M2 => Ex d y (bc - mc) (bs - ms) (pc + 3) lo (o.toList ++ rest) M2 Φ) a) (fun q => eZ E ≤ q))
    (hm : mc ≤ bc ∧ ms ≤ bs) (ok : Ok E y d p R s m args meth cc) (hp : Hp E M s H locs) (hc : cells + bc ≤ R.cells) (hn : slots + bs ≤ R.slots) (hl : LH E ls y.2.2.1 lo) :
    W p (eL E) e R s m args below meth cc H locs cells slots (MQ below (QF E Φ) args s R.cells R.slots (fun q => eZ E ≤ q)) (F0 m pc ls st0) := by
  intro T hT X
  obtain ⟨v, st₀, t, T', L, h0, X', hL, e1, e2, ⟨r, M2, hv, hp2, hw, hz⟩, st9⟩ := hr T hT X
  have hv2 : v = r.map (cv E) := by
    have := congrArg (fun o => match o with | Outcome.returned w => w | _ => none) hv
    exact this
  subst hv2
  have hH : Hp E M2 s T'.heap (locs ++ L) := ⟨by rw [e1]; exact hw, by rw [e1]; rw [h0] at hz; exact Nat.le_trans hp.2.1 hz, fun q hq => by
    rcases List.mem_append.mp hq with h | h
    · exact hp.2.2 q h
    · exact hL q h⟩
  obtain ⟨t2, a1, b1⟩ := hp2 E p e R s m args below meth cc T'.heap (locs ++ L) (cells + mc) (slots + ms) ls ok hH (by omega) (by omega) hl T' rfl X'
  refine ⟨t2, st9 t2 ?_, b1⟩
  have e9 : (r.map (cv E)).toList ++ rest.map (cv E) = (r.toList ++ rest).map (cv E) := by cases r <;> simp
  rw [e9]
  exact a1
theorem cat_sum (E : EV) (l : List Value) : ((l.map (cv E)).map fun v => v.category).sum = (l.map fun v => v.category).sum := by
  induction l with
  | nil => rfl
  | cons a l ih =>
    rw [List.map_cons, List.map_cons, List.sum_cons, ih, List.map_cons, List.sum_cons, cv_cat]
theorem rm_ok {d d2 mc ms : Nat} {y2 : Mth} {n : Nat} {R : Room} (hF : MF y2 n) (hd2 : d2 < d) (h1 : d ≤ R.frames) (h2 : 64 * d ≤ R.locals) : (rmY d2 mc ms).frames + 1 ≤ R.frames ∧ 8 + (y2.2.2.1 + 11) + (rmY d2 mc ms).locals ≤ R.locals := by
  have h3 := hF.2.2.2.2.2
  refine ⟨?_, ?_⟩
  · show d2 + 1 ≤ _; omega
  · show 8 + (y2.2.2.1 + 11) + 64 * d2 ≤ _; omega
abbrev KC (d : Nat) (y : Mth) (bc bs pc : Nat) (lo : List (Option Value)) (rest : List Value) (Φ : Option Value → Mem → Prop) : Option Value → Mem → Prop := fun o M2 => Ex d y bc bs (pc + 3) lo (o.toList ++ rest) M2 Φ
theorem ex_callS {d2 mc ms n index : Nat} {y2 : Mth} {as rest st0 : List Value} (hd : decode y.2.1 pc = .ok (.invokestatic index, 3)) (hF : MFs y2 n) (hk : Cond.methodLink y.1.cls index y2.1 ∈ gtbl) (hn9 : as.length = n) (hst : as.reverse ++ rest = st0) (hw : (rest.map fun v => v.category).sum ≤ 8) (hd2 : d2 < d) (hm : mc ≤ bc ∧ ms ≤ bs)
    (h : Con d2 y2 mc ms as M (KC d y (bc - mc) (bs - ms) pc lo rest Φ)) : Ex d y bc bs pc lo st0 M Φ := fun E p e R s m args below meth cc H locs cells slots ls ok hp hc hn hl => by
  subst hst
  have hts := ok.2.2.2.2.2.1
  have hrm := rm_ok (mc := mc) (ms := ms) hF.1 hd2 ok.2.2.2.2.2.2.2.2.2.1 ok.2.2.2.2.2.2.2.2.2.2.1
  have cw : CallB R s args y.1.cls index y2.1 y2.2.1 y2.2.2.1 y2.2.2.2 (wsY y2) (rmY d2 mc ms) mc ms n ∧ (Cond.static y2.1).before args s = true := ⟨callB_of n hts (good_ws hF.1) rfl rfl rfl (hts _ hF.1.2.1) (hts _ hk) ⟨hF.1.2.2.1.1, hF.1.2.2.1.2, hF.1.2.2.2.1⟩ hrm, hts _ hF.2⟩
  exact ex_back (va_runS (As := as.map (cv E)) (rest := rest.map (cv E)) ⟨ok.1, ok.2.1, ok.2.2.2.1, ok.2.2.2.2.1, hts⟩ (h E) cw ⟨PF_blind E as M, fun U hU hW => ⟨rfl, EnvOK.warm hW ok.2.2.2.2.2.2.2.2.1, by rw [hU]; exact hp.1⟩⟩ rfl (by rw [List.length_map]; exact hn9) hl.1 (by rw [List.map_append, List.map_reverse]) (lv_room (by rw [cat_sum]; exact hw)) hd ⟨by omega, by omega⟩) hm ok hp hc hn hl
theorem ex_callSN {d2 mc ms n index : Nat} {host : String} {y2 : Mth} {as rest st0 : List Value} (hd : decode y.2.1 pc = .ok (.invokestatic index, 3)) (hF : MFs y2 n) (hk : Cond.methodLinkNest y.1.cls index y2.1 host ∈ nst_tbl) (hn9 : as.length = n) (hst : as.reverse ++ rest = st0) (hw : (rest.map fun v => v.category).sum ≤ 8) (hd2 : d2 < d) (hm : mc ≤ bc ∧ ms ≤ bs)
    (h : Con d2 y2 mc ms as M (KC d y (bc - mc) (bs - ms) pc lo rest Φ)) : Ex d y bc bs pc lo st0 M Φ := fun E p e R s m args below meth cc H locs cells slots ls ok hp hc hn hl => by
  subst hst
  have hts := ok.2.2.2.2.2.1
  have hrm := rm_ok (mc := mc) (ms := ms) hF.1 hd2 ok.2.2.2.2.2.2.2.2.2.1 ok.2.2.2.2.2.2.2.2.2.2.1
  have cw := va_cnB (R := R) (s := s) (args := args) (own := y.1.cls) (host := host) (index := index) (maxL := y2.2.2.1) (mc := mc) (ms := ms) (y := y2.1) (bytes := y2.2.1) (ret := y2.2.2.2) (rm := rmY d2 mc ms) n hts (good_ws hF.1) rfl rfl rfl (ok.2.2.2.2.2.2.2.2.1.2.2.1 _ hk) (hts _ hF.1.2.1) ⟨hF.1.2.2.1.1, hF.1.2.2.1.2, hF.1.2.2.2.1⟩ hrm
  exact ex_back (va_runSN (As := as.map (cv E)) (rest := rest.map (cv E)) ⟨ok.1, ok.2.1, ok.2.2.2.1, ok.2.2.2.2.1, hts⟩ (h E) ⟨cw, hts _ hF.2, trivial⟩ ⟨PF_blind E as M, fun U hU hW => ⟨rfl, EnvOK.warm hW ok.2.2.2.2.2.2.2.2.1, by rw [hU]; exact hp.1⟩⟩ rfl (by rw [List.length_map]; exact hn9) hl.1 (by rw [List.map_append, List.map_reverse]) (lv_room (by rw [cat_sum]; exact hw)) hd ⟨by omega, by omega⟩) hm ok hp hc hn hl
theorem recv_ok {E : EV} {M : Mem} {s : State} {H : Heap} {j ci N : Nat} {C : String} {T : u_T} (hK : va_K (eD E) cls_tbl [] s) (h : Wd E M H) (hs : (sh M)[j]? = some (ci, N)) (hc : ci < 100) (hC : cls_tbl[ci]? = some (C, T, N)) : ∃ cell : Cell, H[ad E j]? = some cell ∧ cell.vm.isStatics = false ∧ s.vm.findClass C = some cell.cls := by
  obtain ⟨r, q0, q00, cell, q1, q2, q3, q4⟩ := h.obj hs hc
  rw [hC] at q0
  cases q0
  rw [h.adr hs]
  exact ⟨cell, q1, by rw [q3]; rfl, by rw [q2]; exact (hK.1 ci _ hC).2.1⟩
theorem ex_callV {d2 mc ms n index j ci N : Nat} {T : u_T} {y2 : Mth} {as rest st0 : List Value} (hd : decode y.2.1 pc = .ok (.invokevirtual index, 3)) (hF : MFv y2 n) (hk : Cond.methodLink y.1.cls index y2.1 ∈ gtbl) (hs : (sh M)[j]? = some (ci, N)) (hC : cls_tbl[ci]? = some (y2.1.cls, T, N)) (hci : ci < 100) (hn9 : as.length = n) (hst : as.reverse ++ .ref j :: rest = st0) (hw : (rest.map fun v => v.category).sum ≤ 8) (hd2 : d2 < d) (hm : mc ≤ bc ∧ ms ≤ bs)
    (h : Con d2 y2 mc ms (.ref j :: as) M (KC d y (bc - mc) (bs - ms) pc lo rest Φ)) : Ex d y bc bs pc lo st0 M Φ := fun E p e R s m args below meth cc H locs cells slots ls ok hp hc hn hl => by
  subst hst
  have hts := ok.2.2.2.2.2.1
  have hrm := rm_ok (mc := mc) (ms := ms) hF.1 hd2 ok.2.2.2.2.2.2.2.2.2.1 ok.2.2.2.2.2.2.2.2.2.2.1
  have cw : CallW R s args y.1.cls y2.1.cls index y2.1 y2.2.1 y2.2.2.1 y2.2.2.2 (wsY y2) (rmY d2 mc ms) mc ms n := ⟨callB_of n hts (good_ws hF.1) rfl rfl rfl (hts _ hF.1.2.1) (hts _ hk) ⟨hF.1.2.2.1.1, hF.1.2.2.1.2, hF.1.2.2.2.1⟩ hrm, hts _ hF.2.1, hts _ hF.2.2⟩
  exact ex_back (va_runV (As := as.map (cv E)) (b := ad E j) (rest := rest.map (cv E)) ⟨ok.1, ok.2.1, ok.2.2.2.1, ok.2.2.2.2.1, hts⟩ (h E) cw ⟨PF_blind E _ M, recv_ok ok.2.2.2.2.2.2.2.2.1.1 hp.1 hs hci hC, fun U hU hW => ⟨rfl, EnvOK.warm hW ok.2.2.2.2.2.2.2.2.1, by rw [hU]; exact hp.1⟩⟩ rfl (by rw [List.length_map]; exact hn9) hl.1 (by rw [List.map_append, List.map_reverse]; rfl) (lv_room (by rw [cat_sum]; exact hw)) hd ⟨by omega, by omega⟩) hm ok hp hc hn hl
theorem ex_callI {d2 mc ms n index j : Nat} {y2 : Mth} {as rest st0 : List Value} (hd : decode y.2.1 pc = .ok (.invokespecial index, 3)) (hF : MFi y2 n) (hk : Cond.methodLink y.1.cls index y2.1 ∈ gtbl) (hrt : y2.2.2.2 = none) (hn9 : as.length = n) (hst : as.reverse ++ .ref j :: rest = st0) (hw : (rest.map fun v => v.category).sum ≤ 8) (hd2 : d2 < d) (hm : mc ≤ bc ∧ ms ≤ bs)
    (h : Con d2 y2 mc ms (.ref j :: as) M (KC d y (bc - mc) (bs - ms) pc lo rest Φ)) : Ex d y bc bs pc lo st0 M Φ := fun E p e R s m args below meth cc H locs cells slots ls ok hp hc hn hl => by
  subst hst
  have hts := ok.2.2.2.2.2.1
  have hrm := rm_ok (mc := mc) (ms := ms) hF.1 hd2 ok.2.2.2.2.2.2.2.2.2.1 ok.2.2.2.2.2.2.2.2.2.2.1
  have cw : CallB R s args y.1.cls index y2.1 y2.2.1 y2.2.2.1 none (wsY y2) (rmY d2 mc ms) mc ms n ∧ y2.1.name = "<init>" ∧ (Cond.instanceMethod y2.1).before args s = true := cwI n hts (good_ws hF.1) (ws' := gtbl) (by rw [← hrt]; rfl) rfl rfl (hts _ hF.1.2.1) (hts _ hk) (hts _ hF.2.1) hF.2.2 ⟨hF.1.2.2.1.1, hF.1.2.2.1.2, hF.1.2.2.2.1⟩ hrm
  exact ex_back (va_runI (As := as.map (cv E)) (b := ad E j) (rest := rest.map (cv E)) ⟨ok.1, ok.2.1, ok.2.2.2.1, ok.2.2.2.2.1, hts⟩ (h E) cw ⟨PF_blind E _ M, fun U hU hW => ⟨rfl, EnvOK.warm hW ok.2.2.2.2.2.2.2.2.1, by rw [hU]; exact hp.1⟩⟩ rfl (by rw [List.length_map]; exact hn9) hl.1 (by rw [List.map_append, List.map_reverse]; rfl) (lv_room (by rw [cat_sum]; exact hw)) hd ⟨by omega, by omega⟩) hm ok hp hc hn hl
theorem ex_callIN {d2 mc ms n index j : Nat} {host : String} {y2 : Mth} {as rest st0 : List Value} (hd : decode y.2.1 pc = .ok (.invokespecial index, 3)) (hF : MFi y2 n) (hk : Cond.methodLinkNest y.1.cls index y2.1 host ∈ nst_tbl) (hrt : y2.2.2.2 = none) (hn9 : as.length = n) (hst : as.reverse ++ .ref j :: rest = st0) (hw : (rest.map fun v => v.category).sum ≤ 8) (hd2 : d2 < d) (hm : mc ≤ bc ∧ ms ≤ bs)
    (h : Con d2 y2 mc ms (.ref j :: as) M (KC d y (bc - mc) (bs - ms) pc lo rest Φ)) : Ex d y bc bs pc lo st0 M Φ := fun E p e R s m args below meth cc H locs cells slots ls ok hp hc hn hl => by
  subst hst
  have hts := ok.2.2.2.2.2.1
  have hrm := rm_ok (mc := mc) (ms := ms) hF.1 hd2 ok.2.2.2.2.2.2.2.2.2.1 ok.2.2.2.2.2.2.2.2.2.2.1
  have cw := va_cnB (R := R) (s := s) (args := args) (own := y.1.cls) (host := host) (index := index) (maxL := y2.2.2.1) (mc := mc) (ms := ms) (y := y2.1) (bytes := y2.2.1) (ret := none) (rm := rmY d2 mc ms) n hts (good_ws hF.1) (ws' := gtbl) (by rw [← hrt]; rfl) rfl rfl (ok.2.2.2.2.2.2.2.2.1.2.2.1 _ hk) (hts _ hF.1.2.1) ⟨hF.1.2.2.1.1, hF.1.2.2.1.2, hF.1.2.2.2.1⟩ hrm
  exact ex_back (va_runIN (As := as.map (cv E)) (b := ad E j) (rest := rest.map (cv E)) ⟨ok.1, ok.2.1, ok.2.2.2.1, ok.2.2.2.2.1, hts⟩ (h E) ⟨cw, hF.2.2, hts _ hF.2.1⟩ ⟨PF_blind E _ M, fun U hU hW => ⟨rfl, EnvOK.warm hW ok.2.2.2.2.2.2.2.2.1, by rw [hU]; exact hp.1⟩⟩ rfl (by rw [List.length_map]; exact hn9) hl.1 (by rw [List.map_append, List.map_reverse]; rfl) (lv_room (by rw [cat_sum]; exact hw)) hd ⟨by omega, by omega⟩) hm ok hp hc hn hl
end EXC
