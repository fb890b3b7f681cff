/-! multianewarray of six rows of six ints -/
def mOut (cA q0 : Nat) (i : Nat) : Cell := { cls := cA, slots := ((List.range 6).map (fun j => if j < i then Value.ref (q0 + 1 + j) else Value.null)).toArray, vm := .none }
def mIn (cB : Nat) : Cell := { cls := cB, slots := Array.replicate 6 (.int 0), vm := .none }
def mHeap (cA cB : Nat) (H : Heap) : Nat → Heap
  | 0 => H.push (mOut cA H.size 0)
  | i + 1 => ((mHeap cA cB H i).push (mIn cB)).setIfInBounds H.size (mOut cA H.size (i + 1))
theorem mOut_size (cA q0 i : Nat) : (mOut cA q0 i).slots.size = 6 := by simp [mOut]
theorem mOut_set (cA q0 i : Nat) (hi : i < 6) : (mOut cA q0 i).setSlot i (.ref (q0 + 1 + i)) = mOut cA q0 (i + 1) := by
  rcases (show i = 0 ∨ i = 1 ∨ i = 2 ∨ i = 3 ∨ i = 4 ∨ i = 5 by omega) with rfl | rfl | rfl | rfl | rfl | rfl <;> rfl
theorem mHeap_size (cA cB : Nat) (H : Heap) : ∀ i, (mHeap cA cB H i).size = H.size + 1 + i
  | 0 => by simp [mHeap]
  | i + 1 => by
    have := mHeap_size cA cB H i
    simp [mHeap, this]; omega
theorem mHeap_out (cA cB : Nat) (H : Heap) : ∀ i, (mHeap cA cB H i)[H.size]? = some (mOut cA H.size i)
  | 0 => by simp [mHeap]
  | i + 1 => by
    have h1 := mHeap_size cA cB H i
    simp only [mHeap, Array.getElem?_setIfInBounds, Array.size_push, h1]
    simp; omega
theorem mHeap_old (cA cB : Nat) (H : Heap) {a : Nat} (ha : a < H.size) : ∀ i, (mHeap cA cB H i)[a]? = H[a]?
  | 0 => by simp only [mHeap, Array.getElem?_push]; rw [if_neg (by omega)]
  | i + 1 => by
    have h1 := mHeap_size cA cB H i
    simp only [mHeap, Array.getElem?_setIfInBounds, Array.getElem?_push, h1]
    rw [if_neg (by omega), if_neg (by omega)]
    exact mHeap_old cA cB H ha i
theorem mHeap_in (cA cB : Nat) (H : Heap) : ∀ i j, j < i → (mHeap cA cB H i)[H.size + 1 + j]? = some (mIn cB)
  | 0, j, h => absurd h (Nat.not_lt_zero j)
  | i + 1, j, h => by
    have h1 := mHeap_size cA cB H i
    simp only [mHeap, Array.getElem?_setIfInBounds, Array.getElem?_push, h1]
    rw [if_neg (by omega)]
    by_cases hj : j = i
    · rw [if_pos (by omega)]
    · rw [if_neg (by omega)]
      exact mHeap_in cA cB H i j (by omega)
def mSt (cA cB : Nat) (T : State) : Nat → State
  | 0 => T.pushCell (mOut cA T.heap.size 0)
  | i + 1 => ((mSt cA cB T i).pushCell (mIn cB)).setCell T.heap.size (mOut cA T.heap.size (i + 1))
theorem mSt_heap (cA cB : Nat) (T : State) : ∀ i, (mSt cA cB T i).heap = mHeap cA cB T.heap i
  | 0 => rfl
  | i + 1 => by
    have h := mSt_heap cA cB T i
    show (((mSt cA cB T i).heap.push (mIn cB)).setIfInBounds T.heap.size _) = _
    rw [h]; rfl
theorem mSt_vm (cA cB : Nat) (T : State) : ∀ i, (mSt cA cB T i).vm = T.vm
  | 0 => rfl
  | i + 1 => mSt_vm cA cB T i
theorem mSt_used (cA cB : Nat) (T : State) : ∀ i, (mSt cA cB T i).slotsUsed = T.slotsUsed + 6 + 6 * i
  | 0 => by show T.slotsUsed + (mOut cA T.heap.size 0).slots.size = _; rw [mOut_size]
  | i + 1 => by
    have h := mSt_used cA cB T i
    show (mSt cA cB T i).slotsUsed + 6 = _
    omega
theorem mSt_top (cA cB : Nat) (T : State) (f : JFrame) : ∀ i, mSt cA cB (T.setTop f) i = (mSt cA cB T i).setTop f
  | 0 => rfl
  | i + 1 => by simp only [mSt, mSt_top cA cB T f i, State.heap_setTop, State.pushCell_setTop, State.setCell_setTop]
section MUL
variable {p : Program} {l : Launch} {e : Env} {R : Room} {s : State} {m : MethodId} {args : Array Value} {below : List Frame} {meth : Method} {c : Code} {T : State} {locs : List Loc} {cells slots : Nat}
theorem mStand (X : Stand p l e R s m args below meth c T locs cells slots) (cA cB : Nat) : ∀ i, i ≤ 6 → ∃ L, Stand p l e R s m args below meth c (mSt cA cB T i) (locs ++ L) (cells + 1 + i) (slots + 6 + 6 * i) ∧ ∀ q ∈ L, q.base = T.heap.size
  | 0, _ => by
    have h := X.pushed (mOut cA T.heap.size 0)
    rw [mOut_size] at h
    exact ⟨[], by rw [List.append_nil]; exact h, fun q hq => by cases hq⟩
  | i + 1, hi => by
    obtain ⟨L, h, hL⟩ := mStand X cA cB i (by omega)
    have hc : ((mSt cA cB T i).pushCell (mIn cB)).heap[T.heap.size]? = some (mOut cA T.heap.size i) := by
      show ((mSt cA cB T i).heap.push (mIn cB))[T.heap.size]? = _
      rw [mSt_heap, Array.getElem?_push, if_neg (by rw [mHeap_size]; omega)]
      exact mHeap_out cA cB T.heap i
    have h2 := (h.pushed (mIn cB)).stored hc i (.ref (T.heap.size + 1 + i))
    rw [mOut_set _ _ _ (by omega)] at h2
    refine ⟨L ++ [⟨T.heap.size, i⟩], ?_, fun q hq => ?_⟩
    · rw [← List.append_assoc]
      have e1 : slots + 6 + 6 * (i + 1) = slots + 6 + 6 * i + (mIn cB).slots.size := by
        have : (mIn cB).slots.size = 6 := by simp [mIn]
        omega
      rw [e1]
      exact h2
    · rcases List.mem_append.mp hq with h | h
      · exact hL q h
      · rw [List.mem_singleton.mp h]
end MUL
section MUW
variable {E : CtlPost} {e : Env} {d : Bool} {acts : List Action} {s : State}
theorem mw_new {c comp : ClassId} {k : Class} {type : FieldType} {init : Value} (hk : s.vm.classes[c]? = some k) (hkind : k.kind = .array comp type)
    (hl : 6 ≤ e.platform.arrayLengthLimit) (hh : 6 * componentBytes type ≤ e.platform.maxHeapBytes) (hfit : fits type init = true) (hdef : init.isDefault = true) {Q : Addr → Pre}
    (h1 : s.heap.size < e.platform.maxCells) (h2 : s.slotsUsed + 6 ≤ e.platform.maxSlots)
    (hq : Q s.heap.size d acts (s.pushCell { cls := c, slots := Array.replicate 6 init, vm := .none })) : wp (Jvm.newArray c 6 init) Q E e d acts s := by
  have f1 : ∀ i v, (Array.replicate 6 init)[i]? = some v → s.fitsSlot c .none i v = true := by
    intro i v hv
    rw [Array.getElem?_replicate] at hv
    split at hv
    · cases hv
      simp [State.fitsSlot, State.slotType?, hk, hkind, hfit]
    · cases hv
  have f2 : allocActs (Array.replicate 6 init) s.heap.size acts = acts := by
    have ha : ((Array.replicate 6 init).all (·.isDefault)) = true := by
      rw [Array.all_replicate]
      simp [hdef]
    unfold allocActs
    rw [if_pos ha]
  have g1 : ¬ 6 > e.platform.arrayLengthLimit := by omega
  have g2 : ¬ 6 * componentBytes type > e.platform.maxHeapBytes := by omega
  simp only [Jvm.newArray, Jvm.arrayFits, wp_bind', W.ask, W.ite, g1, if_false, wp_pure', W.theClass, hk, hkind, g2, W.alloc, W.stop, Option.some.injEq, exists_eq_left', Array.size_replicate, f2]
  rw [if_neg (by omega)]
  exact ⟨h1, h2, f1, hq⟩
theorem mw_in {cB cI : ClassId} {kB : Class} (hk : s.vm.classes[cB]? = some kB) (hkind : kB.kind = .array cI .int) (hl : 6 ≤ e.platform.arrayLengthLimit) (hh : 24 ≤ e.platform.maxHeapBytes)
    (h1 : s.heap.size < e.platform.maxCells) (h2 : s.slotsUsed + 6 ≤ e.platform.maxSlots) {Q : Addr → Pre} (hq : Q s.heap.size d acts (s.pushCell (mIn cB))) : wp (Op.multianewarray.make cB [6]) Q E e d acts s := by
  rw [Op.multianewarray.make]
  have h0 : ¬ (6 : Int32) < 0 := by decide
  have h6 : (6 : Int32).toNatClampNeg = 6 := by decide
  simp only [wp_bind', W.ite, h0, if_false, wp_pure', W.theClass, hk, hkind, Option.some.injEq, exists_eq_left', h6]
  exact mw_new hk hkind hl (by show 6 * 4 ≤ _; omega) rfl rfl h1 h2 hq
theorem mw_out {cA cB cI : ClassId} {kA kB : Class} (hkA : s.vm.classes[cA]? = some kA) (hA : kA.kind = .array cB (.array .int)) (hkB : s.vm.classes[cB]? = some kB) (hB : kB.kind = .array cI .int) (hl : 6 ≤ e.platform.arrayLengthLimit) (hh : 24 ≤ e.platform.maxHeapBytes)
    (h1 : s.heap.size + 7 ≤ e.platform.maxCells) (h2 : s.slotsUsed + 42 ≤ e.platform.maxSlots) {Q : Addr → Pre} (hq : ∀ d' acts', Q s.heap.size d' acts' (mSt cA cB s 6)) : wp (Op.multianewarray.make cA [6, 6]) Q E e d acts s := by
  have h0 : ¬ (6 : Int32) < 0 := by decide
  have h6 : (6 : Int32).toNatClampNeg = 6 := by decide
  have hf : ([(6 : Int32)].find? (· < 0)) = none := by decide
  rw [Op.multianewarray.make]
  simp only [wp_bind', W.ite, h0, if_false, wp_pure', W.theClass, hkA, hA, Option.some.injEq, exists_eq_left', h6]
  refine mw_new hkA hA hl (by show 6 * 4 ≤ _; omega) rfl rfl (by omega) (by omega) ?_
  simp only [hf]
  rw [ite_self, wp_bind', Std.Legacy.Range.forIn_eq_forIn_range']
  have hsz : ([:6] : Std.Legacy.Range).size = 6 := by simp [Std.Legacy.Range.size]
  rw [hsz]
  show wp (forIn (List.range' 0 6 1) PUnit.unit _) _ E e d acts _
  refine wp_forIn_inv (fun rest s' => ∃ i, i ≤ 6 ∧ rest = List.range' i (6 - i) ∧ s' = mSt cA cB s i) _ _ ⟨0, Nat.zero_le _, rfl, rfl⟩ ?_ ?_
  · rintro x rest s' d' acts' Q' ⟨i, hi, hl9, rfl⟩ hnext
    have hlt : i < 6 := by
      rcases Nat.lt_or_ge i 6 with h | h
      · exact h
      · rw [show 6 - i = 0 from by omega] at hl9; simp at hl9
    obtain ⟨rfl, hrest⟩ : x = i ∧ rest = List.range' (i + 1) (6 - (i + 1)) := by
      rw [show 6 - i = (6 - (i + 1)) + 1 from by omega, List.range'_succ] at hl9
      exact ⟨(List.cons.inj hl9).1, (List.cons.inj hl9).2⟩
    have z1 : (mSt cA cB s x).heap.size = s.heap.size + 1 + x := by rw [mSt_heap, mHeap_size]
    have z2 := mSt_used cA cB s x
    simp only [wp_bind']
    refine mw_in (by rw [mSt_vm]; exact hkB) hB hl hh (by omega) (by omega) ?_
    have hc : ((mSt cA cB s x).pushCell (mIn cB)).heap[s.heap.size]? = some (mOut cA s.heap.size x) := by
      show ((mSt cA cB s x).heap.push (mIn cB))[s.heap.size]? = _
      rw [mSt_heap, Array.getElem?_push, if_neg (by rw [mHeap_size]; omega)]
      exact mHeap_out cA cB s.heap x
    simp only [wp_bind', W.writeLoc, wp_pure']
    refine ⟨mOut cA s.heap.size x, hc, by simp [mOut], by rw [mOut_size]; exact hlt, ?_, hnext _ _ _ ⟨x + 1, hlt, hrest, ?_⟩⟩
    · show State.fitsSlot _ cA .none x (.ref _) = true
      have hvm : ((mSt cA cB s x).pushCell (mIn cB)).vm = s.vm := mSt_vm cA cB s x
      unfold State.fitsSlot State.slotType?
      rw [hvm, hkA]
      simp only [Option.bind_eq_bind, Option.bind_some, hA]
      rfl
    · rw [z1]
      show ((mSt cA cB s x).pushCell (mIn cB)).setCell s.heap.size ((mOut cA s.heap.size x).setSlot x (.ref (s.heap.size + 1 + x))) = _
      rw [mOut_set _ _ _ hlt]
      rfl
  · rintro s' d' acts' ⟨i, hi, hl9, rfl⟩
    have hi6 : i = 6 := by
      rcases Nat.lt_or_ge i 6 with h | h
      · rw [show 6 - i = (6 - (i + 1)) + 1 from by omega, List.range'_succ] at hl9; cases hl9
      · omega
    subst hi6
    simp only [wp_pure']
    exact hq _ _
end MUW
section MUX
variable {p : Program} {l : Launch} {e : Env} {R : Room} {s : State} {m : MethodId} {args : Array Value} {below : List Frame} {meth : Method} {c : Code} {T : State} {locs : List Loc} {cells slots : Nat}
theorem mStep (X : Stand p l e R s m args below meth c T locs cells slots) (hexec : p.tables.exec = Jvm.exec) {own : String} {index : Nat} {cA cB cI : ClassId} {kA kB : Class}
    (hown : s.vm.findClass own = some m.cls) (hclink : (Cond.classLink own index "[[I").before args s = true) (hfA : s.vm.findClass "[[I" = some cA) (hkA : s.vm.classes[cA]? = some kA) (hA : kA.kind = .array cB (.array .int)) (hkB : s.vm.classes[cB]? = some kB) (hB : kB.kind = .array cI .int)
    {pc : Nat} {ls : Array Slot} {rest : List Value} (hdg : decode c.code pc = .ok (.multianewarray index 2, 4)) (hcells : cells + 7 ≤ R.cells) (hslots : slots + 42 ≤ R.slots) :
    ∃ (vm₁ : Vm), s.WarmedH vm₁ ∧ ∀ target, Steps p.tables e below ((mSt cA cB (T.setVm vm₁) 6).setTop (F0 m (pc + 4) ls (.ref T.heap.size :: rest))) target → Steps p.tables e below (T.setTop (F0 m pc ls (.int 6 :: .int 6 :: rest))) target := by
  have hpl : e.platform.magicAccessors = ({} : Platform).magicAccessors := by rw [X.admits.platform]
  obtain ⟨c0, hfc0, hcl⟩ := Cond.classLink_spec hown hclink e.platform hpl
  cases hfA.symm.trans hfc0
  obtain ⟨hg₁, hwarm₁, hready₁⟩ := State.classEntry (e := e) X.warmed hcl
  generalize T.vm.noted m.cls index (.cls cA) = vm₁ at hg₁ hwarm₁ hready₁
  obtain ⟨kA₁, hkA₁, heA⟩ := hwarm₁.alike.2.2 _ _ hkA
  obtain ⟨kB₁, hkB₁, heB⟩ := hwarm₁.alike.2.2 _ _ hkB
  have X₁ := X.noted hwarm₁
  obtain ⟨hr1, hr2⟩ := X.roomAbove hcells hslots
  refine ⟨vm₁, hwarm₁, fun target hrest => ?_⟩
  have hl1 : 6 ≤ e.platform.arrayLengthLimit := by rw [Launch.admits_arrayLengthLimit X.admits]; decide
  have hh1 : 24 ≤ e.platform.maxHeapBytes := by rw [Launch.admits_maxHeapBytes X.admits]; decide
  jvm_step X.here [hexec, hdg]
  simp only [Op.multianewarray.sem, wp_bind', W.resolveClassAt_links (State.method?_setTop (F0 m pc ls (.int 6 :: .int 6 :: rest)) X.here.top) hg₁]
  rw [W.popN, if_neg (by decide)]
  refine ⟨F0 m pc ls (.int 6 :: .int 6 :: rest), State.topJava?_setTop' (s := T.setVm vm₁) _ X.here.top, [.int 6, .int 6], rest, rfl, rfl, ?_⟩
  simp only [List.mapM_cons, List.mapM_nil, wp_bind', wp_pure']
  refine mw_out (kA := kA₁) (kB := kB₁) (cI := cI) hkA₁ (by rw [heA]; exact hA) hkB₁ (by rw [heB]; exact hB) hl1 hh1 (by show T.heap.size + 7 ≤ _; exact hr1) (by show T.slotsUsed + 42 ≤ _; exact hr2) (fun d' acts' => ?_)
  obtain ⟨L, XF, -⟩ := mStand X₁ cA cB 6 (Nat.le_refl _)
  have eS : ∀ f1 f2 : JFrame, ((T.setTop f1).setVm vm₁).setTop f2 = (T.setVm vm₁).setTop f2 := fun f1 f2 => by
    show ((T.setVm vm₁).setTop f1).setTop _ = _
    rw [State.setTop_setTop]
  rw [eS, mSt_top]
  simp only [wp_bind', W.mark, W.pushRef, State.topJava?_setTop' _ XF.here.top, Option.some.injEq, exists_eq_left', State.setTop_setTop, State.heap_setTop]
  intro acts
  simp [jvm, XF.here.top]
  exact hrest
end MUX
/-- the rows that multianewarray makes: the outer one, then six of six ints -/
def nwM (M : Mem) : Mem := (sh M ++ [(103, 6), (100, 6), (100, 6), (100, 6), (100, 6), (100, 6), (100, 6)], (fun a => if a < (sh M).length then mi M a else fun _ => 0), (fun a => if a < (sh M).length then ml M a else fun _ => 0), (fun a => if a < (sh M).length then mr M a else if a = (sh M).length then fun k => if k < 6 then some ((sh M).length + 1 + k) else none else fun _ => none), sc M)
theorem vv_nwM_n {M : Mem} {i : Nat} (t q : Nat) (h : i < (sh M).length) : vv t (nwM M) i q = vv t M i q := by
  match t with
  | 0 => show Value.int ((if i < (sh M).length then mi M i else fun _ => 0) q) = _; rw [if_pos h]; rfl
  | 1 => show Value.long ((if i < (sh M).length then ml M i else fun _ => 0) q) = _; rw [if_pos h]; rfl
  | t + 2 => show rv ((if i < (sh M).length then mr M i else _) q) = _; rw [if_pos h]; rfl
theorem arrV_of {cA N : Nat} {sl : Array Value} {f : Nat → Value} (h1 : sl.size = N) (h2 : ∀ j, j < N → sl[j]? = some (f j)) : ({ cls := cA, slots := sl, vm := .none } : Cell) = arrV cA N f := by
  unfold arrV
  congr 1
  apply Array.ext
  · simp [h1]
  · intro i hi1 hi2
    have := h2 i (by omega)
    rw [Array.getElem?_eq_getElem hi1] at this
    simpa using this
theorem mOut_arr {cA q0 : Nat} {f : Nat → Value} (hf : ∀ j, j < 6 → f j = .ref (q0 + 1 + j)) : mOut cA q0 6 = arrV cA 6 f := arrV_of (by simp) (fun j hj => by rw [hf j hj]; simp [hj])
theorem mIn_arr {cB : Nat} {f : Nat → Value} (hf : ∀ j, j < 6 → f j = .int 0) : mIn cB = arrV cB 6 f := arrV_of (by simp) (fun j hj => by rw [hf j hj]; simp [hj])
theorem nwM_out (M : Mem) (j : Nat) (hj : j < 6) : vv (akt 103) (nwM M) (sh M).length j = .ref ((sh M).length + 1 + j) := by
  show rv ((if (sh M).length < (sh M).length then mr M (sh M).length else if (sh M).length = (sh M).length then fun k => if k < 6 then some ((sh M).length + 1 + k) else none else fun _ => none) j) = _
  rw [if_neg (by omega), if_pos rfl]
  show rv (if j < 6 then _ else none) = _
  rw [if_pos hj]
  rfl
theorem nwM_in (M : Mem) (k j : Nat) : vv (akt 100) (nwM M) ((sh M).length + k) j = .int 0 := by
  show Value.int ((if (sh M).length + k < (sh M).length then mi M ((sh M).length + k) else fun _ => 0) j) = _
  rw [if_neg (by omega)]
theorem ex_multi {d : Nat} {y : Mth} {bc bs pc index : Nat} {lo : List (Option Value)} {st : List Value} {M : Mem} {Φ : Option Value → Mem → Prop} (hd : decode y.2.1 pc = .ok (.multianewarray index 2, 4)) (hk : Cond.classLink y.1.cls index "[[I" ∈ gtbl) (hb : 7 ≤ bc ∧ 42 ≤ bs) (hlen : (sh M).length + 7 ≤ 1048576)
    (kk : Ex d y (bc - 7) (bs - 42) (pc + 4) lo (.ref (sh M).length :: st) (nwM M) Φ) : Ex d y bc bs pc lo (.int 6 :: .int 6 :: st) M Φ := fun E p e R s m args below meth cc H locs cells slots ls ok hp hc hn hl => by
  have hts := ok.2.2.2.2.2.1
  have hE := ok.2.2.2.2.2.2.2.2.1
  obtain ⟨kA, hkA, hA⟩ := hE.2.2.2.1.2.2.2
  obtain ⟨-, kB, hkB, cI, hB⟩ := (hE.2.1 100 (by omega) (by omega)).1 0 (fun _ => .null)
  have hfA : s.vm.findClass "[[I" = some (eT E 103) := by
    have h := (hE.2.1 103 (by omega) (by omega)).2
    have e9 : "[" ++ (FieldType.array .int).toString = "[[I" := by decide +kernel
    rw [← e9]
    exact h
  intro T hT X
  obtain ⟨vm', hW, step⟩ := mStep X ok.1 ok.2.2.2.2.1 (hts _ hk) hfA hkA hA hkB hB (pc := pc) (ls := ls) (rest := st.map (cv E)) (by rw [ok.2.1]; exact hd) (by omega) (by omega)
  obtain ⟨L, XF, hL⟩ := mStand (X.noted hW) (eT E 103) (eT E 100) 6 (Nat.le_refl _)
  have hH : (mSt (eT E 103) (eT E 100) (T.setVm vm') 6).heap = mHeap (eT E 103) (eT E 100) H 6 := by rw [mSt_heap]; show mHeap _ _ T.heap 6 = _; rw [hT]
  have hz : (mHeap (eT E 103) (eT E 100) H 6).size = H.size + 7 := by rw [mHeap_size]
  have hs0 := hp.1.1
  have hW2 : Wd E (nwM M) (mHeap (eT E 103) (eT E 100) H 6) := by
    refine ⟨by rw [hz, hs0]; show _ = eZ E + (sh M ++ _).length; rw [List.length_append]; rfl, by show (sh M ++ _).length ≤ _; rw [List.length_append]; exact hlen, fun q hq => by rw [mHeap_old _ _ _ (by rw [hs0]; omega)]; exact hp.1.2.2.1 q hq, fun i kn hi => ?_, hp.1.2.2.2.2⟩
    by_cases hij : i < (sh M).length
    · have hi2 : (sh M)[i]? = some kn := by rw [← hi]; show _ = (sh M ++ _)[i]?; rw [List.getElem?_append_left hij]
      have h1 := hp.1.2.2.2.1 i kn hi2
      have e : (mHeap (eT E 103) (eT E 100) H 6)[eZ E + i]? = H[eZ E + i]? := mHeap_old _ _ _ (by rw [hs0]; omega) 6
      unfold cellOk at h1 ⊢
      split
      · rename_i hc9
        rw [if_pos hc9] at h1
        obtain ⟨r, a1, a2, a3⟩ := h1
        exact ⟨r, a1, a2, (a3.kept e).to (fun k _ => by rw [vv_nwM_n _ _ hij])⟩
      · rename_i hc9
        rw [if_neg hc9] at h1
        have ef : (fun k => cv E (vv (akt kn.1) (nwM M) i k)) = (fun k => cv E (vv (akt kn.1) M i k)) := funext fun k => by rw [vv_nwM_n _ _ hij]
        rw [e, h1, ef]
    · have hi3 : ([(103, 6), (100, 6), (100, 6), (100, 6), (100, 6), (100, 6), (100, 6)] : List (Nat × Nat))[i - (sh M).length]? = some kn := by
        rw [← hi]; show _ = (sh M ++ _)[i]?; rw [List.getElem?_append_right (by omega)]
      have hr := (List.getElem?_eq_some_iff.mp hi3).1
      obtain ⟨k, hk9⟩ : ∃ k, i = (sh M).length + k := ⟨i - (sh M).length, by omega⟩
      subst hk9
      rw [Nat.add_sub_cancel_left] at hi3 hr
      simp only [List.length_cons, List.length_nil] at hr
      by_cases hk0 : k = 0
      · subst hk0
        cases hi3
        unfold cellOk
        rw [if_neg (show ¬ (103 : Nat) < 100 by omega)]
        have e := mHeap_out (eT E 103) (eT E 100) H 6
        rw [hs0] at e
        rw [Nat.add_zero, e]
        refine congrArg some (mOut_arr (fun j hj => ?_))
        have hlt : ad E ((sh M).length + 1 + j) = eZ E + (sh M).length + 1 + j := by rw [ad_lt (by omega)]; omega
        show cv E (vv (akt 103) (nwM M) ((sh M).length + 0) j) = _
        rw [Nat.add_zero, nwM_out M j hj]
        exact congrArg Value.ref hlt
      · have hkn : kn = (100, 6) := by
          rcases (show k = 1 ∨ k = 2 ∨ k = 3 ∨ k = 4 ∨ k = 5 ∨ k = 6 by omega) with rfl | rfl | rfl | rfl | rfl | rfl <;> (cases hi3; rfl)
        subst hkn
        unfold cellOk
        rw [if_neg (show ¬ (100 : Nat) < 100 by omega)]
        have e := mHeap_in (eT E 103) (eT E 100) H 6 (k - 1) (by omega)
        rw [hs0] at e
        rw [show eZ E + ((sh M).length + k) = eZ E + (sh M).length + 1 + (k - 1) by omega, e]
        refine congrArg some (mIn_arr (fun j hj => ?_))
        show cv E (vv (akt 100) (nwM M) ((sh M).length + k) j) = _
        rw [nwM_in M k j]
        rfl
  obtain ⟨t, a1, b1⟩ := kk E p e R s m args below meth cc (mHeap (eT E 103) (eT E 100) H 6) (locs ++ L) (cells + 1 + 6) (slots + 6 + 6 * 6) ls ok ⟨hW2, by rw [hz]; exact Nat.le_trans hp.2.1 (by omega), fun q hq => by
    rcases List.mem_append.mp hq with h | h
    · exact hp.2.2 q h
    · rw [hL q h]; show eZ E ≤ T.heap.size; rw [hT, hs0]; omega⟩ (by omega) (by omega) hl _ hH XF
  refine ⟨t, step t ?_, b1⟩
  have e8 : T.heap.size = ad E (sh M).length := by rw [hT, ad_lt (by omega), hs0]
  rw [e8]
  exact a1
