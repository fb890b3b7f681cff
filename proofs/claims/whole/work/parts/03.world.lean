/-! The abstract memory (cells by number from the law's start on, their shapes and what they hold), the machine's heap that holds it, and the judgement Ex: a frame at pc with locals, stack and memory comes to the method's end with Φ. -/
abbrev Mem : Type := List (Nat × Nat) × (Nat → Nat → Int32) × (Nat → Nat → Int64) × (Nat → Nat → Option Nat) × (Nat × (Nat → Int32))
def sh (M : Mem) : List (Nat × Nat) := M.1
def mi (M : Mem) : Nat → Nat → Int32 := M.2.1
def ml (M : Mem) : Nat → Nat → Int64 := M.2.2.1
def mr (M : Mem) : Nat → Nat → Option Nat := M.2.2.2.1
def sc (M : Mem) : Nat × (Nat → Int32) := M.2.2.2.2
/-- one place of a row; one place of a row of rows -/
def u1 {α : Type} (g : Nat → α) (k : Nat) (v : α) : Nat → α := fun b => if b = k then v else g b
def u2 {α : Type} (f : Nat → Nat → α) (j k : Nat) (v : α) : Nat → Nat → α := fun a => if a = j then u1 (f a) k v else f a
theorem u1_s {α : Type} (g : Nat → α) (k : Nat) (v : α) : u1 g k v k = v := by simp [u1]
theorem u1_n {α : Type} {g : Nat → α} {k b : Nat} {v : α} (h : b ≠ k) : u1 g k v b = g b := by simp [u1, h]
theorem u2_s {α : Type} (f : Nat → Nat → α) (j k : Nat) (v : α) : u2 f j k v j = u1 (f j) k v := by simp [u2]
theorem u2_n {α : Type} {f : Nat → Nat → α} {j k a : Nat} {v : α} (h : a ≠ j) : u2 f j k v a = f a := by simp [u2, h]
def wi (M : Mem) (j k : Nat) (v : Int32) : Mem := (sh M, u2 (mi M) j k v, ml M, mr M, sc M)
def wl (M : Mem) (j k : Nat) (v : Int64) : Mem := (sh M, mi M, u2 (ml M) j k v, mr M, sc M)
def wr (M : Mem) (j k : Nat) (v : Option Nat) : Mem := (sh M, mi M, ml M, u2 (mr M) j k v, sc M)
def rv : Option Nat → Value
  | none => .null
  | some a => .ref a
/-- place k of cell j, by its type code -/
def vv (t : Nat) (M : Mem) (j k : Nat) : Value := match t with
  | 0 => .int (mi M j k)
  | 1 => .long (ml M j k)
  | _ => rv (mr M j k)
/-- arrays by kind: int, boolean, long, int[], Rule, Giving, Sheet -/
def akt (k : Nat) : Nat := match k with
  | 100 => 0
  | 101 => 0
  | 102 => 1
  | _ => 2
def aty (k : Nat) : FieldType := match k with
  | 100 => .int
  | 101 => .boolean
  | 102 => .long
  | 103 => .array .int
  | 104 => .object "MarketDays$Rule"
  | 105 => .object "MarketDays$Giving"
  | _ => .object "MarketDays$Sheet"
/-- what stays through the law's run: launch, the first cell's address, the heap at the start, classes, array classes, String constants, their bytes, the script, a formatter -/
abbrev EV : Type := Launch × Nat × Heap × va_G × (Nat → ClassId) × (Nat → Nat) × (Nat → Nat) × Nat × Nat
def eL (E : EV) : Launch := E.1
def eZ (E : EV) : Nat := E.2.1
def eG (E : EV) : Heap := E.2.2.1
def eD (E : EV) : va_G := E.2.2.2.1
def eT (E : EV) : Nat → ClassId := E.2.2.2.2.1
def eK (E : EV) : Nat → Nat := E.2.2.2.2.2.1
def eV (E : EV) : Nat → Nat := E.2.2.2.2.2.2.1
def eB (E : EV) : Nat := E.2.2.2.2.2.2.2.1
def eF (E : EV) : Nat := E.2.2.2.2.2.2.2.2
/-- cell numbers: from 1048576 on what was there before: String constants, their bytes, the script, the formatter -/
def ad (E : EV) (j : Nat) : Nat := if j < 1048576 then eZ E + j else if j < 1048676 then eK E (j - 1048576) else if j < 1048776 then eV E (j - 1048676) else if j = 1048776 then eB E else eF E
def cv (E : EV) (v : Value) : Value := match v with
  | .ref j => .ref (ad E j)
  | w => w
theorem cv_cat (E : EV) (v : Value) : (cv E v).category = v.category := by cases v <;> rfl
theorem ad_lt {E : EV} {j : Nat} (h : j < 1048576) : ad E j = eZ E + j := by simp [ad, h]
def cellOk (E : EV) (M : Mem) (H : Heap) (j : Nat) (kn : Nat × Nat) : Prop :=
  if kn.1 < 100 then ∃ r : vw_C, cls_tbl[kn.1]? = some r ∧ r.2.2 = kn.2 ∧ t_OB (eZ E + j) ((eD E).1 kn.1) kn.2 ((eD E).2 kn.1) H (fun k => cv E (vv (ftc kn.1 k) M j k))
  else H[eZ E + j]? = some (arrV (eT E kn.1) kn.2 (fun k => cv E (vv (akt kn.1) M j k)))
def Wd (E : EV) (M : Mem) (H : Heap) : Prop :=
  H.size = eZ E + (sh M).length ∧ (sh M).length ≤ 1048576 ∧ (∀ q, q < eZ E → H[q]? = (eG E)[q]?) ∧ (∀ j kn, (sh M)[j]? = some kn → cellOk E M H j kn) ∧
  ∃ scr : Cell, (eG E)[eB E]? = some scr ∧ scr.slots.size = (sc M).1 ∧ ∀ j : Nat, j < (sc M).1 → scr.slots[j]? = some (.int ((sc M).2 j))
def nst_tbl : List Cond := lw_tbl.filter (fun w => match w with
  | .methodLinkNest _ _ _ _ => true
  | _ => false)
def sTab : List (String × Nat × String) := [("MarketDays", 81, "near hours < 4 ; worth 10 - other * 2 + want * 5 ;"), ("MarketDays$Tape", 105, "near"), ("MarketDays$Tape", 111, "worth"), ("MarketDays$Tape", 113, "or"), ("MarketDays$Tape", 115, "and"), ("MarketDays$Tape", 117, "not"), ("MarketDays$Tape", 119, "hours"), ("MarketDays$Tape", 121, "size"), ("MarketDays$Tape", 122, "other"), ("MarketDays$Tape", 124, "day"), ("MarketDays$Tape", 126, "want"), ("MarketDays$Tape", 128, "week")]
def sByt : List (List Int32) := [[110, 101, 97, 114, 32, 104, 111, 117, 114, 115, 32, 60, 32, 52, 32, 59, 32, 119, 111, 114, 116, 104, 32, 49, 48, 32, 45, 32, 111, 116, 104, 101, 114, 32, 42, 32, 50, 32, 43, 32, 119, 97, 110, 116, 32, 42, 32, 53, 32, 59], [110, 101, 97, 114], [119, 111, 114, 116, 104], [111, 114], [97, 110, 100], [110, 111, 116], [104, 111, 117, 114, 115], [115, 105, 122, 101], [111, 116, 104, 101, 114], [100, 97, 121], [119, 97, 110, 116], [119, 101, 101, 107]]
def sLen : List Nat := [50, 4, 5, 2, 3, 3, 5, 4, 5, 3, 4, 4]
theorem sLen_ok : ∀ i, i < 12 → sLen.getD i 0 = (sByt.getD i []).length := by decide +kernel
/-- what a state's tables say, and the cells that were there at the start -/
def EnvOK (E : EV) (U : State) : Prop :=
  va_K (eD E) cls_tbl [] U ∧ (∀ k, 100 ≤ k → k ≤ 106 → ArrOfT U (eT E k) (aty k) ∧ va_RA U (eT E k) (aty k)) ∧ (∀ w ∈ nst_tbl, va_Nw w U) ∧
  (va_AO "MarketDays$Rule" U ∧ va_AO "MarketDays$Giving" U ∧ va_AO "MarketDays$Sheet" U ∧ ∃ k : Class, U.vm.classes[eT E 103]? = some k ∧ k.kind = .array (eT E 100) (.array .int)) ∧
  (vk_S 12 sLen sByt (eK E) (eV E) (fun q => eZ E ≤ q) U (eG E) ∧ ∀ (i : Nat) (t : String × Nat × String), sTab[i]? = some t → vk_R t.1 t.2.1 t.2.2 (eK E i) U) ∧
  (va_Z "java/lang/String" "COMPACT_STRINGS" "Z" (.int 1) (fun q => eZ E ≤ q) U (eG E) ∧ (va_Z "jdk/internal/util/Preconditions" "SIOOBE_FORMATTER" "Ljava/util/function/BiFunction;" .null (fun q => eZ E ≤ q) U (eG E) ∨ va_Z "jdk/internal/util/Preconditions" "SIOOBE_FORMATTER" "Ljava/util/function/BiFunction;" (.ref (eF E)) (fun q => eZ E ≤ q) U (eG E))) ∧
  (eG E).size = eZ E ∧ ∃ scr : Cell, (eG E)[eB E]? = some scr ∧ U.isArrayOf scr .int ∧ scr.vm ≠ .unknown
theorem nst_M {w : Cond} (h : w ∈ nst_tbl) : ∃ a i x b, w = .methodLinkNest a i x b := by
  have h2 := (List.mem_filter.mp h).2
  cases w <;> first | exact ⟨_, _, _, _, rfl⟩ | cases h2
theorem EnvOK.warm {E : EV} {s U : State} (hW : s.WarmedH U.vm) (h : EnvOK E s) : EnvOK E U := by
  obtain ⟨h1, h2, h3, ⟨h4, h5, h6, k, h8, h9⟩, ⟨h10, h11⟩, ⟨h12, h13⟩, h14, scr, h15, h16, h17⟩ := h
  have hvm := hW.alike
  refine ⟨va_K.moved hvm h1, fun k a b => ⟨arrOfT_moved hvm (h2 k a b).1, va_RA.moved hvm (h2 k a b).2⟩, fun w hw => ?_, ⟨va_AO.moved hvm h4, va_AO.moved hvm h5, va_AO.moved hvm h6, ?_⟩, ⟨vk_S.moved hvm h10, fun i t ht => vk_R.warm hW (h11 i t ht)⟩, ⟨va_Z.moved hvm h12, h13.imp (va_Z.moved hvm) (va_Z.moved hvm)⟩, h14, scr, h15, State.isArrayOf_alike hvm h16, h17⟩
  · obtain ⟨a, i, x, b, rfl⟩ := nst_M hw
    exact va_Nw.warmM hW (h3 _ hw)
  · obtain ⟨k', hk', he⟩ := hvm.2.2 _ _ h8
    exact ⟨k', hk', by rw [he]; exact h9⟩
theorem EnvOK.same {E : EV} {u U : State} (hv : U.vm = u.vm) (h : EnvOK E u) : EnvOK E U := h.warm (by rw [hv]; exact State.WarmedH.refl u)
/-- what a method's walk may use of its state, its room, its code -/
def Ok (E : EV) (y : Mth) (d : Nat) (p : Program) (R : Room) (s : State) (m : MethodId) (args : Array Value) (meth : Method) (cc : Code) : Prop :=
  p.tables.exec = Jvm.exec ∧ cc.code = y.2.1 ∧ meth.sig.returnType = y.2.2.2 ∧ cc.maxLocals = y.2.2.1 ∧ s.vm.findClass y.1.cls = some m.cls ∧ (∀ w ∈ gtbl, w.before args s = true) ∧ meth.locks = false ∧ (y.1.name = "<init>" → meth.name = "<init>") ∧ EnvOK E s ∧ d ≤ R.frames ∧ 64 * d ≤ R.locals ∧ eZ E ≤ s.heap.size
def Hp (E : EV) (M : Mem) (s : State) (H : Heap) (locs : List Loc) : Prop := Wd E M H ∧ s.heap.size ≤ H.size ∧ ∀ q ∈ locs, eZ E ≤ q.base
/-- the locals: by place; none: not known -/
def LH (E : EV) (ls : Array Slot) (nL : Nat) (lo : List (Option Value)) : Prop := ls.size = nL ∧ lv_wf ls ∧ ∀ (i : Nat) (v : Value), lo[i]? = some (some v) → ls[i]? = some (.val (cv E v))
/-- a method's end: Φ of the answer and the memory -/
def QF (E : EV) (Φ : Option Value → Mem → Prop) : Array Value → State → Outcome → State → Prop := fun _ st o t => ∃ (r : Option Value) (M' : Mem), o = .returned (r.map (cv E)) ∧ Φ r M' ∧ Wd E M' t.heap ∧ st.heap.size ≤ t.heap.size
def Ex (d : Nat) (y : Mth) (c n pc : Nat) (lo : List (Option Value)) (st : List Value) (M : Mem) (Φ : Option Value → Mem → Prop) : Prop :=
  ∀ (E : EV) (p : Program) (e : Env) (R : Room) (s : State) (m : MethodId) (args : Array Value) (below : List Frame) (meth : Method) (cc : Code) (H : Heap) (locs : List Loc) (cells slots : Nat) (ls : Array Slot),
    Ok E y d p R s m args meth cc → Hp E M s H locs → cells + c ≤ R.cells → slots + n ≤ R.slots → LH E ls y.2.2.1 lo →
    W p (eL E) e R s m args below meth cc H locs cells slots (MQ below (QF E Φ) args s R.cells R.slots (fun q => eZ E ≤ q)) (F0 m pc ls (st.map (cv E)))
