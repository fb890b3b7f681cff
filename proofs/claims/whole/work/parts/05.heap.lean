/-! rules of Ex: fields and arrays -/
theorem uws_MD : ∀ w ∈ u_ws "MarketDays" FF_MD 11, w ∈ gtbl := List.forall_mem_cons.mpr ⟨in_t3 (i := 7) rfl rfl, List.forall_mem_cons.mpr ⟨in_t3 (i := 9) rfl rfl, List.forall_mem_cons.mpr ⟨in_t3 (i := 11) rfl rfl, List.forall_mem_cons.mpr ⟨in_t3 (i := 13) rfl rfl, List.forall_mem_cons.mpr ⟨in_t3 (i := 15) rfl rfl, List.forall_mem_cons.mpr ⟨in_t3 (i := 17) rfl rfl, List.forall_mem_cons.mpr ⟨in_t3 (i := 19) rfl rfl, List.forall_mem_cons.mpr ⟨in_t3 (i := 21) rfl rfl, List.forall_mem_cons.mpr ⟨in_t3 (i := 23) rfl rfl, List.forall_mem_cons.mpr ⟨in_t3 (i := 25) rfl rfl, List.forall_mem_cons.mpr ⟨in_t3 (i := 27) rfl rfl, fun _ h => absurd h List.not_mem_nil⟩⟩⟩⟩⟩⟩⟩⟩⟩⟩⟩
theorem unm_MD : ∀ a, a < 11 → ∀ b, b < 11 → a ≠ b → (FF_MD a).2.1 ≠ (FF_MD b).2.1 := by decide +kernel
def ty_MD : Nat → FieldType := fun k => match k with
  | 0 => .object "MarketDays$Land"
  | 1 => .object "MarketDays$Land"
  | 2 => .boolean
  | 3 => .object "MarketDays$Tape"
  | 4 => .object "MarketDays$Law"
  | 5 => .array (.object "MarketDays$Giving")
  | 6 => .int
  | 7 => .object "MarketDays$Fair"
  | 8 => .object "MarketDays$Finder"
  | 9 => .object "MarketDays$Pedlar"
  | _ => .array (.object "MarketDays$Sheet")
theorem uty_MD : ∀ k, k < 11 → parseFieldDescriptor (FF_MD k).2.2.1 = some (ty_MD k) := by decide +kernel
theorem uws_Fair : ∀ w ∈ u_ws "MarketDays$Fair" FF_Fair 4, w ∈ gtbl := List.forall_mem_cons.mpr ⟨in_t1 (i := 176) rfl rfl, List.forall_mem_cons.mpr ⟨in_t1 (i := 178) rfl rfl, List.forall_mem_cons.mpr ⟨in_t1 (i := 180) rfl rfl, List.forall_mem_cons.mpr ⟨in_t1 (i := 182) rfl rfl, fun _ h => absurd h List.not_mem_nil⟩⟩⟩⟩
theorem unm_Fair : ∀ a, a < 4 → ∀ b, b < 4 → a ≠ b → (FF_Fair a).2.1 ≠ (FF_Fair b).2.1 := by decide +kernel
def ty_Fair : Nat → FieldType := fun k => match k with
  | 0 => .object "MarketDays$Land"
  | 1 => .object "MarketDays$Law"
  | 2 => .array (.int)
  | _ => .object "MarketDays$Giving"
theorem uty_Fair : ∀ k, k < 4 → parseFieldDescriptor (FF_Fair k).2.2.1 = some (ty_Fair k) := by decide +kernel
theorem uws_Finder : ∀ w ∈ u_ws "MarketDays$Finder" FF_Finder 8, w ∈ gtbl := List.forall_mem_cons.mpr ⟨in_t1 (i := 236) rfl rfl, List.forall_mem_cons.mpr ⟨in_t1 (i := 238) rfl rfl, List.forall_mem_cons.mpr ⟨in_t2 (i := 0) rfl rfl, List.forall_mem_cons.mpr ⟨in_t2 (i := 2) rfl rfl, List.forall_mem_cons.mpr ⟨in_t2 (i := 4) rfl rfl, List.forall_mem_cons.mpr ⟨in_t2 (i := 6) rfl rfl, List.forall_mem_cons.mpr ⟨in_t2 (i := 8) rfl rfl, List.forall_mem_cons.mpr ⟨in_t2 (i := 10) rfl rfl, fun _ h => absurd h List.not_mem_nil⟩⟩⟩⟩⟩⟩⟩⟩
theorem unm_Finder : ∀ a, a < 8 → ∀ b, b < 8 → a ≠ b → (FF_Finder a).2.1 ≠ (FF_Finder b).2.1 := by decide +kernel
def ty_Finder : Nat → FieldType := fun k => match k with
  | 0 => .object "MarketDays$Land"
  | 1 => .object "MarketDays$Law"
  | 2 => .object "MarketDays$Ways"
  | 3 => .array (.int)
  | 4 => .int
  | 5 => .array (.int)
  | 6 => .array (.int)
  | _ => .array (.int)
theorem uty_Finder : ∀ k, k < 8 → parseFieldDescriptor (FF_Finder k).2.2.1 = some (ty_Finder k) := by decide +kernel
theorem uws_Giving : ∀ w ∈ u_ws "MarketDays$Giving" FF_Giving 2, w ∈ gtbl := List.forall_mem_cons.mpr ⟨in_t3 (i := 172) rfl rfl, List.forall_mem_cons.mpr ⟨in_t3 (i := 174) rfl rfl, fun _ h => absurd h List.not_mem_nil⟩⟩
theorem unm_Giving : ∀ a, a < 2 → ∀ b, b < 2 → a ≠ b → (FF_Giving a).2.1 ≠ (FF_Giving b).2.1 := by decide +kernel
def ty_Giving : Nat → FieldType := fun k => match k with
  | 0 => .int
  | _ => .array (.int)
theorem uty_Giving : ∀ k, k < 2 → parseFieldDescriptor (FF_Giving k).2.2.1 = some (ty_Giving k) := by decide +kernel
theorem uws_Land : ∀ w ∈ u_ws "MarketDays$Land" FF_Land 12, w ∈ gtbl := List.forall_mem_cons.mpr ⟨in_t1 (i := 74) rfl rfl, List.forall_mem_cons.mpr ⟨in_t1 (i := 76) rfl rfl, List.forall_mem_cons.mpr ⟨in_t1 (i := 78) rfl rfl, List.forall_mem_cons.mpr ⟨in_t1 (i := 80) rfl rfl, List.forall_mem_cons.mpr ⟨in_t1 (i := 82) rfl rfl, List.forall_mem_cons.mpr ⟨in_t1 (i := 84) rfl rfl, List.forall_mem_cons.mpr ⟨in_t1 (i := 86) rfl rfl, List.forall_mem_cons.mpr ⟨in_t1 (i := 88) rfl rfl, List.forall_mem_cons.mpr ⟨in_t1 (i := 90) rfl rfl, List.forall_mem_cons.mpr ⟨in_t1 (i := 92) rfl rfl, List.forall_mem_cons.mpr ⟨in_t1 (i := 94) rfl rfl, List.forall_mem_cons.mpr ⟨in_t1 (i := 96) rfl rfl, fun _ h => absurd h List.not_mem_nil⟩⟩⟩⟩⟩⟩⟩⟩⟩⟩⟩⟩
theorem unm_Land : ∀ a, a < 12 → ∀ b, b < 12 → a ≠ b → (FF_Land a).2.1 ≠ (FF_Land b).2.1 := by decide +kernel
def ty_Land : Nat → FieldType := fun k => match k with
  | 0 => .array (.int)
  | 1 => .array (.int)
  | 2 => .array (.int)
  | 3 => .array (.int)
  | 4 => .array (.array (.int))
  | 5 => .array (.array (.int))
  | 6 => .array (.int)
  | 7 => .array (.int)
  | 8 => .int
  | 9 => .int
  | 10 => .int
  | _ => .int
theorem uty_Land : ∀ k, k < 12 → parseFieldDescriptor (FF_Land k).2.2.1 = some (ty_Land k) := by decide +kernel
theorem uws_Law : ∀ w ∈ u_ws "MarketDays$Law" FF_Law 5, w ∈ gtbl := List.forall_mem_cons.mpr ⟨in_t1 (i := 153) rfl rfl, List.forall_mem_cons.mpr ⟨in_t1 (i := 155) rfl rfl, List.forall_mem_cons.mpr ⟨in_t1 (i := 157) rfl rfl, List.forall_mem_cons.mpr ⟨in_t1 (i := 159) rfl rfl, List.forall_mem_cons.mpr ⟨in_t1 (i := 161) rfl rfl, fun _ h => absurd h List.not_mem_nil⟩⟩⟩⟩⟩
theorem unm_Law : ∀ a, a < 5 → ∀ b, b < 5 → a ≠ b → (FF_Law a).2.1 ≠ (FF_Law b).2.1 := by decide +kernel
def ty_Law : Nat → FieldType := fun k => match k with
  | 0 => .object "MarketDays$Land"
  | 1 => .array (.object "MarketDays$Rule")
  | 2 => .int
  | 3 => .array (.int)
  | _ => .array (.int)
theorem uty_Law : ∀ k, k < 5 → parseFieldDescriptor (FF_Law k).2.2.1 = some (ty_Law k) := by decide +kernel
theorem uws_Pedlar : ∀ w ∈ u_ws "MarketDays$Pedlar" FF_Pedlar 5, w ∈ gtbl := List.forall_mem_cons.mpr ⟨in_t2 (i := 26) rfl rfl, List.forall_mem_cons.mpr ⟨in_t2 (i := 28) rfl rfl, List.forall_mem_cons.mpr ⟨in_t2 (i := 30) rfl rfl, List.forall_mem_cons.mpr ⟨in_t2 (i := 32) rfl rfl, List.forall_mem_cons.mpr ⟨in_t2 (i := 34) rfl rfl, fun _ h => absurd h List.not_mem_nil⟩⟩⟩⟩⟩
theorem unm_Pedlar : ∀ a, a < 5 → ∀ b, b < 5 → a ≠ b → (FF_Pedlar a).2.1 ≠ (FF_Pedlar b).2.1 := by decide +kernel
def ty_Pedlar : Nat → FieldType := fun k => match k with
  | 0 => .object "MarketDays$Land"
  | 1 => .object "MarketDays$Fair"
  | 2 => .array (.int)
  | 3 => .int
  | _ => .array (.int)
theorem uty_Pedlar : ∀ k, k < 5 → parseFieldDescriptor (FF_Pedlar k).2.2.1 = some (ty_Pedlar k) := by decide +kernel
theorem uws_Rule : ∀ w ∈ u_ws "MarketDays$Rule" FF_Rule 2, w ∈ gtbl := List.forall_mem_cons.mpr ⟨in_t2 (i := 226) rfl rfl, List.forall_mem_cons.mpr ⟨in_t2 (i := 228) rfl rfl, fun _ h => absurd h List.not_mem_nil⟩⟩
theorem unm_Rule : ∀ a, a < 2 → ∀ b, b < 2 → a ≠ b → (FF_Rule a).2.1 ≠ (FF_Rule b).2.1 := by decide +kernel
def ty_Rule : Nat → FieldType := fun k => match k with
  | 0 => .array (.int)
  | _ => .array (.int)
theorem uty_Rule : ∀ k, k < 2 → parseFieldDescriptor (FF_Rule k).2.2.1 = some (ty_Rule k) := by decide +kernel
theorem uws_Sheet : ∀ w ∈ u_ws "MarketDays$Sheet" FF_Sheet 3, w ∈ gtbl := List.forall_mem_cons.mpr ⟨in_t2 (i := 52) rfl rfl, List.forall_mem_cons.mpr ⟨in_t2 (i := 54) rfl rfl, List.forall_mem_cons.mpr ⟨in_t2 (i := 56) rfl rfl, fun _ h => absurd h List.not_mem_nil⟩⟩⟩
theorem unm_Sheet : ∀ a, a < 3 → ∀ b, b < 3 → a ≠ b → (FF_Sheet a).2.1 ≠ (FF_Sheet b).2.1 := by decide +kernel
def ty_Sheet : Nat → FieldType := fun k => match k with
  | 0 => .array (.int)
  | 1 => .int
  | _ => .int
theorem uty_Sheet : ∀ k, k < 3 → parseFieldDescriptor (FF_Sheet k).2.2.1 = some (ty_Sheet k) := by decide +kernel
theorem uws_Tape : ∀ w ∈ u_ws "MarketDays$Tape" FF_Tape 10, w ∈ gtbl := List.forall_mem_cons.mpr ⟨in_t1 (i := 118) rfl rfl, List.forall_mem_cons.mpr ⟨in_t1 (i := 120) rfl rfl, List.forall_mem_cons.mpr ⟨in_t1 (i := 122) rfl rfl, List.forall_mem_cons.mpr ⟨in_t1 (i := 124) rfl rfl, List.forall_mem_cons.mpr ⟨in_t1 (i := 126) rfl rfl, List.forall_mem_cons.mpr ⟨in_t1 (i := 128) rfl rfl, List.forall_mem_cons.mpr ⟨in_t1 (i := 130) rfl rfl, List.forall_mem_cons.mpr ⟨in_t1 (i := 132) rfl rfl, List.forall_mem_cons.mpr ⟨in_t1 (i := 134) rfl rfl, List.forall_mem_cons.mpr ⟨in_t1 (i := 136) rfl rfl, fun _ h => absurd h List.not_mem_nil⟩⟩⟩⟩⟩⟩⟩⟩⟩⟩
theorem unm_Tape : ∀ a, a < 10 → ∀ b, b < 10 → a ≠ b → (FF_Tape a).2.1 ≠ (FF_Tape b).2.1 := by decide +kernel
def ty_Tape : Nat → FieldType := fun k => match k with
  | 0 => .array (.int)
  | 1 => .int
  | 2 => .int
  | 3 => .int
  | 4 => .int
  | 5 => .int
  | 6 => .int
  | 7 => .int
  | 8 => .array (.int)
  | _ => .int
theorem uty_Tape : ∀ k, k < 10 → parseFieldDescriptor (FF_Tape k).2.2.1 = some (ty_Tape k) := by decide +kernel
theorem uws_Ways : ∀ w ∈ u_ws "MarketDays$Ways" FF_Ways 9, w ∈ gtbl := List.forall_mem_cons.mpr ⟨in_t1 (i := 207) rfl rfl, List.forall_mem_cons.mpr ⟨in_t1 (i := 209) rfl rfl, List.forall_mem_cons.mpr ⟨in_t1 (i := 211) rfl rfl, List.forall_mem_cons.mpr ⟨in_t1 (i := 213) rfl rfl, List.forall_mem_cons.mpr ⟨in_t1 (i := 215) rfl rfl, List.forall_mem_cons.mpr ⟨in_t1 (i := 217) rfl rfl, List.forall_mem_cons.mpr ⟨in_t1 (i := 219) rfl rfl, List.forall_mem_cons.mpr ⟨in_t1 (i := 221) rfl rfl, List.forall_mem_cons.mpr ⟨in_t1 (i := 223) rfl rfl, fun _ h => absurd h List.not_mem_nil⟩⟩⟩⟩⟩⟩⟩⟩⟩
theorem unm_Ways : ∀ a, a < 9 → ∀ b, b < 9 → a ≠ b → (FF_Ways a).2.1 ≠ (FF_Ways b).2.1 := by decide +kernel
def ty_Ways : Nat → FieldType := fun k => match k with
  | 0 => .object "MarketDays$Land"
  | 1 => .object "MarketDays$Law"
  | 2 => .int
  | 3 => .array (.int)
  | 4 => .array (.int)
  | 5 => .int
  | 6 => .array (.int)
  | 7 => .array (.int)
  | _ => .boolean
theorem uty_Ways : ∀ k, k < 9 → parseFieldDescriptor (FF_Ways k).2.2.1 = some (ty_Ways k) := by decide +kernel
theorem uws_MM : ∀ w ∈ u_ws "MarketDaysModel" FF_MM 56, w ∈ gtbl := List.forall_mem_cons.mpr ⟨in_t5 (i := 132) rfl rfl, List.forall_mem_cons.mpr ⟨in_t5 (i := 134) rfl rfl, List.forall_mem_cons.mpr ⟨in_t5 (i := 136) rfl rfl, List.forall_mem_cons.mpr ⟨in_t5 (i := 138) rfl rfl, List.forall_mem_cons.mpr ⟨in_t5 (i := 140) rfl rfl, List.forall_mem_cons.mpr ⟨in_t5 (i := 142) rfl rfl, List.forall_mem_cons.mpr ⟨in_t5 (i := 144) rfl rfl, List.forall_mem_cons.mpr ⟨in_t5 (i := 146) rfl rfl, List.forall_mem_cons.mpr ⟨in_t5 (i := 148) rfl rfl, List.forall_mem_cons.mpr ⟨in_t5 (i := 150) rfl rfl, List.forall_mem_cons.mpr ⟨in_t5 (i := 152) rfl rfl, List.forall_mem_cons.mpr ⟨in_t5 (i := 154) rfl rfl, List.forall_mem_cons.mpr ⟨in_t5 (i := 156) rfl rfl, List.forall_mem_cons.mpr ⟨in_t5 (i := 158) rfl rfl, List.forall_mem_cons.mpr ⟨in_t5 (i := 160) rfl rfl, List.forall_mem_cons.mpr ⟨in_t5 (i := 162) rfl rfl, List.forall_mem_cons.mpr ⟨in_t5 (i := 164) rfl rfl, List.forall_mem_cons.mpr ⟨in_t5 (i := 166) rfl rfl, List.forall_mem_cons.mpr ⟨in_t5 (i := 168) rfl rfl, List.forall_mem_cons.mpr ⟨in_t5 (i := 170) rfl rfl, List.forall_mem_cons.mpr ⟨in_t5 (i := 172) rfl rfl, List.forall_mem_cons.mpr ⟨in_t5 (i := 174) rfl rfl, List.forall_mem_cons.mpr ⟨in_t5 (i := 176) rfl rfl, List.forall_mem_cons.mpr ⟨in_t5 (i := 178) rfl rfl, List.forall_mem_cons.mpr ⟨in_t5 (i := 180) rfl rfl, List.forall_mem_cons.mpr ⟨in_t5 (i := 182) rfl rfl, List.forall_mem_cons.mpr ⟨in_t5 (i := 184) rfl rfl, List.forall_mem_cons.mpr ⟨in_t5 (i := 186) rfl rfl, List.forall_mem_cons.mpr ⟨in_t5 (i := 188) rfl rfl, List.forall_mem_cons.mpr ⟨in_t5 (i := 190) rfl rfl, List.forall_mem_cons.mpr ⟨in_t5 (i := 192) rfl rfl, List.forall_mem_cons.mpr ⟨in_t5 (i := 194) rfl rfl, List.forall_mem_cons.mpr ⟨in_t5 (i := 196) rfl rfl, List.forall_mem_cons.mpr ⟨in_t5 (i := 198) rfl rfl, List.forall_mem_cons.mpr ⟨in_t5 (i := 200) rfl rfl, List.forall_mem_cons.mpr ⟨in_t5 (i := 202) rfl rfl, List.forall_mem_cons.mpr ⟨in_t5 (i := 204) rfl rfl, List.forall_mem_cons.mpr ⟨in_t5 (i := 206) rfl rfl, List.forall_mem_cons.mpr ⟨in_t5 (i := 208) rfl rfl, List.forall_mem_cons.mpr ⟨in_t5 (i := 210) rfl rfl, List.forall_mem_cons.mpr ⟨in_t5 (i := 212) rfl rfl, List.forall_mem_cons.mpr ⟨in_t5 (i := 214) rfl rfl, List.forall_mem_cons.mpr ⟨in_t5 (i := 216) rfl rfl, List.forall_mem_cons.mpr ⟨in_t5 (i := 218) rfl rfl, List.forall_mem_cons.mpr ⟨in_t5 (i := 220) rfl rfl, List.forall_mem_cons.mpr ⟨in_t5 (i := 222) rfl rfl, List.forall_mem_cons.mpr ⟨in_t5 (i := 224) rfl rfl, List.forall_mem_cons.mpr ⟨in_t5 (i := 226) rfl rfl, List.forall_mem_cons.mpr ⟨in_t5 (i := 228) rfl rfl, List.forall_mem_cons.mpr ⟨in_t5 (i := 230) rfl rfl, List.forall_mem_cons.mpr ⟨in_t5 (i := 232) rfl rfl, List.forall_mem_cons.mpr ⟨in_t5 (i := 234) rfl rfl, List.forall_mem_cons.mpr ⟨in_t5 (i := 236) rfl rfl, List.forall_mem_cons.mpr ⟨in_t5 (i := 238) rfl rfl, List.forall_mem_cons.mpr ⟨in_t6 (i := 0) rfl rfl, List.forall_mem_cons.mpr ⟨in_t6 (i := 2) rfl rfl, fun _ h => absurd h List.not_mem_nil⟩⟩⟩⟩⟩⟩⟩⟩⟩⟩⟩⟩⟩⟩⟩⟩⟩⟩⟩⟩⟩⟩⟩⟩⟩⟩⟩⟩⟩⟩⟩⟩⟩⟩⟩⟩⟩⟩⟩⟩⟩⟩⟩⟩⟩⟩⟩⟩⟩⟩⟩⟩⟩⟩⟩⟩
theorem unm_MM : ∀ a, a < 56 → ∀ b, b < 56 → a ≠ b → (FF_MM a).2.1 ≠ (FF_MM b).2.1 := by decide +kernel
def ty_MM : Nat → FieldType := fun k => match k with
  | 0 => .int
  | 1 => .array (.int)
  | 2 => .array (.int)
  | 3 => .array (.int)
  | 4 => .array (.int)
  | 5 => .array (.int)
  | 6 => .int
  | 7 => .int
  | 8 => .array (.int)
  | 9 => .array (.int)
  | 10 => .array (.int)
  | 11 => .int
  | 12 => .array (.int)
  | 13 => .array (.int)
  | 14 => .int
  | 15 => .int
  | 16 => .int
  | 17 => .array (.int)
  | 18 => .array (.int)
  | 19 => .array (.int)
  | 20 => .boolean
  | 21 => .int
  | 22 => .array (.int)
  | 23 => .int
  | 24 => .array (.int)
  | 25 => .boolean
  | 26 => .int
  | 27 => .int
  | 28 => .int
  | 29 => .int
  | 30 => .array (.int)
  | 31 => .array (.int)
  | 32 => .array (.int)
  | 33 => .array (.int)
  | 34 => .array (.int)
  | 35 => .array (.int)
  | 36 => .array (.int)
  | 37 => .array (.int)
  | 38 => .array (.int)
  | 39 => .array (.int)
  | 40 => .int
  | 41 => .int
  | 42 => .int
  | 43 => .int
  | 44 => .array (.long)
  | 45 => .array (.int)
  | 46 => .int
  | 47 => .int
  | 48 => .int
  | 49 => .array (.int)
  | 50 => .array (.int)
  | 51 => .array (.boolean)
  | 52 => .array (.int)
  | 53 => .array (.int)
  | 54 => .array (.boolean)
  | _ => .array (.int)
theorem uty_MM : ∀ k, k < 56 → parseFieldDescriptor (FF_MM k).2.2.1 = some (ty_MM k) := by decide +kernel
/-- all that is fixed of a class by its number -/
def CF (ci : Nat) (C : String) (T : u_T) (N : Nat) (ty : Nat → FieldType) : Prop := cls_tbl[ci]? = some (C, T, N) ∧ ci < 100 ∧ (∀ w ∈ u_ws C T N, w ∈ gtbl) ∧ (∀ a, a < N → ∀ b, b < N → a ≠ b → (T a).2.1 ≠ (T b).2.1) ∧ (∀ k, k < N → parseFieldDescriptor (T k).2.2.1 = some (ty k))
theorem cf_MD : CF 0 "MarketDays" FF_MD 11 ty_MD := ⟨rfl, by decide, uws_MD, unm_MD, uty_MD⟩
theorem cf_Fair : CF 1 "MarketDays$Fair" FF_Fair 4 ty_Fair := ⟨rfl, by decide, uws_Fair, unm_Fair, uty_Fair⟩
theorem cf_Finder : CF 2 "MarketDays$Finder" FF_Finder 8 ty_Finder := ⟨rfl, by decide, uws_Finder, unm_Finder, uty_Finder⟩
theorem cf_Giving : CF 3 "MarketDays$Giving" FF_Giving 2 ty_Giving := ⟨rfl, by decide, uws_Giving, unm_Giving, uty_Giving⟩
theorem cf_Land : CF 4 "MarketDays$Land" FF_Land 12 ty_Land := ⟨rfl, by decide, uws_Land, unm_Land, uty_Land⟩
theorem cf_Law : CF 5 "MarketDays$Law" FF_Law 5 ty_Law := ⟨rfl, by decide, uws_Law, unm_Law, uty_Law⟩
theorem cf_Pedlar : CF 6 "MarketDays$Pedlar" FF_Pedlar 5 ty_Pedlar := ⟨rfl, by decide, uws_Pedlar, unm_Pedlar, uty_Pedlar⟩
theorem cf_Rule : CF 7 "MarketDays$Rule" FF_Rule 2 ty_Rule := ⟨rfl, by decide, uws_Rule, unm_Rule, uty_Rule⟩
theorem cf_Sheet : CF 8 "MarketDays$Sheet" FF_Sheet 3 ty_Sheet := ⟨rfl, by decide, uws_Sheet, unm_Sheet, uty_Sheet⟩
theorem cf_Tape : CF 9 "MarketDays$Tape" FF_Tape 10 ty_Tape := ⟨rfl, by decide, uws_Tape, unm_Tape, uty_Tape⟩
theorem cf_Ways : CF 10 "MarketDays$Ways" FF_Ways 9 ty_Ways := ⟨rfl, by decide, uws_Ways, unm_Ways, uty_Ways⟩
theorem cf_MM : CF 11 "MarketDaysModel" FF_MM 56 ty_MM := ⟨rfl, by decide, uws_MM, unm_MM, uty_MM⟩
/-- an entry that links a field: of class ci the k-th, of type code t -/
def LF (own : String) (index ci k t : Nat) : Prop := ∃ (C : String) (T : u_T) (N : Nat) (ty : Nat → FieldType), CF ci C T N ty ∧ k < N ∧ Cond.fieldLink own index (T k).1 (T k).2.1 (T k).2.2.1 ∈ gtbl ∧ ftc ci k = t
/-- it may be written with v -/
def LPf (own : String) (index ci k : Nat) (fin : Bool) (v : Value) : Prop := ∃ (C : String) (T : u_T) (N : Nat) (ty : Nat → FieldType), CF ci C T N ty ∧ k < N ∧ Cond.fieldLink own index (T k).1 (T k).2.1 (T k).2.2.1 ∈ gtbl ∧ (T k).2.2.2 = fin ∧ (fin = true → (T k).1 = own) ∧ narrow (ty k) v = v ∧ fits (ty k) v = true
theorem Wd.obj {E : EV} {M : Mem} {H : Heap} {j ci N : Nat} (h : Wd E M H) (hs : (sh M)[j]? = some (ci, N)) (hc : ci < 100) : ∃ r : vw_C, cls_tbl[ci]? = some r ∧ r.2.2 = N ∧ t_OB (eZ E + j) ((eD E).1 ci) N ((eD E).2 ci) H (fun k => cv E (vv (ftc ci k) M j k)) := by
  have h1 := h.2.2.2.1 j _ hs
  unfold cellOk at h1
  rw [if_pos hc] at h1
  exact h1
theorem Wd.arr {E : EV} {M : Mem} {H : Heap} {j ci N : Nat} (h : Wd E M H) (hs : (sh M)[j]? = some (ci, N)) (hc : ¬ ci < 100) : H[eZ E + j]? = some (arrV (eT E ci) N (fun k => cv E (vv (akt ci) M j k))) := by
  have h1 := h.2.2.2.1 j _ hs
  unfold cellOk at h1
  rw [if_neg hc] at h1
  exact h1
theorem Wd.adr {E : EV} {M : Mem} {H : Heap} {j : Nat} {kn : Nat × Nat} (h : Wd E M H) (hs : (sh M)[j]? = some kn) : ad E j = eZ E + j := ad_lt (Nat.lt_of_lt_of_le (List.getElem?_eq_some_iff.mp hs).1 h.2.1)
/-- one cell is written -/
theorem Wd.set {E : EV} {M M2 : Mem} {H H2 : Heap} {j : Nat} {kn : Nat × Nat} (h : Wd E M H) (hs : (sh M)[j]? = some kn) (hsh : sh M2 = sh M) (hsc : sc M2 = sc M) (hz : H2.size = H.size) (hq : ∀ q, q ≠ eZ E + j → H2[q]? = H[q]?)
    (hv : ∀ t i k, i ≠ j → vv t M2 i k = vv t M i k) (hj : cellOk E M2 H2 j kn) : Wd E M2 H2 := by
  refine ⟨by rw [hz, hsh]; exact h.1, by rw [hsh]; exact h.2.1, fun q hq0 => ?_, fun i kn2 hi => ?_, by rw [hsc]; exact h.2.2.2.2⟩
  · rw [hq q (by omega)]
    exact h.2.2.1 q hq0
  · rw [hsh] at hi
    by_cases hij : i = j
    · subst hij
      rw [hs] at hi
      cases hi
      exact hj
    · have h1 := h.2.2.2.1 i kn2 hi
      unfold cellOk at h1 ⊢
      have e : H2[eZ E + i]? = H[eZ E + i]? := hq _ (by omega)
      split
      · rename_i hc
        rw [if_pos hc] at h1
        obtain ⟨r, a1, a2, a3⟩ := h1
        exact ⟨r, a1, a2, (a3.kept e).to (fun k _ => by rw [hv _ _ _ hij])⟩
      · rename_i hc
        rw [if_neg hc] at h1
        rw [e, h1]
        congr 2
        funext k
        rw [hv _ _ _ hij]
theorem Hp.set {E : EV} {M M2 : Mem} {s : State} {H H2 : Heap} {locs : List Loc} {j k : Nat} (h : Hp E M s H locs) (hz : H2.size = H.size) (hw : Wd E M2 H2) : Hp E M2 s H2 (locs ++ [⟨eZ E + j, k⟩]) := ⟨hw, by rw [hz]; exact h.2.1, fun q hq => by
  rcases List.mem_append.mp hq with h1 | h1
  · exact h.2.2 q h1
  · rw [List.mem_singleton.mp h1]; exact Nat.le_add_right _ _⟩
theorem vv_i (M : Mem) (j k : Nat) : vv 0 M j k = .int (mi M j k) := rfl
theorem vv_wi {M : Mem} {j k : Nat} {v : Int32} (t i q : Nat) (h : i ≠ j) : vv t (wi M j k v) i q = vv t M i q := by
  match t with
  | 0 => show Value.int (u2 (mi M) j k v i q) = _; rw [u2_n h]; rfl
  | 1 => rfl
  | t + 2 => rfl
theorem vv_wl {M : Mem} {j k : Nat} {v : Int64} (t i q : Nat) (h : i ≠ j) : vv t (wl M j k v) i q = vv t M i q := by
  match t with
  | 0 => rfl
  | 1 => show Value.long (u2 (ml M) j k v i q) = _; rw [u2_n h]; rfl
  | t + 2 => rfl
theorem vv_wr {M : Mem} {j k : Nat} {v : Option Nat} (t i q : Nat) (h : i ≠ j) : vv t (wr M j k v) i q = vv t M i q := by
  match t with
  | 0 => rfl
  | 1 => rfl
  | t + 2 => show rv (u2 (mr M) j k v i q) = _; rw [u2_n h]; rfl
/-- place q of the written cell -/
theorem vv_wi_s {M : Mem} {j k : Nat} {v : Int32} (q : Nat) : vv 0 (wi M j k v) j q = if q = k then .int v else vv 0 M j q := by
  show Value.int (u2 (mi M) j k v j q) = _
  rw [u2_s]; unfold u1; split <;> rfl
theorem vv_wl_s {M : Mem} {j k : Nat} {v : Int64} (q : Nat) : vv 1 (wl M j k v) j q = if q = k then .long v else vv 1 M j q := by
  show Value.long (u2 (ml M) j k v j q) = _
  rw [u2_s]; unfold u1; split <;> rfl
theorem vv_wr_s {M : Mem} {j k : Nat} {v : Option Nat} (q : Nat) : vv 2 (wr M j k v) j q = if q = k then rv v else vv 2 M j q := by
  show rv (u2 (mr M) j k v j q) = _
  rw [u2_s]; unfold u1; split <;> rfl
theorem vv_wi_o {M : Mem} {j k : Nat} {v : Int32} {t : Nat} (ht : t ≠ 0) (i q : Nat) : vv t (wi M j k v) i q = vv t M i q := by
  match t with
  | 0 => exact absurd rfl ht
  | 1 => rfl
  | t + 2 => rfl
theorem vv_wl_o {M : Mem} {j k : Nat} {v : Int64} {t : Nat} (ht : t ≠ 1) (i q : Nat) : vv t (wl M j k v) i q = vv t M i q := by
  match t with
  | 0 => rfl
  | 1 => exact absurd rfl ht
  | t + 2 => rfl
theorem vv_wr_o {M : Mem} {j k : Nat} {v : Option Nat} {t : Nat} (ht : t < 2) (i q : Nat) : vv t (wr M j k v) i q = vv t M i q := by
  match t with
  | 0 => rfl
  | 1 => rfl
  | t + 2 => omega
section EXH
variable {d : Nat} {y : Mth} {bc bs pc : Nat} {lo : List (Option Value)} {st : List Value} {M : Mem} {Φ : Option Value → Mem → Prop}
theorem ex_get {index j ci k N t : Nat} (hd : decode y.2.1 pc = .ok (.getfield index, 3)) (hL : LF y.1.cls index ci k t) (hs : (sh M)[j]? = some (ci, N)) (kk : Ex d y bc bs (pc + 3) lo (vv t M j k :: st) M Φ) : Ex d y bc bs pc lo (.ref j :: st) M Φ := fun E p e R s m args below meth cc H locs cells slots ls ok hp hc hn hl => by
  obtain ⟨C, T, N9, ty, ⟨c1, c2, c3, c4, c5⟩, l1, l2, l3⟩ := hL
  obtain ⟨r, q0, q00, cell, q1, q2, q3, q4⟩ := hp.1.obj hs c2
  have hr : r = (C, T, N9) := Option.some.inj (q0.symm.trans c1)
  subst hr
  cases q00
  obtain ⟨hS, hfc, kC, hkC, hkind⟩ := ok.2.2.2.2.2.2.2.2.1.1.1 ci _ c1
  obtain ⟨cf, kf, fi, f, hi, hsl⟩ := hS k l1
  show W _ _ _ _ _ _ _ _ _ _ _ _ _ _ _ (F0 m pc ls (Value.ref (ad E j) :: _))
  rw [hp.1.adr hs]
  refine W.getf ok.1 ok.2.1 ok.2.2.2.2.1 (ok.2.2.2.2.2.1 _ l2) hi (u_facts hfc hkC (u_lays ok.2.2.2.2.2.1 c3 l1) hi).1 q1 (by rw [q3]; exact fun h => by cases h) (v := cv E (vv t M j k)) (by rw [hsl, q4 k l1]; show some (cv E (vv (ftc ci k) M j k)) = _; rw [l3]) rfl rfl hd ?_
  exact kk E p e R s m args below meth cc H locs cells slots ls ok hp hc hn hl
theorem ex_getI {index j ci k N : Nat} (hd : decode y.2.1 pc = .ok (.getfield index, 3)) (hL : LF y.1.cls index ci k 0) (hs : (sh M)[j]? = some (ci, N)) (kk : Ex d y bc bs (pc + 3) lo (.int (mi M j k) :: st) M Φ) : Ex d y bc bs pc lo (.ref j :: st) M Φ := ex_get hd hL hs kk
theorem ex_getR {index j ci k N a : Nat} (hd : decode y.2.1 pc = .ok (.getfield index, 3)) (hL : LF y.1.cls index ci k 2) (hs : (sh M)[j]? = some (ci, N)) (hr : mr M j k = some a) (kk : Ex d y bc bs (pc + 3) lo (.ref a :: st) M Φ) : Ex d y bc bs pc lo (.ref j :: st) M Φ := ex_get hd hL hs (by show Ex d y bc bs (pc + 3) lo (rv (mr M j k) :: st) M Φ; rw [hr]; exact kk)
theorem ex_getN {index j ci k N : Nat} (hd : decode y.2.1 pc = .ok (.getfield index, 3)) (hL : LF y.1.cls index ci k 2) (hs : (sh M)[j]? = some (ci, N)) (hr : mr M j k = none) (kk : Ex d y bc bs (pc + 3) lo (.null :: st) M Φ) : Ex d y bc bs pc lo (.ref j :: st) M Φ := ex_get hd hL hs (by show Ex d y bc bs (pc + 3) lo (rv (mr M j k) :: st) M Φ; rw [hr]; exact kk)
theorem narrow_cv {E : EV} {ty : FieldType} {v : Value} (h : narrow ty v = v) : narrow ty (cv E v) = cv E v := by
  cases v <;> first | exact h | (cases ty <;> first | rfl | cases h)
theorem fits_cv {E : EV} {ty : FieldType} {v : Value} (h : fits ty v = true) : fits ty (cv E v) = true := by
  cases v <;> first | exact h | (cases ty <;> first | rfl | cases h)
/-- a field is written: M2 is M with v at place k of cell j -/
theorem ex_put {index j ci k N : Nat} {fin : Bool} {v : Value} {M2 : Mem} (hd : decode y.2.1 pc = .ok (.putfield index, 3)) (hL : LPf y.1.cls index ci k fin v) (hf : fin = true → y.1.name = "<init>") (hs : (sh M)[j]? = some (ci, N)) (h1 : sh M2 = sh M) (h2 : sc M2 = sc M) (h3 : ∀ t i q, i ≠ j → vv t M2 i q = vv t M i q) (h4 : ∀ q, vv (ftc ci q) M2 j q = if q = k then v else vv (ftc ci q) M j q)
    (kk : Ex d y bc bs (pc + 3) lo st M2 Φ) : Ex d y bc bs pc lo (v :: .ref j :: st) M Φ := fun E p e R s m args below meth cc H locs cells slots ls ok hp hc hn hl => by
  obtain ⟨C, T, N9, ty, ⟨c1, c2, c3, c4, c5⟩, l1, l2, l3, l4, l5, l6⟩ := hL
  obtain ⟨r, q0, q00, cell, q1, q2, q3, q4⟩ := hp.1.obj hs c2
  have hr : r = (C, T, N9) := Option.some.inj (q0.symm.trans c1)
  subst hr
  cases q00
  have hKn := ok.2.2.2.2.2.2.2.2.1.1
  have hts := ok.2.2.2.2.2.1
  obtain ⟨hS, hfc, kC, hkC, hkind⟩ := hKn.1 ci _ c1
  obtain ⟨cf, kf, fi, f, hi, hsl⟩ := hS k l1
  have hap := va_apart (own := y.1.cls) hts c3 ty c5 c4 hKn c1
  have hlay := hts _ (c3 _ (u_in_lay l1))
  unfold u_lay at hlay
  have hst := (u_facts hfc hkC (u_lays hts c3 l1) hi).1
  show W _ _ _ _ _ _ _ _ _ _ _ _ _ _ _ (F0 m pc ls (cv E v :: Value.ref (ad E j) :: _))
  rw [hp.1.adr hs]
  have fin9 : ∀ H' : Heap, H'[eZ E + j]? = some (cell.setSlot f.slot (cv E v)) → H'.size = H.size → (∀ q, q ≠ eZ E + j → H'[q]? = H[q]?) → W p (eL E) e R s m args below meth cc H' (locs ++ [⟨eZ E + j, f.slot⟩]) cells slots (MQ below (QF E Φ) args s R.cells R.slots (fun q => eZ E ≤ q)) (F0 m (pc + 3) ls (st.map (cv E))) := by
    intro H' e1 e2 e3
    refine kk E p e R s m args below meth cc H' _ cells slots ls ok (hp.set e2 (hp.1.set hs h1 h2 e2 e3 h3 ?_)) hc hn hl
    unfold cellOk
    rw [if_pos c2]
    refine ⟨_, c1, rfl, ?_⟩
    rw [hsl] at e1
    refine t_OB.to (V := updV (fun k => cv E (vv (ftc ci k) M j k)) k (cv E v)) ⟨_, e1, q2, q3, t_set q4 hap l1 _⟩ (fun q _ => ?_)
    dsimp only [updV]
    rw [h4 q]
    split <;> rfl
  cases fin with
  | false =>
    rw [if_neg (by rw [l3]; decide)] at hlay
    have h6 := u_store hfc hkC hkind hlay hi (c5 k l1) (narrow_cv (E := E) l5) (fits_cv (E := E) l6)
    exact W.putK ok.1 ok.2.1 (f := f) ⟨ok.2.2.2.2.1, hts _ l2, ⟨_, _, _, hi⟩, hst⟩ (by rw [q2]; exact h6) q1 q3 (by rw [hsl]; exact k2_hasslot (q4 k l1)) rfl rfl hd fin9
  | true =>
    rw [if_pos l3] at hlay
    have hcf : m.cls = cf := by
      obtain ⟨_, _, c', _, _, _, -, -, hf', -, -, -, hown2, -⟩ := Cond.laysFinal_spec hlay
      have e1 : c' = cf := by have := hi.symm.trans hf'; simp at this; exact this.1.symm
      rw [l4 rfl] at hown2
      rw [← e1]; exact Option.some.inj (ok.2.2.2.2.1.symm.trans hown2)
    have h6 := u_fits hfc hkC hkind (Or.inr hlay) hi (c5 k l1) (narrow_cv (E := E) l5) (fits_cv (E := E) l6)
    exact W.putFinK ok.1 ok.2.1 ok.2.2.2.2.1 (hts _ l2) hi hst hcf (ok.2.2.2.2.2.2.2.1 (hf rfl)) (by rw [q2]; exact h6) q1 q3 (by rw [hsl]; exact k2_hasslot (q4 k l1)) rfl rfl hd fin9
theorem ex_putI {index j ci k N : Nat} {fin : Bool} {v : Int32} (hd : decode y.2.1 pc = .ok (.putfield index, 3)) (hL : LPf y.1.cls index ci k fin (.int v)) (ht : ftc ci k = 0) (hf : fin = true → y.1.name = "<init>") (hs : (sh M)[j]? = some (ci, N)) (kk : Ex d y bc bs (pc + 3) lo st (wi M j k v) Φ) : Ex d y bc bs pc lo (.int v :: .ref j :: st) M Φ := by
  refine ex_put (M2 := wi M j k v) hd hL hf hs rfl rfl (fun t i q h => vv_wi t i q h) (fun q => ?_) kk
  by_cases hz : ftc ci q = 0
  · rw [hz, vv_wi_s]
  · rw [vv_wi_o hz, if_neg (fun h => hz (by rw [h]; exact ht))]
theorem ex_putR {index j ci k N : Nat} {fin : Bool} {v : Option Nat} (hd : decode y.2.1 pc = .ok (.putfield index, 3)) (hL : LPf y.1.cls index ci k fin (rv v)) (ht : ftc ci k = 2) (hf : fin = true → y.1.name = "<init>") (hs : (sh M)[j]? = some (ci, N)) (kk : Ex d y bc bs (pc + 3) lo st (wr M j k v) Φ) : Ex d y bc bs pc lo (rv v :: .ref j :: st) M Φ := by
  refine ex_put (M2 := wr M j k v) hd hL hf hs rfl rfl (fun t i q h => vv_wr t i q h) (fun q => ?_) kk
  by_cases hz : ftc ci q = 2
  · rw [hz, vv_wr_s]
  · have h2 : ftc ci q < 2 := by
      have : ftc ci q ≤ 2 := by unfold ftc; split; split <;> omega
      omega
    rw [vv_wr_o h2, if_neg (fun h => hz (by rw [h]; exact ht))]
/-- arrays -/
theorem ex_alen {j ci N : Nat} (hd : decode y.2.1 pc = .ok (.arraylength, 1)) (hs : (sh M)[j]? = some (ci, N)) (hk : 100 ≤ ci ∧ ci ≤ 106) (kk : Ex d y bc bs (pc + 1) lo (.int (nI N) :: st) M Φ) : Ex d y bc bs pc lo (.ref j :: st) M Φ := fun E p e R s m args below meth cc H locs cells slots ls ok hp hc hn hl => by
  show W _ _ _ _ _ _ _ _ _ _ _ _ _ _ _ (F0 m pc ls (Value.ref (ad E j) :: _))
  rw [hp.1.adr hs]
  refine W.alen (n := nI N) ok.1 ok.2.1 (hp.1.arr hs (by omega)) ((ok.2.2.2.2.2.2.2.2.1.2.1 ci hk.1 hk.2).1 N _) (by rw [arrV_size]; rfl) rfl rfl hd ?_
  exact kk E p e R s m args below meth cc H locs cells slots ls ok hp hc hn hl
theorem ex_iald {j N : Nat} {i : Int32} (hd : decode y.2.1 pc = .ok (.iaload, 1)) (hs : (sh M)[j]? = some (100, N)) (hi : vp_in i N) (kk : Ex d y bc bs (pc + 1) lo (.int (mi M j i.toNatClampNeg) :: st) M Φ) : Ex d y bc bs pc lo (.int i :: .ref j :: st) M Φ := fun E p e R s m args below meth cc H locs cells slots ls ok hp hc hn hl => by
  have hlt : i.toNatClampNeg < N := Nat.not_le.mp fun q => hi (Or.inr q)
  show W _ _ _ _ _ _ _ _ _ _ _ _ _ _ _ (F0 m pc ls (Value.int i :: Value.ref (ad E j) :: _))
  rw [hp.1.adr hs]
  refine W.iald ok.1 ok.2.1 (hp.1.arr hs (by omega)) ((ok.2.2.2.2.2.2.2.2.1.2.1 100 (by omega) (by omega)).1 N _) (fun q => by cases q) (by rw [arrV_size]; exact hi) (arrV_read _ _ hlt) rfl rfl hd ?_
  exact kk E p e R s m args below meth cc H locs cells slots ls ok hp hc hn hl
theorem ex_zald {j N : Nat} {i : Int32} (hd : decode y.2.1 pc = .ok (.baload, 1)) (hs : (sh M)[j]? = some (101, N)) (hi : vp_in i N) (kk : Ex d y bc bs (pc + 1) lo (.int (mi M j i.toNatClampNeg) :: st) M Φ) : Ex d y bc bs pc lo (.int i :: .ref j :: st) M Φ := fun E p e R s m args below meth cc H locs cells slots ls ok hp hc hn hl => by
  have hlt : i.toNatClampNeg < N := Nat.not_le.mp fun q => hi (Or.inr q)
  show W _ _ _ _ _ _ _ _ _ _ _ _ _ _ _ (F0 m pc ls (Value.int i :: Value.ref (ad E j) :: _))
  rw [hp.1.adr hs]
  refine W.zald ok.1 ok.2.1 (hp.1.arr hs (by omega)) ((ok.2.2.2.2.2.2.2.2.1.2.1 101 (by omega) (by omega)).1 N _) (fun q => by cases q) (by rw [arrV_size]; exact hi) (arrV_read _ _ hlt) rfl rfl hd ?_
  exact kk E p e R s m args below meth cc H locs cells slots ls ok hp hc hn hl
theorem ex_lald {j N : Nat} {i : Int32} (hd : decode y.2.1 pc = .ok (.laload, 1)) (hs : (sh M)[j]? = some (102, N)) (hi : vp_in i N) (kk : Ex d y bc bs (pc + 1) lo (.long (ml M j i.toNatClampNeg) :: st) M Φ) : Ex d y bc bs pc lo (.int i :: .ref j :: st) M Φ := fun E p e R s m args below meth cc H locs cells slots ls ok hp hc hn hl => by
  have hlt : i.toNatClampNeg < N := Nat.not_le.mp fun q => hi (Or.inr q)
  show W _ _ _ _ _ _ _ _ _ _ _ _ _ _ _ (F0 m pc ls (Value.int i :: Value.ref (ad E j) :: _))
  rw [hp.1.adr hs]
  refine W.lald ok.1 ok.2.1 (hp.1.arr hs (by omega)) ((ok.2.2.2.2.2.2.2.2.1.2.1 102 (by omega) (by omega)).1 N _) (fun q => by cases q) (by rw [arrV_size]; exact hi) (arrV_read _ _ hlt) rfl rfl hd ?_
  exact kk E p e R s m args below meth cc H locs cells slots ls ok hp hc hn hl
theorem ex_aald {j ci N : Nat} {i : Int32} (hd : decode y.2.1 pc = .ok (.aaload, 1)) (hs : (sh M)[j]? = some (ci, N)) (hk : 103 ≤ ci ∧ ci ≤ 106) (hi : vp_in i N) (kk : Ex d y bc bs (pc + 1) lo (rv (mr M j i.toNatClampNeg) :: st) M Φ) : Ex d y bc bs pc lo (.int i :: .ref j :: st) M Φ := fun E p e R s m args below meth cc H locs cells slots ls ok hp hc hn hl => by
  have hlt : i.toNatClampNeg < N := Nat.not_le.mp fun q => hi (Or.inr q)
  show W _ _ _ _ _ _ _ _ _ _ _ _ _ _ _ (F0 m pc ls (Value.int i :: Value.ref (ad E j) :: _))
  rw [hp.1.adr hs]
  have hty : (aty ci).isReference = true := by
    rcases (show ci = 103 ∨ ci = 104 ∨ ci = 105 ∨ ci = 106 by omega) with rfl | rfl | rfl | rfl <;> rfl
  have hak : akt ci = 2 := by
    rcases (show ci = 103 ∨ ci = 104 ∨ ci = 105 ∨ ci = 106 by omega) with rfl | rfl | rfl | rfl <;> rfl
  have h1 := hp.1.arr hs (by omega)
  rw [hak] at h1
  refine W.aald ok.1 ok.2.1 h1 ((ok.2.2.2.2.2.2.2.2.1.2.1 ci (by omega) (by omega)).1 N _) hty (fun q => by cases q) (by rw [arrV_size]; exact hi) (arrV_read _ _ hlt) rfl rfl hd ?_
  exact kk E p e R s m args below meth cc H locs cells slots ls ok hp hc hn hl
theorem ex_aaldR {j ci N a : Nat} {i : Int32} (hd : decode y.2.1 pc = .ok (.aaload, 1)) (hs : (sh M)[j]? = some (ci, N)) (hk : 103 ≤ ci ∧ ci ≤ 106) (hi : vp_in i N) (hr : mr M j i.toNatClampNeg = some a) (kk : Ex d y bc bs (pc + 1) lo (.ref a :: st) M Φ) : Ex d y bc bs pc lo (.int i :: .ref j :: st) M Φ := ex_aald hd hs hk hi (by rw [hr]; exact kk)
theorem ex_iast {j N : Nat} {i : Int32} {v : Int32} (hd : decode y.2.1 pc = .ok (.iastore, 1)) (hs : (sh M)[j]? = some (100, N)) (hi : vp_in i N) (kk : Ex d y bc bs (pc + 1) lo st (wi M j i.toNatClampNeg v) Φ) : Ex d y bc bs pc lo (.int v :: .int i :: .ref j :: st) M Φ := fun E p e R s m args below meth cc H locs cells slots ls ok hp hc hn hl => by
  have hlt : i.toNatClampNeg < N := Nat.not_le.mp fun q => hi (Or.inr q)
  show W _ _ _ _ _ _ _ _ _ _ _ _ _ _ _ (F0 m pc ls (Value.int v :: Value.int i :: Value.ref (ad E j) :: _))
  rw [hp.1.adr hs]
  refine W.iast ok.1 ok.2.1 (hp.1.arr hs (by omega)) ((ok.2.2.2.2.2.2.2.2.1.2.1 100 (by omega) (by omega)).1 N _) (fun q => by cases q) (by rw [arrV_size]; exact hi) rfl rfl hd (fun H' e1 e2 e3 => ?_)
  refine kk E p e R s m args below meth cc H' _ cells slots ls ok (hp.set e2 (hp.1.set hs rfl rfl e2 e3 (fun t q k h => vv_wi t q k h) ?_)) hc hn hl
  unfold cellOk
  rw [if_neg (show ¬ (100 : Nat) < 100 by decide)]
  rw [e1, arrV_store]
  congr 2
  funext q
  show updV _ _ _ q = cv E (vv 0 (wi M j _ v) j q)
  rw [vv_wi_s]
  unfold updV
  split <;> rfl
theorem ex_zast {j N : Nat} {i : Int32} {v : Int32} (hd : decode y.2.1 pc = .ok (.bastore, 1)) (hs : (sh M)[j]? = some (101, N)) (hi : vp_in i N) (hz : narrow .boolean (.int v) = .int v) (kk : Ex d y bc bs (pc + 1) lo st (wi M j i.toNatClampNeg v) Φ) : Ex d y bc bs pc lo (.int v :: .int i :: .ref j :: st) M Φ := fun E p e R s m args below meth cc H locs cells slots ls ok hp hc hn hl => by
  have hlt : i.toNatClampNeg < N := Nat.not_le.mp fun q => hi (Or.inr q)
  show W _ _ _ _ _ _ _ _ _ _ _ _ _ _ _ (F0 m pc ls (Value.int v :: Value.int i :: Value.ref (ad E j) :: _))
  rw [hp.1.adr hs]
  refine W.zast ok.1 ok.2.1 (hp.1.arr hs (by omega)) ((ok.2.2.2.2.2.2.2.2.1.2.1 101 (by omega) (by omega)).1 N _) (fun q => by cases q) (by rw [arrV_size]; exact hi) rfl rfl hd (fun H' e1 e2 e3 => ?_)
  refine kk E p e R s m args below meth cc H' _ cells slots ls ok (hp.set e2 (hp.1.set hs rfl rfl e2 e3 (fun t q k h => vv_wi t q k h) ?_)) hc hn hl
  unfold cellOk
  rw [if_neg (show ¬ (101 : Nat) < 100 by decide)]
  rw [hz] at e1
  rw [e1, arrV_store]
  congr 2
  funext q
  show updV _ _ _ q = cv E (vv 0 (wi M j _ v) j q)
  rw [vv_wi_s]
  unfold updV
  split <;> rfl
theorem ex_last {j N : Nat} {i : Int32} {v : Int64} (hd : decode y.2.1 pc = .ok (.lastore, 1)) (hs : (sh M)[j]? = some (102, N)) (hi : vp_in i N) (kk : Ex d y bc bs (pc + 1) lo st (wl M j i.toNatClampNeg v) Φ) : Ex d y bc bs pc lo (.long v :: .int i :: .ref j :: st) M Φ := fun E p e R s m args below meth cc H locs cells slots ls ok hp hc hn hl => by
  have hlt : i.toNatClampNeg < N := Nat.not_le.mp fun q => hi (Or.inr q)
  show W _ _ _ _ _ _ _ _ _ _ _ _ _ _ _ (F0 m pc ls (Value.long v :: Value.int i :: Value.ref (ad E j) :: _))
  rw [hp.1.adr hs]
  refine W.last ok.1 ok.2.1 (hp.1.arr hs (by omega)) ((ok.2.2.2.2.2.2.2.2.1.2.1 102 (by omega) (by omega)).1 N _) (fun q => by cases q) (by rw [arrV_size]; exact hi) rfl rfl hd (fun H' e1 e2 e3 => ?_)
  refine kk E p e R s m args below meth cc H' _ cells slots ls ok (hp.set e2 (hp.1.set hs rfl rfl e2 e3 (fun t q k h => vv_wl t q k h) ?_)) hc hn hl
  unfold cellOk
  rw [if_neg (show ¬ (102 : Nat) < 100 by decide)]
  rw [e1, arrV_store]
  congr 2
  funext q
  show updV _ _ _ q = cv E (vv 1 (wl M j _ v) j q)
  rw [vv_wl_s]
  unfold updV
  split <;> rfl
theorem ex_aast {j ci N v : Nat} {i : Int32} {cv9 n9 : Nat} (hd : decode y.2.1 pc = .ok (.aastore, 1)) (hs : (sh M)[j]? = some (ci, N)) (hi : vp_in i N) (hv : (sh M)[v]? = some (cv9, n9)) (hk : (ci = 104 ∧ cv9 = 7) ∨ (ci = 105 ∧ cv9 = 3) ∨ (ci = 106 ∧ cv9 = 8)) (kk : Ex d y bc bs (pc + 1) lo st (wr M j i.toNatClampNeg (some v)) Φ) : Ex d y bc bs pc lo (.ref v :: .int i :: .ref j :: st) M Φ := fun E p e R s m args below meth cc H locs cells slots ls ok hp hc hn hl => by
  have hlt : i.toNatClampNeg < N := Nat.not_le.mp fun q => hi (Or.inr q)
  show W _ _ _ _ _ _ _ _ _ _ _ _ _ _ _ (F0 m pc ls (Value.ref (ad E v) :: Value.int i :: Value.ref (ad E j) :: _))
  rw [hp.1.adr hs, hp.1.adr hv]
  have hc9 : cv9 < 100 := by omega
  have hak : akt ci = 2 := by rcases hk with ⟨rfl, -⟩ | ⟨rfl, -⟩ | ⟨rfl, -⟩ <;> rfl
  have h1 := hp.1.arr hs (by omega)
  rw [hak] at h1
  obtain ⟨r, q0, q00, cell, q1, q2, q3, q4⟩ := hp.1.obj hv hc9
  obtain ⟨hS, hfc, kC, hkC, hkind⟩ := ok.2.2.2.2.2.2.2.2.1.1.1 cv9 r q0
  have hra := (ok.2.2.2.2.2.2.2.2.1.2.1 ci (by omega) (by omega)).2
  have key : ∃ (kA : Class) (comp : ClassId) (C : String), s.vm.classes[eT E ci]? = some kA ∧ kA.kind = .array comp (.object C) ∧ s.vm.findClass C = some comp ∧ r.1 = C := by
    rcases hk with ⟨rfl, rfl⟩ | ⟨rfl, rfl⟩ | ⟨rfl, rfl⟩ <;> (cases q0; obtain ⟨kA, comp, a1, a2, a3, a4⟩ := hra; exact ⟨kA, comp, _, a1, a2, a3, rfl⟩)
  obtain ⟨kA, comp, C, a1, a2, a3, a4⟩ := key
  subst a4
  have hcomp : comp = (eD E).1 cv9 := Option.some.inj (a3.symm.trans hfc)
  subst hcomp
  refine W.aast ok.1 ok.2.1 h1 (fun q => (by intro h; cases h)) (fun q => by cases q) a1 a2 rfl hkC ⟨fun q => hi (Or.inl q), by rw [arrV_size]; exact hlt⟩ q1 (fun q => by rw [q3]; intro h; cases h) (by rw [q2]; exact hkC) (by rw [q2]; exact va_asg _ _) rfl rfl hd (fun H' e1 e2 e3 => ?_)
  refine kk E p e R s m args below meth cc H' _ cells slots ls ok (hp.set e2 (hp.1.set hs rfl rfl e2 e3 (fun t q k h => vv_wr t q k h) ?_)) hc hn hl
  unfold cellOk
  rw [if_neg (by show ¬ ci < 100; omega)]
  rw [e1, arrV_store]
  congr 2
  funext q
  rw [hak]
  show updV _ _ _ q = cv E (vv 2 (wr M j _ (some v)) j q)
  rw [vv_wr_s]
  unfold updV
  split
  · show _ = Value.ref (ad E v)
    rw [hp.1.adr hv]
  · rfl
end EXH
