/-! the layout behind the traces: references -/
set_option maxRecDepth 100000 in
theorem KXr_0 (B : Mem) : ∀ k q : Nat, ((refT[0]?.getD [])[k]?) = some (some q) → mr (KX143 B) 0 k = some q := by
  intro k q h
  rw [show (refT[0]?.getD []) = [some 1, some 22, none, some 43, some 46, some 50, none, some 51, some 53, some 63, some 66] from rfl] at h
  cases k with
  | zero => cases h; rfl
  | succ k =>
  cases k with
  | zero => cases h; rfl
  | succ k =>
  cases k with
  | zero => cases h
  | succ k =>
  cases k with
  | zero => cases h; rfl
  | succ k =>
  cases k with
  | zero => cases h; rfl
  | succ k =>
  cases k with
  | zero => cases h; rfl
  | succ k =>
  cases k with
  | zero => cases h
  | succ k =>
  cases k with
  | zero => cases h; rfl
  | succ k =>
  cases k with
  | zero => cases h; rfl
  | succ k =>
  cases k with
  | zero => cases h; rfl
  | succ k =>
  cases k with
  | zero => cases h; rfl
  | succ k =>
  cases h
set_option maxRecDepth 100000 in
theorem KXr_1 (B : Mem) : ∀ k q : Nat, ((refT[1]?.getD [])[k]?) = some (some q) → mr (KX143 B) 1 k = some q := by
  intro k q h
  rw [show (refT[1]?.getD []) = [some 2, some 3, some 4, some 5, some 6, some 13, some 20, some 21] from rfl] at h
  cases k with
  | zero => cases h; rfl
  | succ k =>
  cases k with
  | zero => cases h; rfl
  | succ k =>
  cases k with
  | zero => cases h; rfl
  | succ k =>
  cases k with
  | zero => cases h; rfl
  | succ k =>
  cases k with
  | zero => cases h; rfl
  | succ k =>
  cases k with
  | zero => cases h; rfl
  | succ k =>
  cases k with
  | zero => cases h; rfl
  | succ k =>
  cases k with
  | zero => cases h; rfl
  | succ k =>
  cases h
set_option maxRecDepth 100000 in
theorem KXr_6 (B : Mem) : ∀ k q : Nat, ((refT[6]?.getD [])[k]?) = some (some q) → mr (KX143 B) 6 k = some q := by
  intro k q h
  rw [show (refT[6]?.getD []) = [some 7, some 8, some 9, some 10, some 11, some 12] from rfl] at h
  cases k with
  | zero => cases h; rfl
  | succ k =>
  cases k with
  | zero => cases h; rfl
  | succ k =>
  cases k with
  | zero => cases h; rfl
  | succ k =>
  cases k with
  | zero => cases h; rfl
  | succ k =>
  cases k with
  | zero => cases h; rfl
  | succ k =>
  cases k with
  | zero => cases h; rfl
  | succ k =>
  cases h
set_option maxRecDepth 100000 in
theorem KXr_13 (B : Mem) : ∀ k q : Nat, ((refT[13]?.getD [])[k]?) = some (some q) → mr (KX143 B) 13 k = some q := by
  intro k q h
  rw [show (refT[13]?.getD []) = [some 14, some 15, some 16, some 17, some 18, some 19] from rfl] at h
  cases k with
  | zero => cases h; rfl
  | succ k =>
  cases k with
  | zero => cases h; rfl
  | succ k =>
  cases k with
  | zero => cases h; rfl
  | succ k =>
  cases k with
  | zero => cases h; rfl
  | succ k =>
  cases k with
  | zero => cases h; rfl
  | succ k =>
  cases k with
  | zero => cases h; rfl
  | succ k =>
  cases h
set_option maxRecDepth 100000 in
theorem KXr_22 (B : Mem) : ∀ k q : Nat, ((refT[22]?.getD [])[k]?) = some (some q) → mr (KX143 B) 22 k = some q := by
  intro k q h
  rw [show (refT[22]?.getD []) = [some 23, some 24, some 25, some 26, some 27, some 34, some 41, some 42] from rfl] at h
  cases k with
  | zero => cases h; rfl
  | succ k =>
  cases k with
  | zero => cases h; rfl
  | succ k =>
  cases k with
  | zero => cases h; rfl
  | succ k =>
  cases k with
  | zero => cases h; rfl
  | succ k =>
  cases k with
  | zero => cases h; rfl
  | succ k =>
  cases k with
  | zero => cases h; rfl
  | succ k =>
  cases k with
  | zero => cases h; rfl
  | succ k =>
  cases k with
  | zero => cases h; rfl
  | succ k =>
  cases h
set_option maxRecDepth 100000 in
theorem KXr_27 (B : Mem) : ∀ k q : Nat, ((refT[27]?.getD [])[k]?) = some (some q) → mr (KX143 B) 27 k = some q := by
  intro k q h
  rw [show (refT[27]?.getD []) = [some 28, some 29, some 30, some 31, some 32, some 33] from rfl] at h
  cases k with
  | zero => cases h; rfl
  | succ k =>
  cases k with
  | zero => cases h; rfl
  | succ k =>
  cases k with
  | zero => cases h; rfl
  | succ k =>
  cases k with
  | zero => cases h; rfl
  | succ k =>
  cases k with
  | zero => cases h; rfl
  | succ k =>
  cases k with
  | zero => cases h; rfl
  | succ k =>
  cases h
set_option maxRecDepth 100000 in
theorem KXr_34 (B : Mem) : ∀ k q : Nat, ((refT[34]?.getD [])[k]?) = some (some q) → mr (KX143 B) 34 k = some q := by
  intro k q h
  rw [show (refT[34]?.getD []) = [some 35, some 36, some 37, some 38, some 39, some 40] from rfl] at h
  cases k with
  | zero => cases h; rfl
  | succ k =>
  cases k with
  | zero => cases h; rfl
  | succ k =>
  cases k with
  | zero => cases h; rfl
  | succ k =>
  cases k with
  | zero => cases h; rfl
  | succ k =>
  cases k with
  | zero => cases h; rfl
  | succ k =>
  cases k with
  | zero => cases h; rfl
  | succ k =>
  cases h
set_option maxRecDepth 100000 in
theorem KXr_43 (B : Mem) : ∀ k q : Nat, ((refT[43]?.getD [])[k]?) = some (some q) → mr (KX143 B) 43 k = some q := by
  intro k q h
  rw [show (refT[43]?.getD []) = [some 44, none, none, none, none, none, none, none, some 45] from rfl] at h
  cases k with
  | zero => cases h; rfl
  | succ k =>
  cases k with
  | zero => cases h
  | succ k =>
  cases k with
  | zero => cases h
  | succ k =>
  cases k with
  | zero => cases h
  | succ k =>
  cases k with
  | zero => cases h
  | succ k =>
  cases k with
  | zero => cases h
  | succ k =>
  cases k with
  | zero => cases h
  | succ k =>
  cases k with
  | zero => cases h
  | succ k =>
  cases k with
  | zero => cases h; rfl
  | succ k =>
  cases h
set_option maxRecDepth 100000 in
theorem KXr_46 (B : Mem) : ∀ k q : Nat, ((refT[46]?.getD [])[k]?) = some (some q) → mr (KX143 B) 46 k = some q := by
  intro k q h
  rw [show (refT[46]?.getD []) = [some 1, some 47, none, some 48, some 49] from rfl] at h
  cases k with
  | zero => cases h; rfl
  | succ k =>
  cases k with
  | zero => cases h; rfl
  | succ k =>
  cases k with
  | zero => cases h
  | succ k =>
  cases k with
  | zero => cases h; rfl
  | succ k =>
  cases k with
  | zero => cases h; rfl
  | succ k =>
  cases h
set_option maxRecDepth 100000 in
theorem KXr_51 (B : Mem) : ∀ k q : Nat, ((refT[51]?.getD [])[k]?) = some (some q) → mr (KX143 B) 51 k = some q := by
  intro k q h
  rw [show (refT[51]?.getD []) = [some 1, some 46, some 52] from rfl] at h
  cases k with
  | zero => cases h; rfl
  | succ k =>
  cases k with
  | zero => cases h; rfl
  | succ k =>
  cases k with
  | zero => cases h; rfl
  | succ k =>
  cases h
set_option maxRecDepth 100000 in
theorem KXr_53 (B : Mem) : ∀ k q : Nat, ((refT[53]?.getD [])[k]?) = some (some q) → mr (KX143 B) 53 k = some q := by
  intro k q h
  rw [show (refT[53]?.getD []) = [some 1, some 46, some 58, some 54, none, some 55, some 56, some 57] from rfl] at h
  cases k with
  | zero => cases h; rfl
  | succ k =>
  cases k with
  | zero => cases h; rfl
  | succ k =>
  cases k with
  | zero => cases h; rfl
  | succ k =>
  cases k with
  | zero => cases h; rfl
  | succ k =>
  cases k with
  | zero => cases h
  | succ k =>
  cases k with
  | zero => cases h; rfl
  | succ k =>
  cases k with
  | zero => cases h; rfl
  | succ k =>
  cases k with
  | zero => cases h; rfl
  | succ k =>
  cases h
set_option maxRecDepth 100000 in
theorem KXr_58 (B : Mem) : ∀ k q : Nat, ((refT[58]?.getD [])[k]?) = some (some q) → mr (KX143 B) 58 k = some q := by
  intro k q h
  rw [show (refT[58]?.getD []) = [some 1, some 46, none, some 59, some 60, none, some 61, some 62] from rfl] at h
  cases k with
  | zero => cases h; rfl
  | succ k =>
  cases k with
  | zero => cases h; rfl
  | succ k =>
  cases k with
  | zero => cases h
  | succ k =>
  cases k with
  | zero => cases h; rfl
  | succ k =>
  cases k with
  | zero => cases h; rfl
  | succ k =>
  cases k with
  | zero => cases h
  | succ k =>
  cases k with
  | zero => cases h; rfl
  | succ k =>
  cases k with
  | zero => cases h; rfl
  | succ k =>
  cases h
set_option maxRecDepth 100000 in
theorem KXr_63 (B : Mem) : ∀ k q : Nat, ((refT[63]?.getD [])[k]?) = some (some q) → mr (KX143 B) 63 k = some q := by
  intro k q h
  rw [show (refT[63]?.getD []) = [some 1, some 51, some 64, none, some 65] from rfl] at h
  cases k with
  | zero => cases h; rfl
  | succ k =>
  cases k with
  | zero => cases h; rfl
  | succ k =>
  cases k with
  | zero => cases h; rfl
  | succ k =>
  cases k with
  | zero => cases h
  | succ k =>
  cases k with
  | zero => cases h; rfl
  | succ k =>
  cases h
set_option maxRecDepth 100000 in
theorem KXr_66 (B : Mem) : ∀ k q : Nat, ((refT[66]?.getD [])[k]?) = some (some q) → mr (KX143 B) 66 k = some q := by
  intro k q h
  rw [show (refT[66]?.getD []) = [some 67, some 69, some 71, some 73] from rfl] at h
  cases k with
  | zero => cases h; rfl
  | succ k =>
  cases k with
  | zero => cases h; rfl
  | succ k =>
  cases k with
  | zero => cases h; rfl
  | succ k =>
  cases k with
  | zero => cases h; rfl
  | succ k =>
  cases h
set_option maxRecDepth 100000 in
theorem KXr_67 (B : Mem) : ∀ k q : Nat, ((refT[67]?.getD [])[k]?) = some (some q) → mr (KX143 B) 67 k = some q := by
  intro k q h
  rw [show (refT[67]?.getD []) = [some 68] from rfl] at h
  cases k with
  | zero => cases h; rfl
  | succ k =>
  cases h
set_option maxRecDepth 100000 in
theorem KXr_69 (B : Mem) : ∀ k q : Nat, ((refT[69]?.getD [])[k]?) = some (some q) → mr (KX143 B) 69 k = some q := by
  intro k q h
  rw [show (refT[69]?.getD []) = [some 70] from rfl] at h
  cases k with
  | zero => cases h; rfl
  | succ k =>
  cases h
set_option maxRecDepth 100000 in
theorem KXr_71 (B : Mem) : ∀ k q : Nat, ((refT[71]?.getD [])[k]?) = some (some q) → mr (KX143 B) 71 k = some q := by
  intro k q h
  rw [show (refT[71]?.getD []) = [some 72] from rfl] at h
  cases k with
  | zero => cases h; rfl
  | succ k =>
  cases h
set_option maxRecDepth 100000 in
theorem KXr_73 (B : Mem) : ∀ k q : Nat, ((refT[73]?.getD [])[k]?) = some (some q) → mr (KX143 B) 73 k = some q := by
  intro k q h
  rw [show (refT[73]?.getD []) = [some 74] from rfl] at h
  cases k with
  | zero => cases h; rfl
  | succ k =>
  cases h
set_option maxRecDepth 100000 in
theorem KMr_78 (B : Mem) : ∀ k q : Nat, ((refT[78]?.getD [])[k]?) = some (some q) → mr (KM86 B) 78 k = some q := by
  intro k q h
  rw [show (refT[78]?.getD []) = [none, some 79, some 80, some 81, some 82, some 83, none, none, some 84, some 85, some 86, none, some 87, some 88, none, none, none, some 89, some 90, some 91, none, none, some 92, none, some 93, none, none, none, none, none, some 94, some 95, some 96, some 97, some 98, some 99, some 100, some 101, some 102, some 103, none, none, none, none, some 104, some 105, none, none, none, some 106, some 107, some 108, some 109, some 110, some 111, some 112] from rfl] at h
  cases k with
  | zero => cases h
  | succ k =>
  cases k with
  | zero => cases h; rfl
  | succ k =>
  cases k with
  | zero => cases h; rfl
  | succ k =>
  cases k with
  | zero => cases h; rfl
  | succ k =>
  cases k with
  | zero => cases h; rfl
  | succ k =>
  cases k with
  | zero => cases h; rfl
  | succ k =>
  cases k with
  | zero => cases h
  | succ k =>
  cases k with
  | zero => cases h
  | succ k =>
  cases k with
  | zero => cases h; rfl
  | succ k =>
  cases k with
  | zero => cases h; rfl
  | succ k =>
  cases k with
  | zero => cases h; rfl
  | succ k =>
  cases k with
  | zero => cases h
  | succ k =>
  cases k with
  | zero => cases h; rfl
  | succ k =>
  cases k with
  | zero => cases h; rfl
  | succ k =>
  cases k with
  | zero => cases h
  | succ k =>
  cases k with
  | zero => cases h
  | succ k =>
  cases k with
  | zero => cases h
  | succ k =>
  cases k with
  | zero => cases h; rfl
  | succ k =>
  cases k with
  | zero => cases h; rfl
  | succ k =>
  cases k with
  | zero => cases h; rfl
  | succ k =>
  cases k with
  | zero => cases h
  | succ k =>
  cases k with
  | zero => cases h
  | succ k =>
  cases k with
  | zero => cases h; rfl
  | succ k =>
  cases k with
  | zero => cases h
  | succ k =>
  cases k with
  | zero => cases h; rfl
  | succ k =>
  cases k with
  | zero => cases h
  | succ k =>
  cases k with
  | zero => cases h
  | succ k =>
  cases k with
  | zero => cases h
  | succ k =>
  cases k with
  | zero => cases h
  | succ k =>
  cases k with
  | zero => cases h
  | succ k =>
  cases k with
  | zero => cases h; rfl
  | succ k =>
  cases k with
  | zero => cases h; rfl
  | succ k =>
  cases k with
  | zero => cases h; rfl
  | succ k =>
  cases k with
  | zero => cases h; rfl
  | succ k =>
  cases k with
  | zero => cases h; rfl
  | succ k =>
  cases k with
  | zero => cases h; rfl
  | succ k =>
  cases k with
  | zero => cases h; rfl
  | succ k =>
  cases k with
  | zero => cases h; rfl
  | succ k =>
  cases k with
  | zero => cases h; rfl
  | succ k =>
  cases k with
  | zero => cases h; rfl
  | succ k =>
  cases k with
  | zero => cases h
  | succ k =>
  cases k with
  | zero => cases h
  | succ k =>
  cases k with
  | zero => cases h
  | succ k =>
  cases k with
  | zero => cases h
  | succ k =>
  cases k with
  | zero => cases h; rfl
  | succ k =>
  cases k with
  | zero => cases h; rfl
  | succ k =>
  cases k with
  | zero => cases h
  | succ k =>
  cases k with
  | zero => cases h
  | succ k =>
  cases k with
  | zero => cases h
  | succ k =>
  cases k with
  | zero => cases h; rfl
  | succ k =>
  cases k with
  | zero => cases h; rfl
  | succ k =>
  cases k with
  | zero => cases h; rfl
  | succ k =>
  cases k with
  | zero => cases h; rfl
  | succ k =>
  cases k with
  | zero => cases h; rfl
  | succ k =>
  cases k with
  | zero => cases h; rfl
  | succ k =>
  cases k with
  | zero => cases h; rfl
  | succ k =>
  cases h
