/-! the first TEXT, purely -/
def tape0 : List Nat := [110, 101, 97, 114, 32, 104, 111, 117, 114, 115, 32, 60, 32, 52, 32, 59, 32, 119, 111, 114, 116, 104, 32, 49, 48, 32, 45, 32, 111, 116, 104, 101, 114, 32, 42, 32, 50, 32, 43, 32, 119, 97, 110, 116, 32, 42, 32, 53, 32, 59]
def near0 : List Int32 := [0, 100004, 14]
def worth0 : List Int32 := [100010, 2, 100002, 18, 17, 4, 100005, 18, 16]
theorem txt_0 : txtR tape0 = .inr (near0, worth0) := by decide +kernel
theorem sby_0 : sByt.getD 0 [] = tape0.map nI ∧ sLen.getD 0 0 = 50 ∧ ∀ k, k < 50 → sCh 0 k = nI (tape0.getD k 0) := by decide +kernel
