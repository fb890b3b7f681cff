/-! ways, purely: days in their order, what an earlier town's day leaves, all ways in their order -/
def upF (p : Nat → Bool) : Nat → Nat → List Nat
  | 0, _ => []
  | n + 1, e => if p e = true then e :: upF p n (e + 1) else upF p n (e + 1)
theorem up_s {p : Nat → Bool} {n e : Nat} : upF p (n + 1) e = if p e = true then e :: upF p n (e + 1) else upF p n (e + 1) := rfl
theorem up_c {p q : Nat → Bool} : ∀ {n e : Nat}, (∀ d, e ≤ d → d < e + n → p d = q d) → upF p n e = upF q n e
  | 0, _, _ => rfl
  | n + 1, e, h => by
    rw [up_s, up_s, h e (by omega) (by omega), up_c (n := n) (e := e + 1) (fun d a b => h d (by omega) (by omega))]
theorem up_in {p : Nat → Bool} : ∀ {n e d : Nat}, d ∈ upF p n e → p d = true ∧ e ≤ d ∧ d < e + n
  | 0, _, _, h => by cases h
  | n + 1, e, d, h => by
    rw [up_s] at h
    split at h
    · rename_i q
      rw [List.mem_cons] at h
      rcases h with rfl | h
      · exact ⟨q, by omega, by omega⟩
      · obtain ⟨a, b, c⟩ := up_in h
        exact ⟨a, by omega, by omega⟩
    · obtain ⟨a, b, c⟩ := up_in h
      exact ⟨a, by omega, by omega⟩
theorem up_len {p : Nat → Bool} : ∀ (n e : Nat), (upF p n e).length ≤ n
  | 0, _ => Nat.le_refl _
  | n + 1, e => by
    have := up_len (p := p) n (e + 1)
    rw [up_s]
    split
    · rw [List.length_cons]; omega
    · omega
theorem up_none {p : Nat → Bool} {n e : Nat} (h : ∀ d, e ≤ d → d < e + n → p d = false) : upF p n e = [] := by
  cases q : upF p n e with
  | nil => rfl
  | cons d l =>
    obtain ⟨a, b, c⟩ := up_in (p := p) (n := n) (e := e) (d := d) (by rw [q]; exact List.mem_cons_self)
    rw [h d b c] at a; cases a
def cndB (σ : St) (W o e t d : Nat) : Bool := (!(decide (¬ nearV σ W o t = 0) && decide (e = d))) && ((!decide (oBe σ t = nI o) || decide (d = dA W e)) && (!decide (oBe σ o = nI t) || decide (d = dB W e)))
def okD (σ : St) (W : Nat) (q : List (Nat × Nat)) (t d : Nat) : Bool := (oMy σ t).testBit d && q.all (fun x => cndB σ W x.1 x.2 t d)
def opP (σ : St) (W : Nat) (q : List (Nat × Nat)) (t d : Nat) : Bool := decide (d < W) && okD σ W q t d
def opn (σ : St) (W : Nat) (q : List (Nat × Nat)) (t : Nat) : List Nat := upF (opP σ W q t) 7 0
def exW (σ : St) (W : Nat) : List Nat → List (Nat × Nat) → List (List (Nat × Nat))
  | [], q => [q]
  | t :: ts, q => (opn σ W q t).flatMap (fun d => exW σ W ts (q ++ [(t, d)]))
theorem exW_0 {σ : St} {W : Nat} {q : List (Nat × Nat)} : exW σ W [] q = [q] := rfl
theorem exW_s {σ : St} {W t : Nat} {ts : List Nat} {q : List (Nat × Nat)} : exW σ W (t :: ts) q = (opn σ W q t).flatMap (fun d => exW σ W ts (q ++ [(t, d)])) := rfl
theorem fl_len {α β : Type} {f : α → List β} {c : Nat} : ∀ (l : List α), (∀ a ∈ l, (f a).length ≤ c) → (l.flatMap f).length ≤ l.length * c
  | [], _ => by simp
  | a :: l, h => by
    rw [List.flatMap_cons, List.length_append, List.length_cons]
    have h1 := h a List.mem_cons_self
    have h2 := fl_len l (fun x hx => h x (List.mem_cons_of_mem _ hx))
    rw [Nat.succ_mul]
    omega
theorem exW_len {σ : St} {W : Nat} : ∀ (ts : List Nat) (q : List (Nat × Nat)), (exW σ W ts q).length ≤ 7 ^ ts.length
  | [], q => by rw [exW_0]; exact Nat.le_refl _
  | t :: ts, q => by
    rw [exW_s, List.length_cons, Nat.pow_succ]
    have h1 := fl_len (f := fun d => exW σ W ts (q ++ [(t, d)])) (opn σ W q t) (fun d _ => exW_len ts _)
    have h2 : (opn σ W q t).length ≤ 7 := up_len 7 0
    have h3 := Nat.mul_le_mul_right (7 ^ ts.length) h2
    rw [Nat.mul_comm (7 ^ ts.length) 7]
    omega
/-- each way gives each town its day, in order, below W -/
theorem exW_in {σ : St} {W : Nat} : ∀ (ts : List Nat) (q w : List (Nat × Nat)), w ∈ exW σ W ts q → ∃ ds : List Nat, ds.length = ts.length ∧ w = q ++ ts.zip ds ∧ ∀ d ∈ ds, d < W
  | [], q, w, h => by
    rw [exW_0, List.mem_singleton] at h
    exact ⟨[], rfl, by rw [h]; simp, fun d hd => by cases hd⟩
  | t :: ts, q, w, h => by
    rw [exW_s, List.mem_flatMap] at h
    obtain ⟨d, hd, hw⟩ := h
    obtain ⟨a, b, c⟩ := up_in hd
    unfold opP at a
    rw [Bool.and_eq_true, decide_eq_true_eq] at a
    obtain ⟨ds, h1, h2, h3⟩ := exW_in ts _ w hw
    refine ⟨d :: ds, by rw [List.length_cons, List.length_cons, h1], by rw [h2, List.append_assoc]; rfl, fun x hx => ?_⟩
    rw [List.mem_cons] at hx
    rcases hx with rfl | hx
    · exact a.1
    · exact h3 x hx
/-- one row of days below 128 -/
theorem low128 : ∀ m, m < 128 → m = 0 ∨ ∃ d, d < 7 ∧ nI m &&& -(nI m) = nI (2 ^ d) ∧ 2 ^ d ≤ m ∧ upF m.testBit 7 0 = d :: upF (m - 2 ^ d).testBit 7 0 := by decide +kernel
theorem bits0 : upF (Nat.testBit 0) 7 0 = [] := by decide
theorem not128 : ∀ m, m < 128 → ∀ d, d < 7 → nI m &&& (nI (2 ^ d) ^^^ (-1)) = nI (if m.testBit d = true then m - 2 ^ d else m) ∧ (∀ j, j < 7 → (if m.testBit d = true then m - 2 ^ d else m).testBit j = (m.testBit j && !decide (d = j))) := by decide +kernel
theorem self128 : ∀ m, m < 128 → ∀ e, e < 7 → decide (¬ nI (2 ^ e) &&& (nI m ^^^ (-1)) = 0) = !m.testBit e := by decide +kernel
theorem msk_W : ∀ m, m < 128 → ∀ W, W < 8 → nI m &&& (nI (2 ^ W) - nI 1) = nI (m &&& (2 ^ W - 1)) ∧ (m &&& (2 ^ W - 1)) < 128 ∧ ∀ j, j < 7 → (m &&& (2 ^ W - 1)).testBit j = (decide (j < W) && m.testBit j) := by decide +kernel
theorem pw_N : ∀ a, a < 7 → ∀ e, e < 7 → (2 ^ a &&& 2 ^ e = 0 ↔ a ≠ e) := by decide
theorem pw_t (a j : Nat) : (2 ^ a).testBit j = decide (a = j) := Nat.testBit_two_pow
theorem fol_p {W a e : Nat} (ha : a < W) : folB W (2 ^ a) (2 ^ e) = decide (e = dB W a) := by
  unfold folB
  rw [Bool.eq_iff_iff, anyLT_t, decide_eq_true_eq]
  constructor
  · rintro ⟨i, hi, h⟩
    rw [pw_t, pw_t, Bool.and_eq_true, decide_eq_true_eq, decide_eq_true_eq] at h
    rw [h.2, h.1]
  · intro h
    exact ⟨a, ha, by rw [pw_t, pw_t, decide_eq_true rfl, decide_eq_true h]; rfl⟩
theorem dA_dB {W d e : Nat} (hd : d < W) (he : e < W) : d = dA W e ↔ e = dB W d := by
  constructor
  · intro h; rw [h, dAB he]
  · intro h; rw [h, dBA hd]
theorem miss_p {W a e : Nat} (ha : a < W) : missB W (2 ^ a) (2 ^ e) = !decide (e = dB W a) := by
  unfold missB
  rw [decide_eq_true (by have := Nat.two_pow_pos a; omega), decide_eq_true (by have := Nat.two_pow_pos e; omega), fol_p ha]
  rfl
theorem miss_0l {W y : Nat} : missB W 0 y = false := rfl
theorem miss_0r {W x : Nat} : missB W x 0 = false := by
  unfold missB
  rw [decide_eq_false (p := ¬ 0 = 0) (by omega), Bool.false_and, Bool.and_false]
/-- an earlier town's day and a later one's bar as cndB says -/
theorem bar_p {σ : St} {W o t e d : Nat} {f : Nat → Nat} (ho : f o = 2 ^ e) (ht : f t = 2 ^ d) (he : e < W) (hd : d < W) (hW : W ≤ 7) : barB σ W f o t = !cndB σ W o e t d := by
  unfold barB cndB
  rw [ho, ht, miss_p he, miss_p hd]
  have e1 : decide (¬ 2 ^ e &&& 2 ^ d = 0) = decide (e = d) := decide_eq_decide.mpr (by have := pw_N e (by omega) d (by omega); omega)
  have e2 : decide (e = dB W d) = decide (d = dA W e) := decide_eq_decide.mpr (dA_dB hd he).symm
  rw [e1, e2]
  cases decide (e = d) <;> cases decide (¬ nearV σ W o t = 0) <;> cases decide (oBe σ t = nI o) <;> cases decide (oBe σ o = nI t) <;> cases decide (d = dA W e) <;> cases decide (d = dB W e) <;> rfl
theorem bar_0 {σ : St} {W o t : Nat} {f : Nat → Nat} (ho : f o = 0) : barB σ W f o t = false := by
  unfold barB
  rw [ho, Nat.zero_and, miss_0l, miss_0r, Bool.and_false, Bool.and_false, decide_eq_false (p := ¬ 0 = 0) (by omega)]
  rfl
