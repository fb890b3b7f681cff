/-! TEXT: its tokens, purely -/
def byt (tp : List Nat) (i : Nat) : Nat := tp.getD i 0
def isBl (b : Nat) : Bool := decide (b = 32 ∨ b = 10)
def isLt (b : Nat) : Bool := decide (97 ≤ b ∧ b ≤ 122)
def isDg (b : Nat) : Bool := decide (48 ≤ b ∧ b ≤ 57)
def isSg (b : Nat) : Bool := decide (b = 40 ∨ b = 41 ∨ b = 59 ∨ b = 43 ∨ b = 45 ∨ b = 42 ∨ b = 60 ∨ b = 61)
def rnF (q : Nat → Bool) (tp : List Nat) : Nat → Nat → Nat
  | 0, p => p
  | f + 1, p => if p < tp.length ∧ q (byt tp p) = true then rnF q tp f (p + 1) else p
def rnE (q : Nat → Bool) (tp : List Nat) (p : Nat) : Nat := rnF q tp (tp.length - p) p
theorem rnE_y {q : Nat → Bool} {tp : List Nat} {p : Nat} (h : p < tp.length) (hq : q (byt tp p) = true) : rnE q tp p = rnE q tp (p + 1) := by
  unfold rnE
  rw [show tp.length - p = (tp.length - (p + 1)) + 1 by omega]
  exact if_pos ⟨h, hq⟩
theorem rnE_n {q : Nat → Bool} {tp : List Nat} {p : Nat} (h : ¬ (p < tp.length ∧ q (byt tp p) = true)) : rnE q tp p = p := by
  unfold rnE
  cases tp.length - p with
  | zero => rfl
  | succ f => exact if_neg h
theorem rnE_b {q : Nat → Bool} {tp : List Nat} : ∀ (n p : Nat), p + n = tp.length → p ≤ rnE q tp p ∧ rnE q tp p ≤ tp.length ∧ ¬ (rnE q tp p < tp.length ∧ q (byt tp (rnE q tp p)) = true)
  | 0, p, h => by
    rw [rnE_n (by omega)]
    exact ⟨Nat.le_refl _, by omega, by omega⟩
  | n + 1, p, h => by
    by_cases y : p < tp.length ∧ q (byt tp p) = true
    · rw [rnE_y y.1 y.2]
      obtain ⟨a, b, c⟩ := rnE_b (q := q) (tp := tp) n (p + 1) (by omega)
      exact ⟨by omega, b, c⟩
    · rw [rnE_n y]
      exact ⟨Nat.le_refl _, by omega, y⟩
theorem rnE_in {q : Nat → Bool} {tp : List Nat} {i : Nat} : ∀ (n p : Nat), p + n = tp.length → p ≤ i → i < rnE q tp p → q (byt tp i) = true
  | 0, p, h, h1, h2 => by
    rw [rnE_n (by omega)] at h2; omega
  | n + 1, p, h, h1, h2 => by
    by_cases y : p < tp.length ∧ q (byt tp p) = true
    · rw [rnE_y y.1 y.2] at h2
      by_cases z : i = p
      · rw [z]; exact y.2
      · exact rnE_in n (p + 1) (by omega) (by omega) h2
    · rw [rnE_n y] at h2; omega
/-- the first c bytes behind s -/
def wdN (tp : List Nat) (s c : Nat) : List Nat := (List.range c).map (fun i => byt tp (s + i))
theorem wdN_l {tp : List Nat} {s c : Nat} : (wdN tp s c).length = c := by unfold wdN; rw [List.length_map, List.length_range]
theorem wdN_at {tp : List Nat} {s c i : Nat} (h : i < c) : (wdN tp s c)[i]? = some (byt tp (s + i)) := by
  unfold wdN
  rw [List.getElem?_map, List.getElem?_range h]; rfl
theorem wdN_s {tp : List Nat} {s c : Nat} : wdN tp s (c + 1) = wdN tp s c ++ [byt tp (s + c)] := by
  unfold wdN
  rw [List.range_succ, List.map_append]; rfl
def pkR : List Nat → Nat
  | [] => 0
  | b :: r => 256 * pkR r + b
theorem pkR_inj : ∀ (l l2 : List Nat), (∀ b ∈ l, 1 ≤ b ∧ b < 256) → (∀ b ∈ l2, 1 ≤ b ∧ b < 256) → pkR l = pkR l2 → l = l2
  | [], [], _, _, _ => rfl
  | [], b :: r, _, h, e => by
    have := h b List.mem_cons_self
    unfold pkR at e; omega
  | b :: r, [], h, _, e => by
    have := h b List.mem_cons_self
    unfold pkR at e; omega
  | b :: r, b2 :: r2, h, h2, e => by
    have g1 := h b List.mem_cons_self
    have g2 := h2 b2 List.mem_cons_self
    have e : 256 * pkR r + b = 256 * pkR r2 + b2 := e
    obtain rfl : b = b2 := by omega
    rw [pkR_inj r r2 (fun x hx => h x (List.mem_cons_of_mem _ hx)) (fun x hx => h2 x (List.mem_cons_of_mem _ hx)) (by omega)]
def pkW (tp : List Nat) (s : Nat) : Nat → Nat
  | 0 => 0
  | c + 1 => 256 * pkW tp s c + byt tp (s + c)
theorem pkW_R {tp : List Nat} {s : Nat} : ∀ c, pkW tp s c = pkR (wdN tp s c).reverse
  | 0 => rfl
  | c + 1 => by
    rw [wdN_s, List.reverse_append]
    show 256 * pkW tp s c + byt tp (s + c) = 256 * pkR (wdN tp s c).reverse + byt tp (s + c)
    rw [pkW_R c]
def wordL : List (List Nat) := [[110, 101, 97, 114], [119, 111, 114, 116, 104], [104, 111, 117, 114, 115], [115, 105, 122, 101], [111, 116, 104, 101, 114], [100, 97, 121], [119, 97, 110, 116], [119, 101, 101, 107], [111, 114], [97, 110, 100], [110, 111, 116]]
def wix (l : List Nat) : Nat := wordL.findIdx (fun w => decide (w = l))
theorem wix_of {l : List Nat} {k : Nat} (hk : k ≤ 11) (h1 : ∀ j, j < k → ¬ wordL[j]? = some l) (h2 : k = 11 ∨ wordL[k]? = some l) : wix l = k := by
  have e11 : wordL.length = 11 := rfl
  unfold wix
  rcases Nat.lt_trichotomy (wordL.findIdx (fun w => decide (w = l))) k with q | q | q
  · have ql : wordL.findIdx (fun w => decide (w = l)) < wordL.length := by omega
    have := List.findIdx_getElem (w := ql)
    rw [decide_eq_true_eq] at this
    exact absurd (by rw [List.getElem?_eq_getElem ql, this]) (h1 _ q)
  · exact q
  · rcases h2 with e | e
    · have := List.findIdx_le_length (p := fun w => decide (w = l)) (xs := wordL)
      omega
    · obtain ⟨hk2, e2⟩ := List.getElem?_eq_some_iff.mp e
      have := List.not_of_lt_findIdx q
      rw [e2, decide_eq_true rfl] at this
      exact absurd this (by decide)
theorem wix_le {l : List Nat} : wix l ≤ 11 := List.findIdx_le_length
theorem wix_at : ∀ j, j < 11 → wix (wordL.getD j []) = j := by decide +kernel
/-- digits behind s -/
def dgN (tp : List Nat) (s : Nat) : Nat → Nat
  | 0 => 0
  | c + 1 => 10 * dgN tp s c + (byt tp (s + c) - 48)
def tkW (k : Nat) : Nat × Nat := if k < 2 then (3, k) else if k < 8 then (2, k - 2) else if k = 11 then (7, 0) else (k - 4, 0)
/-- kind and value of the token at s, and what is behind it -/
def tkA (tp : List Nat) (s : Nat) : (Nat × Nat) × Nat :=
  if isLt (byt tp s) = true then (tkW (wix (wdN tp s (rnE isLt tp s - s))), rnE isLt tp s)
  else if isDg (byt tp s) = true then ((if rnE isDg tp s - s ≤ 4 then 1 else 7, dgN tp s (rnE isDg tp s - s)), rnE isDg tp s)
  else ((if isSg (byt tp s) = true then byt tp s else 7, 0), s + 1)
theorem tkA_b {tp : List Nat} {s : Nat} (h : s < tp.length) : s < (tkA tp s).2 ∧ (tkA tp s).2 ≤ tp.length := by
  unfold tkA
  by_cases q : isLt (byt tp s) = true
  · rw [if_pos q, rnE_y h q]
    obtain ⟨a, b, -⟩ := rnE_b (q := isLt) (tp := tp) (tp.length - (s + 1)) (s + 1) (by omega)
    exact ⟨by show s < rnE isLt tp (s + 1); omega, b⟩
  · rw [if_neg q]
    by_cases q2 : isDg (byt tp s) = true
    · rw [if_pos q2, rnE_y h q2]
      obtain ⟨a, b, -⟩ := rnE_b (q := isDg) (tp := tp) (tp.length - (s + 1)) (s + 1) (by omega)
      exact ⟨by show s < rnE isDg tp (s + 1); omega, b⟩
    · rw [if_neg q2]
      exact ⟨by show s < s + 1; omega, by show s + 1 ≤ _; omega⟩
abbrev Tok : Type := Nat × Nat × Nat
def tks (tp : List Nat) : Nat → Nat → List Tok
  | 0, _ => []
  | f + 1, p => if rnE isBl tp p < tp.length then (rnE isBl tp p, (tkA tp (rnE isBl tp p)).1) :: tks tp f (tkA tp (rnE isBl tp p)).2 else [(tp.length, 0, 0)]
/-- the tokens from p on -/
def TL (tp : List Nat) (p : Nat) (ts : List Tok) : Prop := p ≤ tp.length ∧ ∃ f, tp.length - p < f ∧ ts = tks tp f p
theorem TL.nx {tp : List Nat} {p : Nat} {ts : List Tok} (h : TL tp p ts) : (¬ rnE isBl tp p < tp.length ∧ rnE isBl tp p = tp.length ∧ ts = [(tp.length, 0, 0)]) ∨ (rnE isBl tp p < tp.length ∧ p ≤ rnE isBl tp p ∧ isBl (byt tp (rnE isBl tp p)) = false ∧ ∃ tl, ts = (rnE isBl tp p, (tkA tp (rnE isBl tp p)).1) :: tl ∧ TL tp (tkA tp (rnE isBl tp p)).2 tl) := by
  obtain ⟨hp, f, hf, rfl⟩ := h
  obtain ⟨b1, b2, b3⟩ := rnE_b (q := isBl) (tp := tp) (tp.length - p) p (by omega)
  obtain ⟨f, rfl⟩ : ∃ g, f = g + 1 := ⟨f - 1, by omega⟩
  by_cases q : rnE isBl tp p < tp.length
  · refine .inr ⟨q, b1, ?_, tks tp f (tkA tp (rnE isBl tp p)).2, if_pos q, ?_, f, ?_, rfl⟩
    · cases y : isBl (byt tp (rnE isBl tp p)) with
      | true => exact absurd ⟨q, y⟩ b3
      | false => rfl
    · exact (tkA_b q).2
    · have := tkA_b q; omega
  · exact .inl ⟨q, by omega, if_neg q⟩
theorem tkW_k {k : Nat} (h : k ≤ 11) : (tkW k).1 = 7 ∨ ((tkW k).1 = 3 ∧ (tkW k).2 < 2) ∨ ((tkW k).1 = 2 ∧ (tkW k).2 < 6) ∨ (tkW k).1 = 4 ∨ (tkW k).1 = 5 ∨ (tkW k).1 = 6 := by
  revert k; decide
/-- kinds that there are -/
def kOK (k v : Nat) : Prop := (k = 1 ∧ v < 10000) ∨ (k = 2 ∧ v < 6) ∨ (k = 3 ∧ v < 2) ∨ k = 4 ∨ k = 5 ∨ k = 6 ∨ k = 7 ∨ (40 ≤ k ∧ k < 62)
theorem dgN_lt {tp : List Nat} {s : Nat} : ∀ c, (∀ i, i < c → isDg (byt tp (s + i)) = true) → dgN tp s c < 10 ^ c
  | 0, _ => Nat.zero_lt_one
  | c + 1, h => by
    have h1 := dgN_lt c (fun i hi => h i (by omega))
    have h2 := h c (by omega)
    unfold isDg at h2
    rw [decide_eq_true_eq] at h2
    rw [Nat.pow_succ]
    unfold dgN
    omega
theorem tkA_k {tp : List Nat} {s : Nat} (h : s < tp.length) : kOK (tkA tp s).1.1 (tkA tp s).1.2 := by
  unfold tkA kOK
  by_cases q : isLt (byt tp s) = true
  · rw [if_pos q]
    have := tkW_k (wix_le (l := wdN tp s (rnE isLt tp s - s)))
    generalize tkW (wix (wdN tp s (rnE isLt tp s - s))) = x at this ⊢
    obtain ⟨a, b⟩ := x
    simp only at this ⊢
    omega
  · rw [if_neg q]
    by_cases q2 : isDg (byt tp s) = true
    · rw [if_pos q2]
      by_cases y : rnE isDg tp s - s ≤ 4
      · refine .inl ⟨if_pos y, ?_⟩
        have h1 := dgN_lt (tp := tp) (s := s) (rnE isDg tp s - s) (fun i hi => rnE_in (q := isDg) (tp.length - s) s (by omega) (by omega) (by omega))
        have h2 : 10 ^ (rnE isDg tp s - s) ≤ 10 ^ 4 := Nat.pow_le_pow_right (by decide) y
        show dgN tp s (rnE isDg tp s - s) < 10000
        omega
      · exact .inr (.inr (.inr (.inr (.inr (.inr (.inl (if_neg y)))))))
    · rw [if_neg q2]
      by_cases y : isSg (byt tp s) = true
      · refine .inr (.inr (.inr (.inr (.inr (.inr (.inr ?_))))))
        show 40 ≤ (if isSg (byt tp s) = true then byt tp s else 7) ∧ (if isSg (byt tp s) = true then byt tp s else 7) < 62
        rw [if_pos y]
        unfold isSg at y
        rw [decide_eq_true_eq] at y
        omega
      · exact .inr (.inr (.inr (.inr (.inr (.inr (.inl (if_neg y)))))))
