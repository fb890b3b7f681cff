/-! TEXT: how it is read, purely: operators held till one of a lower rank comes -/
def rnk (c : Nat) : Nat := if c = 0 then 0 else if c = 11 then 1 else if c = 12 then 2 else if c = 13 then 3 else if c ≤ 15 then 4 else if c ≤ 17 then 5 else if c = 18 then 6 else 7
def unH (l : Nat) : List Nat → List Nat
  | [] => []
  | c :: H => if l ≤ rnk c then unH l H else c :: H
def unO (l : Nat) : List Nat → List Int32
  | [] => []
  | c :: H => if l ≤ rnk c then nI c :: unO l H else []
def Tp (l : Nat) (H : List Nat) : Prop := ∀ c, H.head? = some c → rnk c < l
theorem un_top {l : Nat} {H : List Nat} (h : Tp l H) : unH l H = H ∧ unO l H = [] := by
  cases H with
  | nil => exact ⟨rfl, rfl⟩
  | cons c H =>
    have := h c rfl
    exact ⟨if_neg (by omega), if_neg (by omega)⟩
theorem un_app {l : Nat} {H : List Nat} : ∀ (S : List Nat), (∀ c ∈ S, l ≤ rnk c) → unH l (S ++ H) = unH l H ∧ unO l (S ++ H) = S.map nI ++ unO l H
  | [], _ => ⟨rfl, rfl⟩
  | c :: S, h => by
    obtain ⟨a, b⟩ := un_app (l := l) (H := H) S (fun x hx => h x (List.mem_cons_of_mem _ hx))
    have hc := h c List.mem_cons_self
    refine ⟨?_, ?_⟩
    · show (if l ≤ rnk c then unH l (S ++ H) else _) = _
      rw [if_pos hc, a]
    · show (if l ≤ rnk c then nI c :: unO l (S ++ H) else _) = _
      rw [if_pos hc, b]; rfl
theorem un_len {l : Nat} : ∀ (H : List Nat), (unH l H).length + (unO l H).length = H.length
  | [] => rfl
  | c :: H => by
    unfold unH unO
    have := un_len (l := l) H
    by_cases q : l ≤ rnk c
    · rw [if_pos q, if_pos q, List.length_cons, List.length_cons]; omega
    · rw [if_neg q, if_neg q, List.length_cons, List.length_nil, Nat.add_zero]
theorem Tp.mono {l l2 : Nat} {H : List Nat} (h : Tp l H) (q : l ≤ l2) : Tp l2 H := fun c e => Nat.lt_of_lt_of_le (h c e) q
theorem Tp.cons {l c : Nat} {H : List Nat} (h : rnk c < l) : Tp l (c :: H) := fun x e => by
  injection e with e
  rw [← e]; exact h
theorem unH_top {l : Nat} : ∀ (H : List Nat), Tp l (unH l H)
  | [] => fun c e => by cases e
  | c :: H => by
    unfold unH
    by_cases q : l ≤ rnk c
    · rw [if_pos q]; exact unH_top H
    · rw [if_neg q]; exact Tp.cons (by omega)
def opnN : List Nat → Nat
  | [] => 0
  | c :: H => opnN H + (if c = 0 ∨ c = 13 ∨ c = 19 then 1 else 0)
def bin : List Nat → Nat
  | [] => 0
  | c :: H => bin H + (if c = 0 ∨ c = 13 ∨ c = 19 then 0 else 1)
theorem opnN_app : ∀ (S H : List Nat), opnN (S ++ H) = opnN S + opnN H
  | [], H => by
    show opnN H = 0 + opnN H
    rw [Nat.zero_add]
  | c :: S, H => by
    show opnN (S ++ H) + _ = opnN S + _ + opnN H
    rw [opnN_app S H]; omega
def sgn (k : Nat) : Nat := if k = 4 then 11 else if k = 5 then 12 else if k = 60 then 14 else if k = 61 then 15 else if k = 43 then 16 else if k = 45 then 17 else if k = 42 then 18 else 99
def btL (c : Nat) : Nat := if rnk c = 4 then 5 else rnk c
def hd4 : List Nat → Bool
  | [] => false
  | c :: _ => decide (rnk c = 4)
abbrev Res : Type := Nat ⊕ (List Int32 × List Tok)
def mR : List Tok → Bool → Bool → List Nat → List Int32 → Res
  | [], _, _, _, _ => .inl 0
  | t :: ts, true, mn, H, O =>
    if t.2.1 = 1 then mR ts false mn (unH 7 H) (O ++ nI (100000 + t.2.2) :: unO 7 H)
    else if t.2.1 = 2 then mR ts false mn (unH 7 H) (O ++ nI t.2.2 :: unO 7 H)
    else if t.2.1 = 6 ∧ mn = true then (if opnN H = 5 then .inl t.1 else mR ts true mn (13 :: H) O)
    else if t.2.1 = 45 then (if opnN H = 5 then .inl t.1 else mR ts true false (19 :: H) O)
    else if t.2.1 = 40 then (if opnN H = 5 then .inl t.1 else mR ts true true (0 :: H) O)
    else .inl t.1
  | t :: ts, false, mn, H, O =>
    if t.2.1 = 59 then (if unH 1 H = [] then .inr (O ++ unO 1 H, ts) else .inl t.1)
    else if t.2.1 = 41 then (if unH 1 H = [] then .inl t.1 else mR ts false mn (unH 7 (unH 1 H).tail) (O ++ unO 1 H ++ unO 7 (unH 1 H).tail))
    else if sgn t.2.1 = 99 then .inl t.1
    else if rnk (sgn t.2.1) = 4 ∧ hd4 (unH (btL (sgn t.2.1)) H) = true then .inl t.1
    else mR ts true (decide (sgn t.2.1 ≤ 12)) (sgn t.2.1 :: unH (btL (sgn t.2.1)) H) (O ++ unO (btL (sgn t.2.1)) H)
theorem mR_w {t : Tok} {ts : List Tok} {mn : Bool} {H : List Nat} {O : List Int32} : mR (t :: ts) true mn H O =
    if t.2.1 = 1 then mR ts false mn (unH 7 H) (O ++ nI (100000 + t.2.2) :: unO 7 H)
    else if t.2.1 = 2 then mR ts false mn (unH 7 H) (O ++ nI t.2.2 :: unO 7 H)
    else if t.2.1 = 6 ∧ mn = true then (if opnN H = 5 then .inl t.1 else mR ts true mn (13 :: H) O)
    else if t.2.1 = 45 then (if opnN H = 5 then .inl t.1 else mR ts true false (19 :: H) O)
    else if t.2.1 = 40 then (if opnN H = 5 then .inl t.1 else mR ts true true (0 :: H) O)
    else .inl t.1 := rfl
theorem mR_n {t : Tok} {ts : List Tok} {mn : Bool} {H : List Nat} {O : List Int32} : mR (t :: ts) false mn H O =
    if t.2.1 = 59 then (if unH 1 H = [] then .inr (O ++ unO 1 H, ts) else .inl t.1)
    else if t.2.1 = 41 then (if unH 1 H = [] then .inl t.1 else mR ts false mn (unH 7 (unH 1 H).tail) (O ++ unO 1 H ++ unO 7 (unH 1 H).tail))
    else if sgn t.2.1 = 99 then .inl t.1
    else if rnk (sgn t.2.1) = 4 ∧ hd4 (unH (btL (sgn t.2.1)) H) = true then .inl t.1
    else mR ts true (decide (sgn t.2.1 ≤ 12)) (sgn t.2.1 :: unH (btL (sgn t.2.1)) H) (O ++ unO (btL (sgn t.2.1)) H) := rfl
/-- what is written does not look at what was written -/
def pre (P : List Int32) : Res → Res
  | .inl f => .inl f
  | .inr (O, ts) => .inr (P ++ O, ts)
theorem mR_pre {P : List Int32} : ∀ (ts : List Tok) (b mn : Bool) (H : List Nat) (O : List Int32), mR ts b mn H (P ++ O) = pre P (mR ts b mn H O)
  | [], b, mn, H, O => by cases b <;> rfl
  | t :: ts, true, mn, H, O => by
    rw [mR_w, mR_w]
    by_cases q1 : t.2.1 = 1
    · rw [if_pos q1, if_pos q1, List.append_assoc, mR_pre ts]
    · rw [if_neg q1, if_neg q1]
      by_cases q2 : t.2.1 = 2
      · rw [if_pos q2, if_pos q2, List.append_assoc, mR_pre ts]
      · rw [if_neg q2, if_neg q2]
        by_cases q3 : t.2.1 = 6 ∧ mn = true
        · rw [if_pos q3, if_pos q3]
          by_cases y : opnN H = 5
          · rw [if_pos y, if_pos y]; rfl
          · rw [if_neg y, if_neg y, mR_pre ts]
        · rw [if_neg q3, if_neg q3]
          by_cases q4 : t.2.1 = 45
          · rw [if_pos q4, if_pos q4]
            by_cases y : opnN H = 5
            · rw [if_pos y, if_pos y]; rfl
            · rw [if_neg y, if_neg y, mR_pre ts]
          · rw [if_neg q4, if_neg q4]
            by_cases q5 : t.2.1 = 40
            · rw [if_pos q5, if_pos q5]
              by_cases y : opnN H = 5
              · rw [if_pos y, if_pos y]; rfl
              · rw [if_neg y, if_neg y, mR_pre ts]
            · rw [if_neg q5, if_neg q5]; rfl
  | t :: ts, false, mn, H, O => by
    rw [mR_n, mR_n]
    by_cases q1 : t.2.1 = 59
    · rw [if_pos q1, if_pos q1]
      by_cases y : unH 1 H = []
      · rw [if_pos y, if_pos y, List.append_assoc]; rfl
      · rw [if_neg y, if_neg y]; rfl
    · rw [if_neg q1, if_neg q1]
      by_cases q2 : t.2.1 = 41
      · rw [if_pos q2, if_pos q2]
        by_cases y : unH 1 H = []
        · rw [if_pos y, if_pos y]; rfl
        · rw [if_neg y, if_neg y, List.append_assoc, List.append_assoc, mR_pre ts, List.append_assoc]
      · rw [if_neg q2, if_neg q2]
        by_cases q3 : sgn t.2.1 = 99
        · rw [if_pos q3, if_pos q3]; rfl
        · rw [if_neg q3, if_neg q3]
          by_cases q4 : rnk (sgn t.2.1) = 4 ∧ hd4 (unH (btL (sgn t.2.1)) H) = true
          · rw [if_pos q4, if_pos q4]; rfl
          · rw [if_neg q4, if_neg q4, List.append_assoc, mR_pre ts]
def okd : List Int32 → Nat → Nat → Bool
  | [], d, e => d == e
  | c :: cs, d, e => if 100000 ≤ c ∧ c < 200000 ∨ 0 ≤ c ∧ c < 6 then decide (d < 40) && okd cs (d + 1) e else if c = 13 ∨ c = 19 then decide (1 ≤ d) && okd cs d e else decide (11 ≤ c ∧ c ≤ 18) && (decide (2 ≤ d) && okd cs (d - 1) e)
theorem okd_c : ∀ (O : List Int32) (d : Nat), okd O d 1 = okc O d
  | [], d => rfl
  | c :: cs, d => by
    unfold okd okc
    rw [okd_c cs (d + 1), okd_c cs d, okd_c cs (d - 1)]
theorem okd_app {P : List Int32} {e f : Nat} (h2 : okd P e f = true) : ∀ (O : List Int32) (d : Nat), okd O d e = true → okd (O ++ P) d f = true
  | [], d, h => by
    have h : (d == e) = true := h
    rw [beq_iff_eq] at h
    rw [h]; exact h2
  | c :: cs, d, h => by
    have ih := okd_app h2 cs
    rw [List.cons_append]
    unfold okd at h ⊢
    by_cases q1 : 100000 ≤ c ∧ c < 200000 ∨ 0 ≤ c ∧ c < 6
    · rw [if_pos q1, Bool.and_eq_true] at h ⊢
      exact ⟨h.1, ih _ h.2⟩
    · rw [if_neg q1] at h ⊢
      by_cases q2 : c = 13 ∨ c = 19
      · rw [if_pos q2, Bool.and_eq_true] at h ⊢
        exact ⟨h.1, ih _ h.2⟩
      · rw [if_neg q2, Bool.and_eq_true, Bool.and_eq_true] at h ⊢
        exact ⟨h.1, h.2.1, ih _ h.2.2⟩
def opc (c : Nat) : Prop := c = 0 ∨ c = 13 ∨ c = 19
/-- what may be held: of operators of two those of higher rank stand on those of lower -/
def rr (c : Nat) : Nat := if c = 11 then 1 else if c = 12 then 2 else if c = 14 ∨ c = 15 then 3 else if c = 16 ∨ c = 17 then 4 else if c = 18 then 5 else 0
def rT : List Nat → Nat
  | [] => 0
  | c :: _ => rr c
def hOK : List Nat → Prop
  | [] => True
  | c :: H => hOK H ∧ ((c = 0 ∨ c = 13 ∨ c = 19) ∨ ((11 ≤ c ∧ c ≤ 18) ∧ rT H < rr c))
theorem rr_le (c : Nat) : rr c ≤ 5 := by unfold rr; repeat' split
                                         all_goals omega
theorem hOK_bin : ∀ (H : List Nat), hOK H → bin H ≤ 5 * opnN H + rT H
  | [], _ => Nat.le_refl _
  | c :: H, h => by
    obtain ⟨h1, h2⟩ := h
    have ih := hOK_bin H h1
    have r5 : rT H ≤ 5 := by
      cases H with
      | nil => exact Nat.zero_le _
      | cons c H => exact rr_le c
    show bin H + _ ≤ 5 * (opnN H + _) + rr c
    by_cases q : c = 0 ∨ c = 13 ∨ c = 19
    · rw [if_pos q, if_pos q]; omega
    · rw [if_neg q, if_neg q]
      rcases h2 with z | z
      · exact absurd z q
      · omega
theorem hOK_un {l : Nat} : ∀ (H : List Nat), hOK H → hOK (unH l H)
  | [], h => h
  | c :: H, h => by
    unfold unH
    by_cases q : l ≤ rnk c
    · rw [if_pos q]; exact hOK_un H h.1
    · rw [if_neg q]; exact h
theorem opnN_un {l : Nat} : ∀ (H : List Nat), opnN (unH l H) ≤ opnN H
  | [] => Nat.le_refl _
  | c :: H => by
    unfold unH
    have := opnN_un (l := l) H
    by_cases q : l ≤ rnk c
    · rw [if_pos q]
      show opnN (unH l H) ≤ opnN H + _
      omega
    · rw [if_neg q]; exact Nat.le_refl _
theorem cd_op : ∀ c, c < 20 → 11 ≤ c → ¬ ((100000 : Int32) ≤ nI c ∧ nI c < 200000 ∨ 0 ≤ nI c ∧ nI c < 6) ∧ (nI c = 13 ∨ nI c = 19 ↔ c = 13 ∨ c = 19) ∧ (11 ≤ nI c ∧ (nI c ≤ 18 ↔ c ≤ 18)) := by decide +kernel
theorem okd_un {l : Nat} (hl : 1 ≤ l) : ∀ (H : List Nat), hOK H → okd (unO l H) (bin H + 1) (bin (unH l H) + 1) = true
  | [], _ => rfl
  | c :: H, h => by
    unfold unH unO
    have ih := okd_un hl H h.1
    by_cases q : l ≤ rnk c
    · rw [if_pos q, if_pos q]
      have hc : 11 ≤ c ∧ c < 20 := by
        rcases h.2 with (z | z | z) | z
        · subst z; exact absurd q (by show ¬ l ≤ 0; omega)
        · omega
        · omega
        · omega
      obtain ⟨c1, c2, c3, c4⟩ := cd_op c hc.2 hc.1
      unfold okd
      rw [if_neg c1]
      by_cases y : c = 13 ∨ c = 19
      · rw [if_pos (c2.mpr y)]
        show (decide (1 ≤ bin H + _ + 1) && okd _ (bin H + _ + 1) _) = true
        rw [if_pos (by omega), Nat.add_zero, ih, decide_eq_true (by omega)]; rfl
      · rw [if_neg (fun z => y (c2.mp z))]
        show (decide _ && (decide (2 ≤ bin H + _ + 1) && okd _ (bin H + _ + 1 - 1) _)) = true
        rw [if_neg (by omega), Nat.add_sub_cancel, ih, decide_eq_true ⟨c3, c4.mpr (by omega)⟩, decide_eq_true (by omega)]; rfl
    · rw [if_neg q, if_neg q]
      unfold okd
      exact beq_iff_eq.mpr rfl
/-- numbers and names as steps -/
theorem cd_num {v : Nat} (h : v < 10000) : (100000 : Int32) ≤ nI (100000 + v) ∧ nI (100000 + v) < 200000 := by
  rw [i_le, i_lt, nI_T (by omega), show (100000 : Int32).toInt = 100000 from rfl, show (200000 : Int32).toInt = 200000 from rfl]
  omega
theorem cd_nam {v : Nat} (h : v < 6) : (0 : Int32) ≤ nI v ∧ nI v < 6 := by
  rw [i_le, i_lt, nI_T (by omega), show (0 : Int32).toInt = 0 from rfl, show (6 : Int32).toInt = 6 from rfl]
  omega
theorem okd_one {c : Int32} {d : Nat} (h : 100000 ≤ c ∧ c < 200000 ∨ 0 ≤ c ∧ c < 6) (hd : d < 40) : okd [c] d (d + 1) = true := by
  unfold okd
  rw [if_pos h, decide_eq_true hd]
  exact beq_iff_eq.mpr rfl
theorem rr_top {c : Nat} {H : List Nat} (hH : hOK H) (hc : c = 11 ∨ c = 12 ∨ c = 14 ∨ c = 15 ∨ c = 16 ∨ c = 17 ∨ c = 18) (h4 : rnk c = 4 → hd4 H = false) (ht : Tp (btL c) H) : rT H < rr c := by
  cases H with
  | nil => rcases hc with e | e | e | e | e | e | e <;> subst e <;> decide
  | cons b H =>
    have hb := ht b rfl
    have h4 : rnk c = 4 → ¬ rnk b = 4 := fun q => of_decide_eq_false (h4 q)
    have hb2 : b = 0 ∨ b = 13 ∨ b = 19 ∨ b = 11 ∨ b = 12 ∨ b = 14 ∨ b = 15 ∨ b = 16 ∨ b = 17 ∨ b = 18 := by
      have := hH.2
      omega
    show rr b < rr c
    clear hH ht
    rcases hc with e | e | e | e | e | e | e <;> subst e <;> rcases hb2 with e | e | e | e | e | e | e | e | e | e <;> subst e <;> revert hb h4 <;> decide
theorem sgn_in (k : Nat) : sgn k = 99 ∨ sgn k = 11 ∨ sgn k = 12 ∨ sgn k = 14 ∨ sgn k = 15 ∨ sgn k = 16 ∨ sgn k = 17 ∨ sgn k = 18 := by
  unfold sgn
  repeat' split
  all_goals omega
theorem mR_ok : ∀ (ts : List Tok) (w mn : Bool) (H : List Nat) (O O2 : List Int32) (ts2 : List Tok), (∀ t ∈ ts, t.2.1 = 0 ∨ kOK t.2.1 t.2.2) → hOK H → opnN H ≤ 5 → mR ts w mn H O = .inr (O2, ts2) → ∃ C, O2 = O ++ C ∧ okd C (bin H + (if w = true then 0 else 1)) 1 = true ∧ C.length + ts2.length + 1 ≤ H.length + ts.length ∧ (∀ t ∈ ts2, t ∈ ts)
  | [], w, mn, H, O, O2, ts2, _, _, _, h => by cases w <;> cases h
  | t :: ts, true, mn, H, O, O2, ts2, hk, hH, h5, h => by
    have hk2 : ∀ t ∈ ts, t.2.1 = 0 ∨ kOK t.2.1 t.2.2 := fun x hx => hk x (List.mem_cons_of_mem _ hx)
    have hb := hOK_bin H hH
    have r5 : rT H ≤ 5 := by
      cases H with
      | nil => exact Nat.zero_le _
      | cons c H => exact rr_le c
    have hkt := hk t List.mem_cons_self
    have num : ∀ c : Int32, (100000 ≤ c ∧ c < 200000 ∨ 0 ≤ c ∧ c < 6) → mR ts false mn (unH 7 H) (O ++ c :: unO 7 H) = .inr (O2, ts2) → ∃ C, O2 = O ++ C ∧ okd C (bin H + 0) 1 = true ∧ C.length + ts2.length + 1 ≤ H.length + (ts.length + 1) ∧ (∀ x ∈ ts2, x ∈ t :: ts) := by
      intro c hc h
      obtain ⟨C, e, o, l, m⟩ := mR_ok ts false mn (unH 7 H) _ O2 ts2 hk2 (hOK_un H hH) (by have := opnN_un (l := 7) H; omega) h
      have hlen := un_len (l := 7) H
      refine ⟨(c :: unO 7 H) ++ C, by rw [e, List.append_assoc], ?_, by rw [List.length_append, List.length_cons]; omega, fun x hx => List.mem_cons_of_mem _ (m x hx)⟩
      exact okd_app o _ _ (okd_app (okd_un (by decide) H hH) [c] _ (okd_one hc (by omega)))
    have opened : ∀ (c : Nat) (mn2 : Bool), (c = 0 ∨ c = 13 ∨ c = 19) → ¬ opnN H = 5 → mR ts true mn2 (c :: H) O = .inr (O2, ts2) → ∃ C, O2 = O ++ C ∧ okd C (bin H + 0) 1 = true ∧ C.length + ts2.length + 1 ≤ H.length + (ts.length + 1) ∧ (∀ x ∈ ts2, x ∈ t :: ts) := by
      intro c mn2 hc hn h
      obtain ⟨C, e, o, l, m⟩ := mR_ok ts true mn2 (c :: H) _ O2 ts2 hk2 ⟨hH, .inl hc⟩ (by unfold opnN; rw [if_pos hc]; omega) h
      have e3 : bin (c :: H) = bin H := by
        show bin H + _ = _
        rw [if_pos hc, Nat.add_zero]
      rw [e3] at o
      exact ⟨C, e, o, by rw [List.length_cons] at l; omega, fun x hx => List.mem_cons_of_mem _ (m x hx)⟩
    rw [List.length_cons, if_pos rfl]
    rw [mR_w] at h
    by_cases q1 : t.2.1 = 1
    · rw [if_pos q1] at h
      refine num _ (.inl (cd_num ?_)) h
      unfold kOK at hkt; omega
    · rw [if_neg q1] at h
      by_cases q2 : t.2.1 = 2
      · rw [if_pos q2] at h
        refine num _ (.inr (cd_nam ?_)) h
        unfold kOK at hkt; omega
      · rw [if_neg q2] at h
        by_cases q3 : t.2.1 = 6 ∧ mn = true
        · rw [if_pos q3] at h
          by_cases y : opnN H = 5
          · rw [if_pos y] at h; cases h
          · rw [if_neg y] at h; exact opened 13 mn (by omega) y h
        · rw [if_neg q3] at h
          by_cases q4 : t.2.1 = 45
          · rw [if_pos q4] at h
            by_cases y : opnN H = 5
            · rw [if_pos y] at h; cases h
            · rw [if_neg y] at h; exact opened 19 false (by omega) y h
          · rw [if_neg q4] at h
            by_cases q5 : t.2.1 = 40
            · rw [if_pos q5] at h
              by_cases y : opnN H = 5
              · rw [if_pos y] at h; cases h
              · rw [if_neg y] at h; exact opened 0 true (by omega) y h
            · rw [if_neg q5] at h; cases h
  | t :: ts, false, mn, H, O, O2, ts2, hk, hH, h5, h => by
    have hk2 : ∀ t ∈ ts, t.2.1 = 0 ∨ kOK t.2.1 t.2.2 := fun x hx => hk x (List.mem_cons_of_mem _ hx)
    rw [List.length_cons, if_neg (by decide)]
    rw [mR_n] at h
    have u1 := un_len (l := 1) H
    have ou := okd_un (l := 1) (by decide) H hH
    by_cases q1 : t.2.1 = 59
    · rw [if_pos q1] at h
      by_cases y : unH 1 H = []
      · rw [if_pos y] at h
        injection h with h
        injection h with h1 h2
        subst h1 h2
        rw [y] at ou u1
        exact ⟨_, rfl, ou, by rw [List.length_nil] at u1; omega, fun x hx => List.mem_cons_of_mem _ hx⟩
      · rw [if_neg y] at h; cases h
    · rw [if_neg q1] at h
      by_cases q2 : t.2.1 = 41
      · rw [if_pos q2] at h
        by_cases y : unH 1 H = []
        · rw [if_pos y] at h; cases h
        · rw [if_neg y] at h
          have hu := hOK_un (l := 1) H hH
          have ht := unH_top (l := 1) H
          have ho := opnN_un (l := 1) H
          generalize unH 1 H = U at *
          cases U with
          | nil => exact absurd rfl y
          | cons c G =>
            have hc0 : c = 0 := by
              have h0 := ht c rfl
              have h1 := hu.2
              by_cases z : c = 0
              · exact z
              · exfalso
                have : ¬ rnk c < 1 := by
                  unfold rnk
                  rw [if_neg z]
                  repeat' split
                  all_goals omega
                exact this h0
            subst hc0
            have u7 := un_len (l := 7) G
            have eb : bin (0 :: G) = bin G := rfl
            have eo : opnN (0 :: G) = opnN G + 1 := rfl
            rw [eb] at ou
            obtain ⟨C, e, o, l, m⟩ := mR_ok ts false mn (unH 7 G) _ O2 ts2 hk2 (hOK_un G hu.1) (by have := opnN_un (l := 7) G; omega) h
            rw [List.length_cons] at u1
            refine ⟨unO 1 H ++ (unO 7 G ++ C), by rw [e]; simp only [List.append_assoc]; rfl, ?_, by rw [List.length_append, List.length_append]; omega, fun x hx => List.mem_cons_of_mem _ (m x hx)⟩
            exact okd_app (okd_app o _ _ (okd_un (by decide) G hu.1)) _ _ ou
      · rw [if_neg q2] at h
        by_cases q3 : sgn t.2.1 = 99
        · rw [if_pos q3] at h; cases h
        · rw [if_neg q3] at h
          by_cases q4 : rnk (sgn t.2.1) = 4 ∧ hd4 (unH (btL (sgn t.2.1)) H) = true
          · rw [if_pos q4] at h; cases h
          · rw [if_neg q4] at h
            have hs := (sgn_in t.2.1).resolve_left q3
            generalize sgn t.2.1 = c at *
            have hl1 : 1 ≤ btL c := by
              rcases hs with e | e | e | e | e | e | e <;> subst e <;> decide
            have hu := hOK_un (l := btL c) H hH
            have ht := unH_top (l := btL c) H
            have ho := opnN_un (l := btL c) H
            have ub := un_len (l := btL c) H
            have obt := okd_un hl1 H hH
            have hnb : ¬ (c = 0 ∨ c = 13 ∨ c = 19) := by omega
            obtain ⟨C, e, o, l, m⟩ := mR_ok ts true _ (c :: unH (btL c) H) _ O2 ts2 hk2 ⟨hu, .inr ⟨by omega, rr_top hu hs (fun z => by
              cases y : hd4 (unH (btL c) H) with
              | true => exact absurd ⟨z, y⟩ q4
              | false => rfl) ht⟩⟩ (by unfold opnN; rw [if_neg hnb]; omega) h
            have eb : bin (c :: unH (btL c) H) = bin (unH (btL c) H) + 1 := by
              show _ + _ = _
              rw [if_neg hnb]
            rw [eb, if_pos rfl, Nat.add_zero] at o
            refine ⟨unO (btL c) H ++ C, by rw [e, List.append_assoc], okd_app o _ _ obt, by rw [List.length_append]; rw [List.length_cons] at l; omega, fun x hx => List.mem_cons_of_mem _ (m x hx)⟩
