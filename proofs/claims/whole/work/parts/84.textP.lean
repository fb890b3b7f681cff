/-! text: answer and state -/
abbrev Txt : Type := Nat ⊕ (List Int32 × List Int32)
def txt3 (O1 O2 : List Int32) : List Tok → Txt
  | [] => .inl 0
  | t :: _ => if t.2.1 = 0 then .inr (O1, O2) else .inl t.1
def txt2 (O1 : List Int32) : Res → Txt
  | .inl f => .inl f
  | .inr (O2, ts) => txt3 O1 O2 ts
def txtW (O1 : List Int32) : List Tok → Txt
  | [] => .inl 0
  | t :: ts => if t.2.1 = 3 ∧ t.2.2 = 1 then txt2 O1 (mR ts true true [] []) else .inl t.1
def txt1 : Res → Txt
  | .inl f => .inl f
  | .inr (O1, ts) => txtW O1 ts
def txtN : List Tok → Txt
  | [] => .inl 0
  | t :: ts => if t.2.1 = 3 ∧ t.2.2 = 0 then txt1 (mR ts true true [] []) else .inl t.1
theorem txtN_c {t : Tok} {ts : List Tok} : txtN (t :: ts) = if t.2.1 = 3 ∧ t.2.2 = 0 then txt1 (mR ts true true [] []) else .inl t.1 := rfl
theorem txtW_c {O1 : List Int32} {t : Tok} {ts : List Tok} : txtW O1 (t :: ts) = if t.2.1 = 3 ∧ t.2.2 = 1 then txt2 O1 (mR ts true true [] []) else .inl t.1 := rfl
theorem txt3_c {O1 O2 : List Int32} {t : Tok} {ts : List Tok} : txt3 O1 O2 (t :: ts) = if t.2.1 = 0 then .inr (O1, O2) else .inl t.1 := rfl
def txtR (tp : List Nat) : Txt := txtN (tks tp (tp.length + 1) 0)
theorem tks_k {tp : List Nat} : ∀ (f p : Nat), p ≤ tp.length → ∀ t ∈ tks tp f p, t.2.1 = 0 ∨ kOK t.2.1 t.2.2
  | 0, _, _, _, h => by cases h
  | f + 1, p, hp, t, h => by
    unfold tks at h
    by_cases q : rnE isBl tp p < tp.length
    · rw [if_pos q] at h
      rcases List.mem_cons.mp h with e | e
      · rw [e]; exact .inr (tkA_k q)
      · exact tks_k f _ (tkA_b q).2 t e
    · rw [if_neg q] at h
      rw [List.mem_singleton] at h
      rw [h]; exact .inl rfl
theorem tks_l {tp : List Nat} : ∀ (f p : Nat), p ≤ tp.length → (tks tp f p).length ≤ tp.length - p + 1
  | 0, _, _ => Nat.zero_le _
  | f + 1, p, hp => by
    unfold tks
    by_cases q : rnE isBl tp p < tp.length
    · rw [if_pos q, List.length_cons]
      have h1 := tkA_b q
      have h2 := tks_l f _ h1.2
      have h3 := (rnE_b (q := isBl) (tp := tp) (tp.length - p) p (by omega)).1
      omega
    · rw [if_neg q]
      show 1 ≤ _
      omega
theorem TL.k {tp : List Nat} {p : Nat} {ts : List Tok} (h : TL tp p ts) : (∀ t ∈ ts, t.2.1 = 0 ∨ kOK t.2.1 t.2.2) ∧ ts.length ≤ tp.length - p + 1 := by
  obtain ⟨hp, f, hf, rfl⟩ := h
  exact ⟨tks_k f p hp, tks_l f p hp⟩
theorem TL.o (tp : List Nat) : TL tp 0 (tks tp (tp.length + 1) 0) := ⟨Nat.zero_le _, tp.length + 1, by omega, rfl⟩
theorem mR_e {ts ts2 : List Tok} {O : List Int32} (hk : ∀ t ∈ ts, t.2.1 = 0 ∨ kOK t.2.1 t.2.2) (h : mR ts true true [] [] = .inr (O, ts2)) : okc O 0 = true ∧ O.length + ts2.length + 1 ≤ ts.length ∧ ∀ t ∈ ts2, t ∈ ts := by
  obtain ⟨C, e, o, l, m⟩ := mR_ok ts true true [] [] O ts2 hk trivial (Nat.zero_le _) h
  obtain rfl : O = C := e
  rw [if_pos rfl] at o
  exact ⟨by rw [← okd_c]; exact o, by simpa using l, m⟩
theorem txt_ok {tp : List Nat} {O1 O2 : List Int32} (hl : tp.length ≤ 160) (h : txtR tp = .inr (O1, O2)) : okc O1 0 = true ∧ okc O2 0 = true ∧ O1.length + O2.length ≤ 160 := by
  obtain ⟨hk, hlen⟩ := (TL.o tp).k
  unfold txtR at h
  cases e0 : tks tp (tp.length + 1) 0 with
  | nil => rw [e0] at h; cases h
  | cons t ts =>
    rw [e0] at h hk hlen
    rw [txtN_c] at h
    by_cases q : t.2.1 = 3 ∧ t.2.2 = 0
    · rw [if_pos q] at h
      cases e1 : mR ts true true [] [] with
      | inl f => rw [e1] at h; cases h
      | inr r =>
        obtain ⟨A, ts1⟩ := r
        rw [e1] at h
        obtain ⟨a1, a2, a3⟩ := mR_e (fun x hx => hk x (List.mem_cons_of_mem _ hx)) e1
        have h : txtW A ts1 = .inr (O1, O2) := h
        cases ts1 with
        | nil => cases h
        | cons t1 ts2 =>
          rw [txtW_c] at h
          by_cases q2 : t1.2.1 = 3 ∧ t1.2.2 = 1
          · rw [if_pos q2] at h
            cases e2 : mR ts2 true true [] [] with
            | inl f => rw [e2] at h; cases h
            | inr r =>
              obtain ⟨B, ts3⟩ := r
              rw [e2] at h
              obtain ⟨b1, b2, b3⟩ := mR_e (fun x hx => hk x (List.mem_cons_of_mem _ (a3 x (List.mem_cons_of_mem _ hx)))) e2
              have h : txt3 A B ts3 = .inr (O1, O2) := h
              cases ts3 with
              | nil => cases h
              | cons t3 ts4 =>
                rw [txt3_c] at h
                by_cases q3 : t3.2.1 = 0
                · rw [if_pos q3] at h
                  injection h with h
                  injection h with h1 h2
                  subst h1 h2
                  simp only [List.length_cons] at hlen a2 b2
                  exact ⟨a1, b1, by omega⟩
                · rw [if_neg q3] at h; cases h
          · rw [if_neg q2] at h; cases h
    · rw [if_neg q] at h; cases h
def pText (σ : St) : Int32 := if (oTx σ).length = 6 then -4 else match txtR (oTp σ) with
  | .inl f => -100 - nI f
  | .inr _ => nI (oTx σ).length
def tText (σ : St) : St := if (oTx σ).length = 6 then σ else match txtR (oTp σ) with
  | .inl _ => sTp σ []
  | .inr r => sTx (sTp σ []) (oTx σ ++ [r])
theorem wf_text {σ : St} (h : WF σ) : WF (tText σ) := by
  unfold tText
  by_cases q : (oTx σ).length = 6
  · rw [if_pos q]; exact h
  · rw [if_neg q]
    have h0 : WF (sTp σ []) := h.sTp (Nat.zero_le _) (fun b hb => by cases hb)
    cases e : txtR (oTp σ) with
    | inl f => exact h0
    | inr r =>
      obtain ⟨O1, O2⟩ := r
      obtain ⟨a, b, c⟩ := txt_ok h.tp.1 e
      obtain ⟨x0, xb, xc, x, tp, ⟨t1, t2, t3, t4⟩, gv, fo, ro, im, ss⟩ := h0
      refine ⟨x0, xb, xc, x, tp, ⟨?_, ?_, ?_, fun p hp => ?_⟩, gv, fo, ro, fun g hg => ?_, ss⟩
      · show 1 ≤ (oTx σ ++ [(O1, O2)]).length
        rw [List.length_append]; exact Nat.le_add_left _ _
      · show (oTx σ ++ [(O1, O2)]).length ≤ 6
        rw [List.length_append, List.length_singleton]
        have t2 : (oTx σ).length ≤ 6 := t2
        omega
      · show oRu σ < (oTx σ ++ [(O1, O2)]).length
        rw [List.length_append]
        exact Nat.lt_of_lt_of_le t3 (Nat.le_add_right _ _)
      · rcases List.mem_append.mp (show p ∈ oTx σ ++ [(O1, O2)] from hp) with z | z
        · exact t4 p z
        · rw [List.mem_singleton] at z
          rw [z]; exact ⟨a, b, c⟩
      · obtain ⟨y1, y2, y3, y4⟩ := im g hg
        refine ⟨y1, y2, ?_, y4⟩
        show iRu g < (oTx σ ++ [(O1, O2)]).length
        rw [List.length_append]
        exact Nat.lt_of_lt_of_le y3 (Nat.le_add_right _ _)
