/-! knot, both sides -/
theorem up_mem {p : Nat → Bool} {d : Nat} (hp : p d = true) : ∀ {n e : Nat}, e ≤ d → d < e + n → d ∈ upF p n e
  | 0, e, a, b => by omega
  | n + 1, e, a, b => by
    rw [up_s]
    by_cases w : e = d
    · subst w; rw [if_pos hp]; exact List.mem_cons_self
    · have := up_mem hp (n := n) (e := e + 1) (by omega) (by omega)
      split
      · exact List.mem_cons_of_mem _ this
      · exact this
def LwP (σ : St) (W : Nat) (D : Nat → Nat) : List Nat → List (Nat × Nat) → Prop
  | [], _ => True
  | t :: ts, q => (D t < W ∧ okD σ W q t (D t) = true) ∧ LwP σ W D ts (q ++ [(t, D t)])
theorem LwP_s {σ : St} {W t : Nat} {D : Nat → Nat} {ts : List Nat} {q : List (Nat × Nat)} : LwP σ W D (t :: ts) q ↔ (D t < W ∧ okD σ W q t (D t) = true) ∧ LwP σ W D ts (q ++ [(t, D t)]) := Iff.rfl
theorem LwP_c {σ : St} {W : Nat} {D D2 : Nat → Nat} : ∀ {ts : List Nat} {q : List (Nat × Nat)}, (∀ t ∈ ts, D t = D2 t) → LwP σ W D ts q → LwP σ W D2 ts q
  | [], _, _, _ => trivial
  | t :: ts, q, h, hl => by
    have e := h t List.mem_cons_self
    rw [LwP_s] at hl ⊢
    rw [← e]
    exact ⟨hl.1, LwP_c (fun x hx => h x (List.mem_cons_of_mem _ hx)) hl.2⟩
theorem LwP_ex {σ : St} {W : Nat} {D : Nat → Nat} (hW : W ≤ 7) : ∀ {ts : List Nat} {q : List (Nat × Nat)}, LwP σ W D ts q → exW σ W ts q ≠ []
  | [], q, _ => by rw [exW_0]; exact List.cons_ne_nil _ _
  | t :: ts, q, hl => by
    rw [LwP_s] at hl
    have h1 := LwP_ex hW hl.2
    intro h2
    rw [exW_s, List.flatMap_eq_nil_iff] at h2
    refine h1 (h2 (D t) ?_)
    refine up_mem ?_ (Nat.zero_le _) (by omega)
    unfold opP
    rw [decide_eq_true hl.1.1, hl.1.2]; rfl
theorem LwP_of {σ : St} {W : Nat} : ∀ {ts : List Nat} {q w : List (Nat × Nat)}, ts.Nodup → w ∈ exW σ W ts q → ∃ D, LwP σ W D ts q
  | [], _, _, _, _ => ⟨fun _ => 0, trivial⟩
  | t :: ts, q, w, hn, hw => by
    rw [exW_s, List.mem_flatMap] at hw
    obtain ⟨d, hd, hw⟩ := hw
    rw [List.nodup_cons] at hn
    obtain ⟨D, hD⟩ := LwP_of hn.2 hw
    obtain ⟨a, -, -⟩ := up_in hd
    unfold opP at a
    rw [Bool.and_eq_true, decide_eq_true_eq] at a
    refine ⟨u1 D t d, ?_⟩
    rw [LwP_s, u1_s]
    refine ⟨a, LwP_c (fun x hx => ?_) hD⟩
    have hne : x ≠ t := fun e => hn.1 (by rw [← e]; exact hx)
    rw [u1_n hne]
theorem okD_sub {σ : St} {W t d : Nat} {q q2 : List (Nat × Nat)} (hs : ∀ x ∈ q2, x ∈ q) (h : okD σ W q t d = true) : okD σ W q2 t d = true := by
  unfold okD at h ⊢
  rw [Bool.and_eq_true, List.all_eq_true] at h ⊢
  exact ⟨h.1, fun x hx => h.2 x (hs x hx)⟩
theorem LwP_sub {σ : St} {W : Nat} {D : Nat → Nat} {ts2 ts : List Nat} (h : ts2.Sublist ts) : ∀ {q q2 : List (Nat × Nat)}, (∀ x ∈ q2, x ∈ q) → LwP σ W D ts q → LwP σ W D ts2 q2 := by
  induction h with
  | slnil => intro q q2 _ _; trivial
  | cons t _ ih =>
    intro q q2 hs hl
    rw [LwP_s] at hl
    exact ih (fun x hx => List.mem_append_left _ (hs x hx)) hl.2
  | cons_cons t _ ih =>
    intro q q2 hs hl
    rw [LwP_s] at hl ⊢
    refine ⟨⟨hl.1.1, okD_sub hs hl.1.2⟩, ih (fun x hx => ?_) hl.2⟩
    rw [List.mem_append] at hx ⊢
    exact hx.imp (hs x) id
def badB (σ : St) (s : Nat) : Bool := (exW σ (oW σ) (memT (oT σ) s) []).isEmpty
theorem badB_t {σ : St} {s : Nat} (h : exW σ (oW σ) (memT (oT σ) s) [] = []) : badB σ s = true := by unfold badB; rw [h]; rfl
theorem badB_f {σ : St} {s : Nat} {w : List (Nat × Nat)} {L : List (List (Nat × Nat))} (h : exW σ (oW σ) (memT (oT σ) s) [] = w :: L) : badB σ s = false := by unfold badB; rw [h]; rfl
theorem bad_sub {σ : St} (hW : oW σ ≤ 7) {w : List (Nat × Nat)} {L : List (List (Nat × Nat))} (h : waysV σ (oW σ) = w :: L) (s : Nat) : badB σ s = false := by
  obtain ⟨D, hD⟩ := LwP_of (σ := σ) (W := oW σ) (q := []) (w := w) (ts := List.range (oT σ)) List.nodup_range (by
    show w ∈ waysV σ (oW σ)
    rw [h]; exact List.mem_cons_self)
  have h2 : LwP σ (oW σ) D (memT (oT σ) s) [] := LwP_sub List.filter_sublist (fun x hx => hx) hD
  have h3 := LwP_ex hW h2
  cases q : badB σ s with
  | false => rfl
  | true =>
    unfold badB at q
    rw [List.isEmpty_iff] at q
    exact absurd q h3
def pcV (s : Nat) : Nat := cntLT s.testBit 6
def ktF (σ : St) : Nat → Nat → Nat → Nat
  | 0, _, b => b
  | n + 1, s, b => ktF σ n (s + 1) (if (b = 0 ∨ pcV s < pcV b) ∧ badB σ s = true then s else b)
theorem kt_s {σ : St} {n s b : Nat} : ktF σ (n + 1) s b = ktF σ n (s + 1) (if (b = 0 ∨ pcV s < pcV b) ∧ badB σ s = true then s else b) := rfl
def KtQ (σ : St) (S b : Nat) : Prop := (b = 0 ∧ ∀ s, 1 ≤ s → s < S → badB σ s = false) ∨ (1 ≤ b ∧ b < S ∧ badB σ b = true ∧ ∀ s, 1 ≤ s → s < S → badB σ s = true → pcV b < pcV s ∨ (pcV b = pcV s ∧ b ≤ s))
theorem KtQ.step {σ : St} {s b : Nat} (hs : 1 ≤ s) (h : KtQ σ s b) : KtQ σ (s + 1) (if (b = 0 ∨ pcV s < pcV b) ∧ badB σ s = true then s else b) := by
  by_cases q : (b = 0 ∨ pcV s < pcV b) ∧ badB σ s = true
  · rw [if_pos q]
    refine .inr ⟨hs, by omega, q.2, fun x h1 h2 h3 => ?_⟩
    by_cases y : x = s
    · subst y; exact .inr ⟨rfl, Nat.le_refl _⟩
    · rcases h with ⟨e, hh⟩ | ⟨e1, e2, e3, hh⟩
      · rw [hh x h1 (by omega)] at h3; cases h3
      · have := hh x h1 (by omega) h3
        rcases q.1 with z | z
        · omega
        · omega
  · rw [if_neg q]
    rcases h with ⟨e, hh⟩ | ⟨e1, e2, e3, hh⟩
    · refine .inl ⟨e, fun x h1 h2 => ?_⟩
      by_cases y : x = s
      · subst y
        cases z : badB σ x with
        | false => rfl
        | true => exact absurd ⟨.inl e, z⟩ q
      · exact hh x h1 (by omega)
    · refine .inr ⟨e1, by omega, e3, fun x h1 h2 h3 => ?_⟩
      by_cases y : x = s
      · subst y
        have : ¬ pcV x < pcV b := fun w => q ⟨.inr w, h3⟩
        omega
      · exact hh x h1 (by omega) h3
theorem KtQ.fold {σ : St} : ∀ (n s b : Nat), 1 ≤ s → KtQ σ s b → KtQ σ (s + n) (ktF σ n s b)
  | 0, s, b, _, h => h
  | n + 1, s, b, hs, h => by
    rw [kt_s, show s + (n + 1) = (s + 1) + n by omega]
    exact KtQ.fold n (s + 1) _ (by omega) (h.step hs)
theorem KtQ.uniq {σ : St} {S b c : Nat} (h : KtQ σ S b) (g : KtQ σ S c) : b = c := by
  rcases h with ⟨e, hh⟩ | ⟨e1, e2, e3, hh⟩ <;> rcases g with ⟨f, gg⟩ | ⟨f1, f2, f3, gg⟩
  · omega
  · rw [hh c f1 f2] at f3; cases f3
  · rw [gg b e1 e2] at e3; cases e3
  · have a1 := hh c f1 f2 f3
    have a2 := gg b e1 e2 e3
    omega
def ktV (σ : St) : Nat := ktF σ (2 ^ oT σ - 1) 1 0
theorem ktV_Q (σ : St) : KtQ σ (2 ^ oT σ) (ktV σ) := by
  have h := KtQ.fold (σ := σ) (2 ^ oT σ - 1) 1 0 (Nat.le_refl _) (.inl ⟨rfl, fun s h1 h2 => by omega⟩)
  have hp := Nat.two_pow_pos (oT σ)
  rw [show 1 + (2 ^ oT σ - 1) = 2 ^ oT σ by omega] at h
  exact h
theorem pc_7 : ∀ s, s < 64 → cntLT s.testBit 7 = pcV s := by decide
theorem pc_full : ∀ T, T < 7 → pcV (2 ^ T - 1) = T := by decide
section KNT
variable {d bc bs : Nat} {σ : St} {M0 : Mem} {K : Int32 → Mem → Prop}
theorem p2_64 {T : Nat} (h : T ≤ 6) : 2 ^ T ≤ 64 := Nat.pow_le_pow_right (n := 2) (by decide) h
theorem knx40 {many : Nat} (hw : WF σ) (hmT : many ≤ oT σ) (H : ∀ M2 r, YX σ M2 → FrG LW [] M0 M2 → KtQ σ (2 ^ oT σ) r → K (nI r) M2) (Hn : ∀ M2, YX σ M2 → NrX σ (oW σ) M2 → FrG LW [] M0 M2 → (∀ s, 1 ≤ s → s < 2 ^ oT σ → badB σ s = true → many < pcV s) → Ex (d + 5) m_Finder_smallestKnot bc bs 27 [some (.ref 53), some (.int (nI (many + 1))), none] [] M2 (PI K)) :
    ∀ (n s : Nat) (M : Mem), s + n = 2 ^ oT σ → 1 ≤ s → YX σ M → NrX σ (oW σ) M → FrG LW [] M0 M → (∀ x, 1 ≤ x → x < 2 ^ oT σ → badB σ x = true → many < pcV x ∨ (many = pcV x ∧ s ≤ x)) → Ex (d + 5) m_Finder_smallestKnot bc bs 40 [some (.ref 53), some (.int (nI many)), some (.int (nI s))] [] M (PI K) := by
  have h6 := hw.T6
  have hW := hw.W
  have h64 := p2_64 h6
  intro n
  induction n with
  | zero =>
    intro s M hs h1 h0 hnr hfr hb
    refine k_Finder_smallestKnot_40 h0.1 ?_
    rw [h0.2.1.1, one_N (by omega), nI_add many 1]
    refine ⟨fun _ => Hn M h0 hnr hfr (fun x a b c => ?_), fun q => absurd (nI_le (by omega) (by omega)) q⟩
    have := hb x a b c
    omega
  | succ n ih =>
    intro s M hs h1 h0 hnr hfr hb
    refine k_Finder_smallestKnot_40 h0.1 ?_
    rw [h0.2.1.1, one_N (by omega), nI_add s 1]
    refine ⟨fun q => absurd q (by rw [nI_leI (by omega) (by omega)]; omega), fun _ => ?_⟩
    refine sx_bitCount h0.1 (by omega) ⟨h0.1, fun q => ?_, fun q => ?_⟩
    · rw [pc_7 s (by omega), nI_eq (by have : pcV s ≤ 6 := cnt_le _ 6; omega) (by omega)] at q
      refine ih (s + 1) M (by omega) (by omega) h0 hnr hfr (fun x a b c => ?_)
      have := hb x a b c
      by_cases y : x = s
      · subst y; omega
      · omega
    · rw [pc_7 s (by omega), nI_eq (by have : pcV s ≤ 6 := cnt_le _ 6; omega) (by omega)] at q
      refine sx_isWay (m := s) hw (by omega) hW h0 hnr (fun hL M2 y2 _ f2 => ⟨y2.1, (fun z => nomatch z), fun _ => PI.mk rfl (H M2 s y2 (hfr.tr f2) ?_)⟩) (fun w L hL M2 y2 n2 f2 => ⟨y2.1, fun _ => ?_, (fun z => nomatch z)⟩)
      · refine .inr ⟨h1, by omega, badB_t hL, fun x a b c => ?_⟩
        have := hb x a b c
        omega
      · refine ih (s + 1) M2 (by omega) (by omega) y2 n2 (hfr.tr f2) (fun x a b c => ?_)
        have := hb x a b c
        by_cases y : x = s
        · subst y; rw [badB_f hL] at c; cases c
        · omega
theorem knx27 (hw : WF σ) (hbad : badB σ (2 ^ oT σ - 1) = true) (hT1 : 1 ≤ oT σ) (H : ∀ M2 r, YX σ M2 → FrG LW [] M0 M2 → KtQ σ (2 ^ oT σ) r → K (nI r) M2) : ∀ (n many : Nat) (M : Mem), many + n = oT σ + 1 → YX σ M → NrX σ (oW σ) M → FrG LW [] M0 M → (∀ x, 1 ≤ x → x < 2 ^ oT σ → badB σ x = true → many ≤ pcV x) → Ex (d + 5) m_Finder_smallestKnot bc bs 27 [some (.ref 53), some (.int (nI many)), none] [] M (PI K) := by
  have h6 := hw.T6
  have h64 := p2_64 h6
  have hp : 2 ^ 1 ≤ 2 ^ oT σ := Nat.pow_le_pow_right (by decide) hT1
  intro n
  induction n with
  | zero =>
    intro many M hn h0 hnr hfr hb
    have h1 := hb (2 ^ oT σ - 1) (by omega) (by omega) hbad
    rw [pc_full _ (by omega)] at h1
    omega
  | succ n ih =>
    intro many M hn h0 hnr hfr hb
    refine k_Finder_smallestKnot_27 h0.1 ?_
    rw [h0.2.1.1]
    refine ⟨fun q => absurd q (nI_nlt (by omega) (by omega)), fun _ => ?_⟩
    refine knx40 hw (by omega) H (fun M2 y2 n2 f2 h2 => ih (many + 1) M2 (by omega) y2 n2 f2 (fun x a b c => by have := h2 x a b c; omega)) (2 ^ oT σ - 1) 1 M (by omega) (Nat.le_refl _) h0 hnr hfr (fun x a b c => ?_)
    have := hb x a b c
    omega
theorem sX_knot {M : Mem} (hw : WF σ) (hx : XA σ M) (h : ∀ M2, SX σ M M2 → K (nI (ktV σ)) M2) : Con (d + 6) m_MD_knot 0 0 [.ref 0] M (PI K) := by
  obtain ⟨hF, hL, -, -, hT, -⟩ := id hx
  have h6 := hw.T6
  have hW := hw.W
  have H : ∀ M2 r, YX σ M2 → FrG LW [] M M2 → KtQ σ (2 ^ oT σ) r → Fx M2 ∧ PI K (some (.int (nI r))) M2 := fun M2 r y2 f2 hr => by
    have e := hr.uniq (ktV_Q σ)
    subst e
    exact ⟨y2.1, PI.mk rfl (h M2 (hx.q hw f2 y2.1 (by decide) rfl))⟩
  refine Con.of (lo := [some (.ref 0)]) F_MD_knot.1 rfl (Nat.le_of_ble_eq_true rfl) (k_MD_knot_0 hF ?_)
  refine Con.ent (k := 2) F_Finder_smallestKnot.1 rfl (Nat.le_of_ble_eq_true rfl) (k_Finder_smallestKnot_0 hF ?_)
  rw [hL.2.1]
  refine sx_suppose hw hW.2 ⟨hF, hL, hT⟩ (fun M2 y2 f2 n2 => ⟨y2.1, ?_⟩)
  have fr2 := (f2.wk (L2 := LW) (R2 := []) (by unfold LW; simp) (by simp))
  have m63 := memT_63 (oT σ) (by omega)
  refine sx_isWay (m := 63) hw (by decide) hW y2 n2 (fun hL2 M3 y3 n3 f3 => ⟨y3.1, fun _ => ?_, (fun z => nomatch z)⟩) (fun w L hL2 M3 y3 _ f3 => ⟨y3.1, (fun z => nomatch z), fun _ => PI.mk rfl (H M3 0 y3 (fr2.tr f3) (.inl ⟨rfl, fun s _ _ => ?_⟩))⟩)
  · have hT1 : 1 ≤ oT σ := by
      cases q : oT σ with
      | zero => rw [q] at hL2; exact absurd hL2 (by rw [show memT 0 63 = [] from rfl, exW_0]; exact List.cons_ne_nil _ _)
      | succ k => omega
    have hbad : badB σ (2 ^ oT σ - 1) = true := by
      refine badB_t ?_
      rw [m63.2, ← m63.1]; exact hL2
    exact knx27 (M0 := M) (K := fun r M => Fx M ∧ PI K (some (.int r)) M) hw hbad hT1 H (oT σ) 1 M3 (by omega) y3 n3 (fr2.tr f3) (fun x a b c => by
      rcases Nat.eq_zero_or_pos (pcV x) with z | z
      · exfalso
        have h64 := p2_64 h6
        have : ∀ x, x < 64 → 1 ≤ x → pcV x ≠ 0 := by decide
        exact this x (by omega) a z
      · exact z)
  · rw [m63.1] at hL2
    exact bad_sub hW.2 hL2 s
theorem one4 (hF : Fm M0) {s : Nat} (hs : s < 64) (h : K (nI (pcV s)) M0) : ∀ (n k : Nat), k + n = 6 → Ex (d + 1) m_MM_ones bc bs 4 [some (.int (nI s)), some (.int (nI (cntLT s.testBit k))), some (.int (nI k))] [] M0 (PI K) := by
  intro n
  induction n with
  | zero =>
    intro k hk
    obtain rfl : k = 6 := by omega
    exact k_MM_ones_4 hF ⟨fun _ => PI.mk rfl h, fun q => absurd (nI_le (Nat.le_refl _) (by omega)) q⟩
  | succ n ih =>
    intro k hk
    refine k_MM_ones_4 hF ⟨fun q => absurd q (by rw [nI_leI (by omega) (by omega)]; omega), fun _ => ?_⟩
    rw [bitv (by omega) (by omega), nI_add, nI_add]
    have := ih (k + 1) (by omega)
    rw [cnt_s] at this
    by_cases y : s.testBit k = true
    · rw [if_pos y] at this ⊢; exact this
    · rw [if_neg y] at this ⊢; exact this
theorem sm_ones {M : Mem} (hF : Fm M) {s : Nat} (hs : s < 64) (h : K (nI (pcV s)) M) : Con (d + 1) m_MM_ones 0 0 [.int (nI s)] M (PI K) := by
  refine Con.ent (k := 2) F_MM_ones.1 rfl (Nat.le_of_ble_eq_true rfl) (k_MM_ones_0 hF ?_)
  exact one4 hF hs h 6 0 rfl
theorem knm8 (hw : WF σ) (H : ∀ M2, GM σ M2 → FrG LN [] M0 M2 → K (nI (ktV σ)) M2) : ∀ (n s b : Nat) (M : Mem), s + n = 2 ^ oT σ → 1 ≤ s → b < s → GM σ M → FrG LN [] M0 M → ktV σ = ktF σ n s b → Ex (d + 5) m_MM_knot bc bs 8 [some (.ref 78), some (.int (nI b)), some (.int (nI s))] [] M (PI K) := by
  have h6 := hw.T6
  have h64 := p2_64 h6
  have hp := Nat.two_pow_pos (oT σ)
  intro n
  induction n with
  | zero =>
    intro s b M hs h1 hb h0 hfr he
    refine k_MM_knot_8 h0.1 ?_
    refine sm_all hw h0.1 h0.2.1 ⟨h0.1, fun _ => PI.mk ?_ (H M h0 hfr), fun q => absurd (nI_lt (by omega) (by omega)) q⟩
    rw [he]; rfl
  | succ n ih =>
    intro s b M hs h1 hb h0 hfr he
    rw [kt_s] at he
    refine k_MM_knot_8 h0.1 ?_
    have s31 : (b = 0 ∨ pcV s < pcV b) → Ex (d + 5) m_MM_knot bc bs 31 [some (.ref 78), some (.int (nI b)), some (.int (nI s))] [] M (PI K) := by
      intro hc
      refine k_MM_knot_31 h0.1 ?_
      refine sm_nextB hw (show s < 128 by omega) h0 (fun hL M2 g2 f2 => ⟨g2.1, (fun z => nomatch z), fun _ => ?_⟩) (fun w L2 M2 D hL i2 f2 _ _ => ⟨i2.g.1, fun _ => ?_, (fun z => nomatch z)⟩) <;> rw [nI_add]
      · exact ih (s + 1) s M2 (by omega) (by omega) (by omega) g2 (hfr.tr (f2.wk (by unfold LN; simp) (by simp))) (by rw [he, if_pos ⟨hc, badB_t hL⟩])
      · exact ih (s + 1) b M2 (by omega) (by omega) (by omega) i2.g (hfr.tr (f2.wk (by unfold LN; simp) (by simp))) (by rw [he, if_neg (fun w => by rw [badB_f hL] at w; cases w.2)])
    refine sm_all hw h0.1 h0.2.1 ⟨h0.1, fun q => absurd q (nI_nlt (by omega) (by omega)), fun _ => ⟨fun q => s31 (.inl ?_), fun q => ?_⟩⟩
    · rw [nI_z (by omega)] at q; exact q
    · rw [nI_z (by omega)] at q
      have c1 : pcV s ≤ 6 := cnt_le _ 6
      have c2 : pcV b ≤ 6 := cnt_le _ 6
      refine sm_ones h0.1 (by omega) ⟨h0.1, sm_ones h0.1 (by omega) ⟨h0.1, fun q2 => ?_, fun q2 => s31 (.inr ?_)⟩⟩ <;> rw [nI_leI (by omega) (by omega)] at q2
      · rw [nI_add]
        exact ih (s + 1) b M (by omega) (by omega) (by omega) h0 hfr (by rw [he, if_neg (fun w => by rcases w.1 with z | z <;> omega)])
      · omega
theorem sM_knot {M : Mem} (hw : WF σ) (hm : MA σ M) (h : ∀ M2, SM σ M M2 → K (nI (ktV σ)) M2) : Con (d + 5) m_MM_knot 0 0 [.ref 78] M (PI K) := by
  obtain ⟨hF, -, hL, -, -, hT, -⟩ := id hm
  have hp := Nat.two_pow_pos (oT σ)
  refine Con.ent (k := 2) F_MM_knot.1 rfl (Nat.le_of_ble_eq_true rfl) (k_MM_knot_0 hF ?_)
  refine sm_looks hF hw hL hT (fun M2 hF2 f2 g103 g108 => ⟨hF2, ?_⟩)
  have fM := f2.M hF rfl
  exact knm8 (M0 := M) hw (fun M3 g3 f3 => h M3 (hm.q f3 g3.1 (by decide))) (2 ^ oT σ - 1) 1 0 M2 (by omega) (Nat.le_refl _) (by decide) ⟨hF2, hL.fr fM, hT.fr fM, g108⟩ (f2.wk (by unfold LN; simp) (by simp)) rfl
end KNT
