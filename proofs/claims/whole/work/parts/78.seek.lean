/-! seek, with a giving or with none -/
theorem r_score0 {d bc bs : Nat} {l1 : Int32} {a : Value} {M : Mem} {Φ : Option Value → Mem → Prop} (ha : a = .null ∨ ∃ p : Nat, a = .ref p) (hF : Fx M) (h : (¬ l1 = (nI 2) → (¬ l1 = (nI 3) → Φ (some (.int (nI 0))) M) ∧ (l1 = (nI 3) → Con d m_Finder_otherNumbers 0 0 [.ref 53, a] M (PI fun r1 M1 => Fx M1 ∧ Φ (some (.int (-r1))) M1))) ∧ (l1 = (nI 2) → Con d m_Finder_worthOfWay 0 0 [.ref 53] M (PI fun r2 M2 => Fx M2 ∧ Φ (some (.int r2)) M2))) : Ex (d + 1) m_Finder_score bc bs 0 [some (.ref 53), some (.int l1), some a] [] M Φ := by
  rcases ha with rfl | ⟨p, rfl⟩
  · exact k_Finder_score_n_0 hF h
  · exact k_Finder_score_0 hF h
theorem r_seek0 {d bc bs : Nat} {l1 : Int32} {a : Value} {M : Mem} {Φ : Option Value → Mem → Prop} (ha : a = .null ∨ ∃ p : Nat, a = .ref p) (hF : Fx M) (h : (¬ l1 = (nI 2) → Con d m_Ways_suppose 0 0 [.ref 58, .int (mi M 1 9)] (wi M 53 4 (nI 0)) (PV fun M1 => Fx M1 ∧ Con d m_Ways_begin 0 0 [.ref 58, .int (nI 63)] M1 (PV fun M2 => Fx M2 ∧ Ex (d + 1) m_Finder_seek bc bs 51 [some (.ref 53), some (.int l1), some a, some (.int (nI 0)), some (.int (nI 0)), some (.int (nI 0)), some (.int (nI 0)), none] [] M2 Φ))) ∧ (l1 = (nI 2) → Con d m_Finder_weigh 0 0 [.ref 53] (wi M 53 4 (nI 0)) (PI fun r1 M3 => Fx M3 ∧ Con d m_Ways_suppose 0 0 [.ref 58, .int (mi M3 1 9)] M3 (PV fun M4 => Fx M4 ∧ Con d m_Ways_begin 0 0 [.ref 58, .int (nI 63)] M4 (PV fun M5 => Fx M5 ∧ Ex (d + 1) m_Finder_seek bc bs 51 [some (.ref 53), some (.int l1), some a, some (.int r1), some (.int (nI 0)), some (.int (nI 0)), some (.int (nI 0)), none] [] M5 Φ))))) : Ex (d + 1) m_Finder_seek bc bs 0 [some (.ref 53), some (.int l1), some a, none, none, none, none, none] [] M Φ := by
  rcases ha with rfl | ⟨p, rfl⟩
  · exact k_Finder_seek_n_0 hF h
  · exact k_Finder_seek_0 hF h
theorem r_seek51 {d bc bs : Nat} {l1 : Int32} {a : Value} {l3 : Int32} {l4 : Int32} {l5 : Int32} {l6 : Int32} {M : Mem} {Φ : Option Value → Mem → Prop} (ha : a = .null ∨ ∃ p : Nat, a = .ref p) (hF : Fx M) (h : ((nI 1000000) ≤ l6 → Ex (d + 1) m_Finder_seek bc bs 116 [some (.ref 53), some (.int l1), some a, some (.int l3), some (.int l4), some (.int l5), some (.int l6), none] [] M Φ) ∧ (¬ (nI 1000000) ≤ l6 → (l4 = 0 → Ex (d + 1) m_Finder_seek bc bs 69 [some (.ref 53), some (.int l1), some a, some (.int l3), some (.int l4), some (.int l5), some (.int l6), none] [] M Φ) ∧ (¬ l4 = 0 → (l3 ≤ l5 → Ex (d + 1) m_Finder_seek bc bs 116 [some (.ref 53), some (.int l1), some a, some (.int l3), some (.int l4), some (.int l5), some (.int l6), none] [] M Φ) ∧ (¬ l3 ≤ l5 → Ex (d + 1) m_Finder_seek bc bs 69 [some (.ref 53), some (.int l1), some a, some (.int l3), some (.int l4), some (.int l5), some (.int l6), none] [] M Φ)))) : Ex (d + 1) m_Finder_seek bc bs 51 [some (.ref 53), some (.int l1), some a, some (.int l3), some (.int l4), some (.int l5), some (.int l6), none] [] M Φ := by
  rcases ha with rfl | ⟨p, rfl⟩
  · exact k_Finder_seek_n_51 hF h
  · exact k_Finder_seek_51 hF h
theorem r_seek69 {d bc bs : Nat} {l1 : Int32} {a : Value} {l3 : Int32} {l4 : Int32} {l5 : Int32} {l6 : Int32} {M : Mem} {Φ : Option Value → Mem → Prop} (ha : a = .null ∨ ∃ p : Nat, a = .ref p) (hF : Fx M) (h : Con d m_Ways_next 0 0 [.ref 58] M (PB fun r1 M1 => Fx M1 ∧ (r1 = false → Ex (d + 1) m_Finder_seek bc bs 116 [some (.ref 53), some (.int l1), some a, some (.int l3), some (.int l4), some (.int l5), some (.int l6), none] [] M1 Φ) ∧ (r1 = true → Con d m_Finder_score 0 0 [.ref 53, .int l1, a] M1 (PI fun r2 M2 => Fx M2 ∧ (l4 = 0 → Ex (d + 1) m_Finder_seek bc bs 99 [some (.ref 53), some (.int l1), some a, some (.int l3), some (.int l4), some (.int l5), some (.int l6), some (.int r2)] [] M2 Φ) ∧ (¬ l4 = 0 → (r2 ≤ l5 → Ex (d + 1) m_Finder_seek bc bs 51 [some (.ref 53), some (.int l1), some a, some (.int l3), some (.int l4), some (.int l5), some (.int (l6 + nI 1)), none] [] M2 Φ) ∧ (¬ r2 ≤ l5 → Ex (d + 1) m_Finder_seek bc bs 99 [some (.ref 53), some (.int l1), some a, some (.int l3), some (.int l4), some (.int l5), some (.int l6), some (.int r2)] [] M2 Φ)))))) : Ex (d + 1) m_Finder_seek bc bs 69 [some (.ref 53), some (.int l1), some a, some (.int l3), some (.int l4), some (.int l5), some (.int l6), none] [] M Φ := by
  rcases ha with rfl | ⟨p, rfl⟩
  · exact k_Finder_seek_n_69 hF h
  · exact k_Finder_seek_69 hF h
theorem r_seek99 {d bc bs : Nat} {l1 : Int32} {a : Value} {l3 : Int32} {l4 : Int32} {l5 : Int32} {l6 : Int32} {l7 : Int32} {M : Mem} {Φ : Option Value → Mem → Prop} (ha : a = .null ∨ ∃ p : Nat, a = .ref p) (hF : Fx M) (h : Con d m_Finder_keepWay 0 0 [.ref 53] M (PV fun M1 => Fx M1 ∧ Ex (d + 1) m_Finder_seek bc bs 51 [some (.ref 53), some (.int l1), some a, some (.int l3), some (.int (nI 1)), some (.int l7), some (.int (l6 + nI 1)), none] [] M1 Φ)) : Ex (d + 1) m_Finder_seek bc bs 99 [some (.ref 53), some (.int l1), some a, some (.int l3), some (.int l4), some (.int l5), some (.int l6), some (.int l7)] [] M Φ := by
  rcases ha with rfl | ⟨p, rfl⟩
  · exact k_Finder_seek_n_99 hF h
  · exact k_Finder_seek_99 hF h
theorem r_seek116 {d bc bs : Nat} {l1 : Int32} {a : Value} {l3 : Int32} {l4 : Int32} {l5 : Int32} {l6 : Int32} {M : Mem} {Φ : Option Value → Mem → Prop} (ha : a = .null ∨ ∃ p : Nat, a = .ref p) (hF : Fx M) (h : (¬ l4 = 0 → (¬ l1 = (nI 1) → (¬ l1 = (nI 2) → Φ (some (.long (Int32.toInt64 (-l5)))) M) ∧ (l1 = (nI 2) → Φ (some (.long (Int32.toInt64 l5))) M)) ∧ (l1 = (nI 1) → Φ (some (.long 1)) M)) ∧ (l4 = 0 → Φ (some (.long (-4611686018427387903))) M)) : Ex (d + 1) m_Finder_seek bc bs 116 [some (.ref 53), some (.int l1), some a, some (.int l3), some (.int l4), some (.int l5), some (.int l6), none] [] M Φ := by
  rcases ha with rfl | ⟨p, rfl⟩
  · exact k_Finder_seek_n_116 hF h
  · exact k_Finder_seek_116 hF h
theorem VW_way {σ : St} {D : Nat → Nat} (hw : WF σ) {t : Nat} (ht : t < oT σ) (hD : D t < oW σ) : VW σ t (worthV σ t (D t) (hwV σ D t) (owV σ D t)) := by
  have h6 := hw.T6
  obtain ⟨r1, r2⟩ := nrV_ok (σ := σ) (t := t) (s := thV D (oT σ) (dB (oW σ) (D t))) (oT σ) h6
  have eh : hTo σ t (nrV σ t (thV D (oT σ) (dB (oW σ) (D t))) (oT σ)) = hwV σ D t := by
    rw [r2]
    unfold hwV
    exact min_c (fun i hi => ⟨by rw [thV_t]; congr 1; exact decide_eq_decide.mpr ⟨fun w => w.2, fun w => ⟨hi, w⟩⟩, rfl⟩)
  have ho : owV σ D t < oT σ := by
    have h1 : cntLT (fun o => decide (D o = D t)) (oT σ) ≤ oT σ := cnt_le _ _
    rw [cnt_ne (p := fun o => decide (D o = D t)) (t := t) (decide_eq_true rfl) ht] at h1
    unfold owV
    omega
  exact ⟨D t, owV σ D t, _, hD, ho, r1, by rw [eh]⟩
theorem ItX.fr {σ : St} {L : List Nat} {W : Nat} {ts : List Nat} {b : Bool} {Ls : List (List (Nat × Nat))} {M M2 : Mem} (hw : WF σ) (h : ItX σ W ts b Ls M) (f : FrG L [] M M2) (hL : L.all (fun j => decide (48 ≤ j ∧ j < 58)) = true) : ItX σ W ts b Ls M2 := by
  obtain ⟨⟨y, n, p⟩, q⟩ := h
  have hl := y.1.len
  have hr : ∀ j, 58 ≤ j → j < 75 → mi M2 j = mi M j := fun j a b => f.row (by omega) (fun hm => by have := List.all_eq_true.mp hL j hm; simp only [decide_eq_true_eq] at this; omega)
  have e58 := hr 58 (by decide) (by decide)
  have e59 := hr 59 (by decide) (by decide)
  have e60 := hr 60 (by decide) (by decide)
  have e61 := hr 61 (by decide) (by decide)
  have e62 := hr 62 (by decide) (by decide)
  refine ⟨⟨y.frk hw f (all_sub hL (fun j h => by simp only [decide_eq_true_eq] at h ⊢; omega)), ?_, ?_⟩, ?_⟩
  · unfold NrX at n ⊢; simp only [e58, e59]; exact n
  · unfold PtX at p ⊢; simp only [e58, e60]; exact p
  · cases b with
    | false => simp only [e58]; exact q
    | true =>
      obtain ⟨q1, D, U, q2, q3, q4⟩ := q
      refine ⟨by simp only [e58]; exact q1, D, U, ?_, ?_, q4⟩
      · unfold DyX at q2 ⊢; simp only [e62]; exact q2
      · unfold UsX at q3 ⊢; simp only [e61]; exact q3
def scD (σ : St) (aims : Int32) (l : List Nat) (D : Nat → Nat) : Int32 := if aims = nI 2 then wwV σ D else if aims = nI 3 then -(nI (otN σ l D)) else nI 0
theorem sc_D {σ : St} {aims : Int32} {l : List Nat} {D : Nat → Nat} {w : List (Nat × Nat)} (h : ∀ t, t < oT σ → dyF w t = D t) : scV σ aims l w = scD σ aims l D := by
  unfold scV scD
  rw [wwV_c h, otN_c h]
theorem neg_T {n : Nat} (h : n < 1000) : (-(nI n)).toInt = -(n : Int) := by
  have e : (nI n).toInt = n := nI_toInt (by omega)
  rw [Int32.toInt_neg, e]
  exact bm32 (by omega) (by omega)
theorem scD_g {σ : St} {aims g : Int32} {l : List Nat} {D : Nat → Nat} (hw : WF σ) (hD : ∀ t, t < oT σ → D t < oW σ) (h2 : aims = nI 2 → GoT σ (oT σ) g) (h3 : ¬ aims = nI 2 → g = nI 0) : scD σ aims l D ≤ g := by
  have h6 := hw.T6
  rw [i_le]
  unfold scD
  split
  · rename_i q
    exact h2 q _ (fun i hi => VW_way hw hi (hD i hi))
  · rename_i q
    rw [h3 q]
    have e0 : (nI 0).toInt = 0 := rfl
    rw [e0]
    split
    · have := otN_le (σ := σ) (l := l) (D := D)
      rw [neg_T (by omega)]; omega
    · exact Int.le_refl _
def GvA (σ : St) (a : Value) (l : List Nat) (aims : Int32) (M : Mem) : Prop := (a = .null ∧ ¬ aims = nI 3) ∨ ∃ p gv, a = .ref p ∧ l = gv.2 ∧ GivX M p gv ∧ GivW (oT σ) gv
theorem GvA.rn {σ : St} {a : Value} {l : List Nat} {aims : Int32} {M : Mem} (h : GvA σ a l aims M) : a = .null ∨ ∃ p : Nat, a = .ref p := by
  rcases h with ⟨e, -⟩ | ⟨p, gv, e, -⟩
  · exact .inl e
  · exact .inr ⟨p, e⟩
theorem GvA.hi {σ : St} {a : Value} {l : List Nat} {aims : Int32} {M M2 : Mem} (h : GvA σ a l aims M) (f : HiSame M M2) : GvA σ a l aims M2 := by
  rcases h with e | ⟨p, gv, e, e2, e3, e4⟩
  · exact .inl e
  · exact .inr ⟨p, gv, e, e2, e3.hi f, e4⟩
theorem NP_c {σ : St} {aims : Int32} {M M2 : Mem} (e5 : mi M2 55 = mi M 55) (e6 : mi M2 56 = mi M 56) (h : aims = nI 2 → NrT σ M (oT σ) 0 ∧ PrT σ M (oT σ) 0 0) : aims = nI 2 → NrT σ M2 (oT σ) 0 ∧ PrT σ M2 (oT σ) 0 0 := fun q => ⟨fun x y a b c => by rw [e6]; exact (h q).1 x y a b c, fun x y z a b c w r hr => by rw [e5]; exact (h q).2 x y z a b c w r hr⟩
def FdX (σ : St) (B : Bst) (M : Mem) : Prop := match B with
  | none => mi M 53 4 = nI 0
  | some (_, w) => mi M 53 4 = nI (oT σ) ∧ ∀ t, t < oT σ → mi M 54 t = nI (dyF w t)
def LSk : List Nat := [48, 49, 53, 54, 55, 56, 57, 58, 59, 60, 61, 62]
def a4 (B : Bst) : Int32 := nI (if B.isSome = true then 1 else 0)
def a5 : Bst → Int32
  | none => nI 0
  | some (b, _) => b
section SEE
variable {d bc bs : Nat} {σ : St} {D : Nat → Nat} {a : Value} {l : List Nat} {aims g : Int32} {B : Bst} {M0 : Mem}
theorem sx_score {K : Int32 → Mem → Prop} (hw : WF σ) (h0 : YX σ M0) (hga : GvA σ a l aims M0) (hD : Dy σ D M0) (hNP : aims = nI 2 → NrT σ M0 (oT σ) 0 ∧ PrT σ M0 (oT σ) 0 0) (H : ∀ M2, YX σ M2 → FrG [57] [] M0 M2 → K (scD σ aims l D) M2) : Con (d + 3) m_Finder_score 0 0 [.ref 53, .int aims, a] M0 (PI K) := by
  have h6 := hw.T6
  unfold scD at H
  suffices ex : Ex (d + 3) m_Finder_score 0 0 0 [some (.ref 53), some (.int aims), some a] [] M0 (PI K) by
    rcases hga.rn with rfl | ⟨p, rfl⟩
    · exact Con.of (lo := [some (.ref 53), some (.int aims), some .null]) F_Finder_score.1 rfl (Nat.le_of_ble_eq_true rfl) ex
    · exact Con.of (lo := [some (.ref 53), some (.int aims), some (.ref p)]) F_Finder_score.1 rfl (Nat.le_of_ble_eq_true rfl) ex
  refine r_score0 hga.rn h0.1 ⟨fun q => ⟨fun q2 => ?_, fun q2 => ?_⟩, fun q => ?_⟩
  · rw [if_neg q, if_neg q2] at H
    exact PI.mk rfl (H M0 h0 (FrG.rf _ _))
  · rw [if_neg q, if_pos q2] at H
    rcases hga with ⟨-, e⟩ | ⟨p, gv, e, e2, e3, e4⟩
    · exact absurd q2 e
    · subst e e2
      refine Con.ent (k := 2) F_Finder_otherNumbers.1 rfl (Nat.le_of_ble_eq_true rfl) (k_Finder_otherNumbers_0 h0.1 ?_)
      exact oth4 (K := fun r M => Fx M ∧ PI K (some (.int (-r))) M) hw h0 e3 e4 hD ⟨h0.1, PI.mk rfl (H M0 h0 (FrG.rf _ _))⟩ (oT σ) 0 (by omega)
  · rw [if_pos q] at H
    obtain ⟨hN, hP⟩ := hNP q
    exact sx_worthOfWay hw h0 hN hP hD (fun M2 y2 f2 => ⟨y2.1, PI.mk rfl (H M2 y2 f2)⟩)
variable {K : Int64 → Mem → Prop}
theorem sk116 {M : Mem} {l6 : Int32} (hr : a = .null ∨ ∃ p : Nat, a = .ref p) (h0 : Fx M) (H : K (rsB aims B) M) : Ex (d + 6) m_Finder_seek bc bs 116 [some (.ref 53), some (.int aims), some a, some (.int g), some (.int (a4 B)), some (.int (a5 B)), some (.int l6), none] [] M (PL K) := by
  refine r_seek116 hr h0 ?_
  cases B with
  | none => exact ⟨fun q => absurd rfl q, fun _ => PL.mk rfl H⟩
  | some x =>
    obtain ⟨b, w⟩ := x
    unfold rsB at H
    refine ⟨fun _ => ⟨fun q1 => ⟨fun q2 => ?_, fun q2 => ?_⟩, fun q1 => ?_⟩, fun q => absurd (show nI 1 = 0 from q) (by decide)⟩
    · simp only [if_neg q1, if_neg q2] at H; exact PL.mk rfl H
    · simp only [if_neg q1, if_pos q2] at H; exact PL.mk rfl H
    · simp only [if_pos q1] at H; exact PL.mk rfl H
theorem sk51 (hw : WF σ) (h2 : aims = nI 2 → GoT σ (oT σ) g) (h3 : ¬ aims = nI 2 → g = nI 0) (H : ∀ M2, YX σ M2 → FrG LSk [] M0 M2 → FdX σ B M2 → K (rsB aims B) M2) : ∀ (L : List (List (Nat × Nat))) (A : Bst) (b : Bool) (i : Nat) (M : Mem), i + L.length ≤ 200000 → ItX σ (oW σ) (List.range (oT σ)) b L M → FrG LSk [] M0 M → FdX σ A M → GvA σ a l aims M → (aims = nI 2 → NrT σ M (oT σ) 0 ∧ PrT σ M (oT σ) 0 0) → (∀ w ∈ L, scV σ aims l w ≤ g) → bstF (scV σ aims l) L A = B → Ex (d + 6) m_Finder_seek bc bs 51 [some (.ref 53), some (.int aims), some a, some (.int g), some (.int (a4 A)), some (.int (a5 A)), some (.int (nI i)), none] [] M (PL K) := by
  have h6 := hw.T6
  have hW := hw.W
  have em : ¬ nI 1000000 ≤ nI 200000 := by decide
  intro L
  induction L with
  | nil =>
    intro A b i M hi h0 hfr hA hga hNP hgo hB
    rw [bst_0] at hB
    subst hB
    have hY := h0.yx.1
    have st := sk116 (d := d) (bc := bc) (bs := bs) (g := g) (l6 := nI i) hga.rn hY.1 (H M hY hfr hA)
    have g69 : Ex (d + 6) m_Finder_seek bc bs 69 [some (.ref 53), some (.int aims), some a, some (.int g), some (.int (a4 A)), some (.int (a5 A)), some (.int (nI i)), none] [] M (PL K) := by
      refine r_seek69 hga.rn hY.1 ?_
      refine sx_next hw hW rg_in rg_T (by rw [rg_len]; omega) h0 (fun _ M2 b2 f2 => ⟨b2.1.1, fun _ => ?_, (fun z => nomatch z)⟩) (fun w L2 M2 hL => by cases hL)
      have hl := hY.1.len
      refine sk116 hga.rn b2.1.1 (H M2 b2.1 (hfr.tr (f2.wk (by unfold LSk; simp) (by simp))) ?_)
      unfold FdX at hA ⊢
      rw [f2.row (j := 53) (by omega) (by decide), f2.row (j := 54) (by omega) (by decide)]
      exact hA
    refine r_seek51 hga.rn hY.1 ⟨fun _ => st, fun _ => ⟨fun _ => g69, fun _ => ⟨fun _ => st, fun _ => g69⟩⟩⟩
  | cons w L ih =>
    intro A b i M hi h0 hfr hA hga hNP hgo hB
    have hY := h0.yx.1
    have hl := hY.1.len
    rw [List.length_cons] at hi
    have g69 : Ex (d + 6) m_Finder_seek bc bs 69 [some (.ref 53), some (.int aims), some a, some (.int g), some (.int (a4 A)), some (.int (a5 A)), some (.int (nI i)), none] [] M (PL K) := by
      refine r_seek69 hga.rn hY.1 ?_
      refine sx_next hw hW rg_in rg_T (by rw [rg_len]; omega) h0 (fun hL => by cases hL) (fun w2 L2 M2 hL i2 f2 hD => ⟨i2.yx.1.1, (fun z => nomatch z), fun _ => ?_⟩)
      injection hL with e1 e2
      subst e1 e2
      obtain ⟨D, eD, hD⟩ := hD
      have hy2 := i2.yx.1
      rw [rg_len] at eD hD
      have hdy : ∀ t, t < oT σ → dyF w t = D t := fun t ht => by
        rw [eD]
        unfold pt
        rw [List.take_of_length_le (by rw [rg_len]; exact Nat.le_refl _)]
        exact dyF_r ht
      have hDy : Dy σ D M2 := fun t ht => by
        have := hD t ht
        rw [rg_at ht] at this
        exact this
      have hga2 := hga.hi (f2.hi rfl rfl)
      have hNP2 : aims = nI 2 → NrT σ M2 (oT σ) 0 ∧ PrT σ M2 (oT σ) 0 0 := NP_c (f2.row (by omega) (by decide)) (f2.row (by omega) (by decide)) hNP
      have hA2 : FdX σ A M2 := by
        unfold FdX at hA ⊢
        rw [f2.row (j := 53) (by omega) (by decide), f2.row (j := 54) (by omega) (by decide)]
        exact hA
      have f02 := hfr.tr (f2.wk (L2 := LSk) (R2 := []) (by unfold LSk; simp) (by simp))
      refine sx_score hw hy2 hga2 hDy hNP2 (fun M3 y3 f3 => ⟨y3.1, ?_⟩)
      have hl2 := hy2.1.len
      have hga3 := hga2.hi (f3.hi rfl rfl)
      have hNP3 : aims = nI 2 → NrT σ M3 (oT σ) 0 ∧ PrT σ M3 (oT σ) 0 0 := NP_c (f3.row (by omega) (by decide)) (f3.row (by omega) (by decide)) hNP2
      have hA3 : FdX σ A M3 := by
        unfold FdX at hA2 ⊢
        rw [f3.row (j := 53) (by omega) (by decide), f3.row (j := 54) (by omega) (by decide)]
        exact hA2
      have i3 := i2.fr hw f3 (by decide)
      have f03 := f02.tr (f3.wk (L2 := LSk) (R2 := []) (by unfold LSk; simp) (by simp))
      have hDy3 : Dy σ D M3 := by
        unfold Dy at hDy ⊢
        rw [f3.row (j := 62) (by omega) (by decide)]
        exact hDy
      have es : scD σ aims l D = scV σ aims l w := (sc_D hdy).symm
      rw [es]
      have keep : bstF (scV σ aims l) L (some (scV σ aims l w, w)) = B → Ex (d + 6) m_Finder_seek bc bs 99 [some (.ref 53), some (.int aims), some a, some (.int g), some (.int (a4 A)), some (.int (a5 A)), some (.int (nI i)), some (.int (scV σ aims l w))] [] M3 (PL K) := fun hB2 => by
        refine r_seek99 hga.rn y3.1 ?_
        refine sx_keepWay hw y3 hDy3 (fun M4 y4 f4 c1 c2 => ⟨y4.1, ?_⟩)
        have hl3 := y3.1.len
        rw [nI_add]
        refine ih (some (scV σ aims l w, w)) true (i + 1) M4 (by omega) (i3.fr hw f4 (by decide)) (f03.tr (f4.wk (by unfold LSk; simp) (by simp))) ⟨c1, fun t ht => by rw [hdy t ht]; exact c2 t ht⟩ (hga3.hi (f4.hi rfl rfl)) (NP_c (f4.row (by omega) (by decide)) (f4.row (by omega) (by decide)) hNP3) (fun x hx => hgo x (List.mem_cons_of_mem _ hx)) hB2
      cases A with
      | none =>
        rw [bst_n] at hB
        exact ⟨fun _ => keep hB, fun q => absurd rfl q⟩
      | some x =>
        obtain ⟨b0, v0⟩ := x
        rw [bst_s] at hB
        refine ⟨fun q => absurd (show nI 1 = 0 from q) (by decide), fun _ => ⟨fun q => ?_, fun q => ?_⟩⟩
        · have q2 : ¬ b0 < scV σ aims l w := by
            rw [i_lt]
            rw [i_le] at q
            have q : (scV σ aims l w).toInt ≤ b0.toInt := q
            omega
          rw [if_neg q2] at hB
          rw [nI_add]
          exact ih (some (b0, v0)) true (i + 1) M3 (by omega) i3 f03 hA3 hga3 hNP3 (fun x hx => hgo x (List.mem_cons_of_mem _ hx)) hB
        · have q2 : b0 < scV σ aims l w := by
            rw [i_lt]
            rw [i_le] at q
            have q : ¬ (scV σ aims l w).toInt ≤ b0.toInt := q
            omega
          rw [if_pos q2] at hB
          exact keep hB
    have e6 : ¬ nI 1000000 ≤ nI i := by rw [nI_leI (by omega) (by omega)]; omega
    refine r_seek51 hga.rn hY.1 ⟨fun q => absurd q e6, fun _ => ⟨fun _ => g69, fun q => ⟨fun q2 => ?_, fun _ => g69⟩⟩⟩
    cases A with
    | none => exact absurd rfl q
    | some x =>
      obtain ⟨b0, v0⟩ := x
      have q2 : g ≤ b0 := q2
      rw [bst_stop (fun x hx => by
        have := hgo x hx
        rw [i_le] at this q2
        rw [i_lt]; omega)] at hB
      subst hB
      exact sk116 hga.rn hY.1 (H M hY hfr hA)
theorem sx_seek {M0 : Mem} (hw : WF σ) (h0 : YX σ M0) (hga : GvA σ a l aims M0) (H : ∀ M2, YX σ M2 → FrG LSk [] M0 M2 → FdX σ (bstF (scV σ aims l) (waysV σ (oW σ)) none) M2 → K (rsB aims (bstF (scV σ aims l) (waysV σ (oW σ)) none)) M2) : Con (d + 6) m_Finder_seek 0 0 [.ref 53, .int aims, a] M0 (PL K) := by
  have h6 := hw.T6
  have hW := hw.W
  have hlen : (waysV σ (oW σ)).length ≤ 200000 := by
    have h1 := exW_len (σ := σ) (W := oW σ) (List.range (oT σ)) []
    have h2 : 7 ^ (List.range (oT σ)).length ≤ 7 ^ 6 := Nat.pow_le_pow_right (by decide) (by rw [rg_len]; exact h6)
    have h3 : (7 : Nat) ^ 6 ≤ 200000 := by decide
    exact Nat.le_trans h1 (Nat.le_trans h2 h3)
  have hgo : ∀ g, (aims = nI 2 → GoT σ (oT σ) g) → (¬ aims = nI 2 → g = nI 0) → ∀ w ∈ waysV σ (oW σ), scV σ aims l w ≤ g := fun g q2 q3 w hm => by
    obtain ⟨z1, z2⟩ := ways_at hm
    have hd : ∀ t, t < oT σ → dyF w t < oW σ := fun t ht => by
      unfold dyF
      rw [List.getD_eq_getElem?_getD, List.getElem?_eq_getElem (by rw [z1]; exact ht)]
      exact z2 _ (List.getElem_mem _)
    have := scD_g (l := l) hw hd q2 q3
    rwa [← sc_D (w := w) (fun t _ => rfl)] at this
  have f1 : FrG LSk [] M0 (wi M0 53 4 (nI 0)) := (FrG.rf _ _).fwi (by decide)
  have y1 : YX σ (wi M0 53 4 (nI 0)) := h0.frk hw ((FrG.rf [53] []).fwi (by simp)) (by decide)
  have run : ∀ M g, YX σ M → FrG LSk [] M0 M → mi M 53 4 = nI 0 → GvA σ a l aims M → (aims = nI 2 → NrT σ M (oT σ) 0 ∧ PrT σ M (oT σ) 0 0) → (aims = nI 2 → GoT σ (oT σ) g) → (¬ aims = nI 2 → g = nI 0) → Con (d + 5) m_Ways_suppose 0 0 [.ref 58, .int (nI (oW σ))] M (PV fun M1 => Fx M1 ∧ Con (d + 5) m_Ways_begin 0 0 [.ref 58, .int (nI 63)] M1 (PV fun M2 => Fx M2 ∧ Ex (d + 6) m_Finder_seek 0 0 51 [some (.ref 53), some (.int aims), some a, some (.int g), some (.int (nI 0)), some (.int (nI 0)), some (.int (nI 0)), none] [] M2 (PL K))) := by
    intro M g hy hf h53 hg hNP q2 q3
    refine sx_suppose hw hW.2 hy (fun M2 y2 f2 n2 => ⟨y2.1, ?_⟩)
    have hl := hy.1.len
    refine sx_start (m := 63) hw (by decide) hW.2 y2 n2 (fun M3 i3 f3 => ⟨i3.yx.1.1, ?_⟩)
    have hl2 := y2.1.len
    rw [(memT_63 (oT σ) (by omega)).1] at i3
    have f13 : FrG LW [] M M3 := (f2.wk (by unfold LW; simp) (by simp)).tr f3
    refine sk51 (g := g) hw q2 q3 H (waysV σ (oW σ)) none false 0 M3 (by omega) i3 (hf.tr (f13.wk (by unfold LW LSk; simp) (by simp))) ?_ (hg.hi (f13.hi rfl rfl)) (NP_c (f13.row (by omega) (by decide)) (f13.row (by omega) (by decide)) hNP) (hgo g q2 q3) rfl
    show mi M3 53 4 = nI 0
    rw [f13.row (j := 53) (by omega) (by decide)]; exact h53
  have hga1 : GvA σ a l aims (wi M0 53 4 (nI 0)) := hga.hi (HiSame.wi (by decide))
  suffices ex : Ex (d + 6) m_Finder_seek 0 0 0 [some (.ref 53), some (.int aims), some a, none, none, none, none, none] [] M0 (PL K) by
    rcases hga.rn with rfl | ⟨p, rfl⟩
    · exact Con.ent (k := 5) F_Finder_seek.1 rfl (Nat.le_of_ble_eq_true rfl) ex
    · exact Con.ent (k := 5) F_Finder_seek.1 rfl (Nat.le_of_ble_eq_true rfl) ex
  refine r_seek0 hga.rn h0.1 ⟨fun q => ?_, fun q => ?_⟩
  · rw [h0.2.1.2.1]
    exact run _ (nI 0) y1 f1 wi_e hga1 (fun z => absurd z q) (fun z => absurd z q) (fun _ => rfl)
  · refine sx_weigh hw y1 (fun M2 v y2 f2 n2 p2 g2 => ⟨y2.1, ?_⟩)
    rw [y2.2.1.2.1]
    have hl1 := y1.1.len
    refine run M2 v y2 (f1.tr (f2.wk (by unfold LG LSk; simp) (by simp))) ?_ (hga1.hi (f2.hi rfl rfl)) (fun _ => ⟨n2, p2⟩) (fun _ => g2) (fun z => absurd q z)
    rw [f2.row (j := 53) (by omega) (by decide)]; exact wi_e
end SEE
theorem XA.foundS {σ : St} {o : Option (List Nat)} {M M2 : Mem} (hw : WF σ) (hx : XA σ M) (f : FrG LSk [] M M2) (hr : XFound (sFo σ o) M2) : SX (sFo σ o) M M2 := by
  obtain ⟨hF, h1, h2, h3, h4, h5, h6, h7, h8⟩ := hx
  have hlen := hF.len
  have n : ∀ j, j < 75 → j < 48 ∨ (50 ≤ j ∧ j < 53) ∨ 63 ≤ j → mi M2 j = mi M j := fun j a b => f.row (by omega) (by unfold LSk; simp; omega)
  have rr : ∀ i, i < 75 → mr M2 i = mr M i := fun i hi => f.rrow (by omega) (by simp)
  have hs := f.hi rfl rfl
  exact ⟨⟨f.fx hF, h1.cg (fun j a b => n j (by omega) (by omega)) hw.T6, h2.cg (by rw [n 0 (by omega) (by omega)]) (fun j a b => n j (by omega) (by omega)), h3.cg (by rw [n 43 (by omega) (by omega)]) (n 44 (by omega) (by omega)), h4.cg hs (by rw [n 46 (by omega) (by omega)]) (rr 47 (by omega)), h5.cg hs (by rw [n 0 (by omega) (by omega)]) (rr 50 (by omega)), hr, h7.cg (by rw [n 63 (by omega) (by omega)]) (n 64 (by omega) (by omega)), h8.cg (fun j a b => n j (by omega) (by omega))⟩, fun _ hm => XA.keepM f rfl rfl hm⟩
theorem FdX.found {σ : St} {B : Bst} {M : Mem} (h : FdX σ B M) (hB : ∀ b w, B = some (b, w) → w ∈ waysV σ (oW σ)) : XFound (sFo σ (foB B)) M := by
  unfold FdX at h
  cases B with
  | none => exact ⟨h, fun t v q => by cases q⟩
  | some x =>
    obtain ⟨b, w⟩ := x
    obtain ⟨z1, z2⟩ := ways_at (hB b w rfl)
    refine ⟨by rw [h.1, ← z1]; rfl, fun t v q => ?_⟩
    have q : (w.map (fun x => x.2))[t]? = some v := q
    have ht := (List.getElem?_eq_some_iff.mp q).1
    rw [h.2 t (by omega)]
    unfold dyF
    rw [List.getD_eq_getElem?_getD, q]
    rfl
theorem fdB_in {σ : St} {aims g b : Int32} {w : List (Nat × Nat)} (h : fdB σ aims g = some (b, w)) : w ∈ waysV σ (oW σ) := by
  rcases bst_in (show bstF _ _ none = some (b, w) from h) with y | y
  · exact y
  · cases y
theorem sX_find {d : Nat} {σ : St} {aims g : Int32} {M : Mem} {K : Int64 → Mem → Prop} (hw : WF σ) (hx : XA σ M) (h : ∀ M2, SX (tFind σ aims g) M M2 → K (pFind σ aims g) M2) : Con (d + 7) m_MD_find 0 0 [.ref 0, .int aims, .int g] M (PL K) := by
  obtain ⟨hF, hL, -, -, hT, hG, -⟩ := id hx
  have h6 := hw.T6
  have e1 : (nI 1).toInt = 1 := rfl
  have e3 : (nI 3).toInt = 3 := rfl
  unfold tFind pFind at h
  have bad : fdOK σ aims g = false → PL K (some (.long (-4611686018427387904))) M := fun q => PL.mk rfl (by
    have := h M (by rw [q, if_neg (by decide)]; exact SX.rf hx)
    rwa [q, if_neg (by decide)] at this)
  have b1 : aims < nI 1 → fdOK σ aims g = false := fun q => by
    unfold fdOK
    rw [i_lt, e1] at q
    rw [isB_f.mpr (by omega), Bool.false_and]
  have b2 : nI 3 < aims → fdOK σ aims g = false := fun q => by
    unfold fdOK
    rw [i_lt, e3] at q
    rw [isB_f.mpr (by omega), Bool.false_and]
  have run : ∀ a, GvA σ a (fdL σ g) aims M → fdOK σ aims g = true → Con (d + 6) m_Finder_seek 0 0 [.ref 53, .int aims, a] M (PL fun r3 M2 => Fx M2 ∧ PL K (some (.long r3)) M2) := fun a ha hok => by
    rw [if_pos hok, if_pos hok] at h
    exact sx_seek hw ⟨hF, hL, hT⟩ ha (fun M2 y2 f2 d2 => ⟨y2.1, PL.mk rfl (h M2 (hx.foundS hw f2 (FdX.found d2 (fun b w q => fdB_in (aims := aims) (g := g) q))))⟩)
  have ok : ¬ aims < nI 1 → ¬ nI 3 < aims → isB 1 3 aims = true := fun q1 q2 => by
    rw [i_lt, e1] at q1
    rw [i_lt, e3] at q2
    exact isB_t.mpr (by omega)
  refine Con.ent (k := 1) F_MD_find.1 rfl (Nat.le_of_ble_eq_true rfl) (k_MD_find_0 hF ?_)
  refine sx_givC hw hF hG (fun q => ⟨hF, fun _ => ⟨fun z => bad (b1 z), fun z1 => ⟨fun z => bad (b2 z), fun z2 => ⟨fun z3 => ?_, fun z3 => bad ?_⟩⟩⟩, (fun _ z => nomatch z)⟩) (fun i gv p e hg q hgx => ⟨hF, (fun z => nomatch z), fun a2 ea => ?_⟩)
  · refine run .null (.inl ⟨rfl, z3⟩) ?_
    unfold fdOK
    rw [ok z1 z2, decide_eq_false z3]; rfl
  · unfold fdOK
    rw [q, decide_eq_true z3]
    cases isB 1 3 aims <;> rfl
  · cases ea
    have ha : GvA σ (.ref p) (fdL σ g) aims M := .inr ⟨p, gv, rfl, by unfold fdL; rw [q], hgx, (hw.gv hg).2⟩
    have hok : ¬ aims < nI 1 → ¬ nI 3 < aims → fdOK σ aims g = true := fun q1 q2 => by
      unfold fdOK
      rw [ok q1 q2, q]
      cases decide (aims = nI 3) <;> rfl
    exact ⟨fun z => bad (b1 z), fun z1 => ⟨fun z => bad (b2 z), fun z2 => ⟨fun _ => run _ ha (hok z1 z2), fun _ => run _ ha (hok z1 z2)⟩⟩⟩
