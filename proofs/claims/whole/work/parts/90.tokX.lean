/-! TEXT: x's tokens -/
def xtk (k v : Nat) : Int32 := if k = 0 then nI 256 else if k = 1 then nI 258 else if k = 2 then -1 - nI v else if k = 3 then nI (259 + v) else if k = 4 then -7 else if k = 5 then -8 else if k = 6 then -14 else if k = 7 then nI 257 else nI k
theorem xtk_1 (v : Nat) : xtk 1 v = nI 258 := rfl
theorem xtk_7 (v : Nat) : xtk 7 v = nI 257 := rfl
def TBx (tp : List Nat) (M : Mem) : Prop := mi M 43 1 = nI tp.length ∧ ∀ i, i < tp.length → mi M 44 i = nI (byt tp i)
def FAx (M0 M : Mem) : Prop := FrG [43] [] M0 M ∧ ∀ k, ¬ (3 ≤ k ∧ k ≤ 6) → mi M 43 k = mi M0 43 k
theorem FAx.rf (M : Mem) : FAx M M := ⟨FrG.rf _ _, fun _ _ => rfl⟩
theorem FAx.w {M0 M : Mem} {k : Nat} {v : Int32} (h : FAx M0 M) (hk : 3 ≤ k ∧ k ≤ 6) : FAx M0 (wi M 43 k v) := ⟨h.1.fwi (by simp), fun j hj => by rw [wi_f (by omega)]; exact h.2 j hj⟩
theorem FAx.tr {M0 M M2 : Mem} (h : FAx M0 M) (g : FAx M M2) : FAx M0 M2 := ⟨h.1.tr g.1, fun k hk => (g.2 k hk).trans (h.2 k hk)⟩
theorem FAx.tb {tp : List Nat} {M0 M : Mem} (h : FAx M0 M) (hF : Fx M0) (t : TBx tp M0) : TBx tp M := ⟨by rw [h.2 1 (by omega)]; exact t.1, fun i hi => by rw [h.1.row (by have := hF.len; omega) (by decide)]; exact t.2 i hi⟩
def CurX (tp : List Nat) (ts : List Tok) (M : Mem) : Prop := ∃ s k v tl, ts = (s, k, v) :: tl ∧ mi M 43 4 = nI s ∧ mi M 43 5 = xtk k v ∧ (k = 1 → mi M 43 6 = nI v) ∧ (k ≠ 0 → ∃ q, mi M 43 3 = nI q ∧ TL tp q tl) ∧ s ≤ tp.length
def ltw (j : Nat) : Nat := [0, 0, 1, 8, 9, 10, 2, 3, 4, 5, 6, 7].getD j 0
theorem lit_w : ∀ j, j < 12 → 1 ≤ j → sLen.getD j 0 = (wordL.getD (ltw j) []).length ∧ (∀ i, i < (wordL.getD (ltw j) []).length → sCh j i = nI ((wordL.getD (ltw j) []).getD i 0)) ∧ (∀ i, i < (wordL.getD (ltw j) []).length → (wordL.getD (ltw j) []).getD i 0 < 256) ∧ (wordL.getD (ltw j) []).length ≤ 5 := by decide +kernel
theorem wd_ne {tp : List Nat} {s c i : Nat} {w : List Nat} (hw : w.length = c) (hi : i < c) (h : ¬ byt tp (s + i) = w.getD i 0) : ¬ w = wdN tp s c := fun e => by
  apply h
  have := wdN_at (tp := tp) (s := s) hi
  rw [← e] at this
  rw [List.getD_eq_getElem?_getD, this]; rfl
theorem wd_eq {tp : List Nat} {s c : Nat} {w : List Nat} (hw : w.length = c) (h : ∀ i, i < c → byt tp (s + i) = w.getD i 0) : w = wdN tp s c := by
  refine List.ext_getElem? (fun i => ?_)
  by_cases q : i < c
  · rw [wdN_at q, h i q, List.getD_eq_getElem?_getD, List.getElem?_eq_getElem (by omega)]; rfl
  · rw [List.getElem?_eq_none_iff.mpr (by omega), List.getElem?_eq_none_iff.mpr (by rw [wdN_l]; omega)]
section TOX
variable {d bc bs : Nat} {tp : List Nat} {M0 : Mem}
theorem sx_isLetter {b : Nat} {M : Mem} {K : Bool → Mem → Prop} (hF : Fx M) (hb : b < 256) (h : K (isLt b) M) : Con (d + 1) m_Tape_isLetter 0 0 [.int (nI b)] M (PB K) := by
  refine Con.of (lo := [some (.int (nI b))]) F_Tape_isLetter.1 rfl (Nat.le_of_ble_eq_true rfl) (k_Tape_isLetter_0 hF ?_)
  unfold isLt at h
  rw [nI_ltI (by omega) (by decide), nI_ltI (by decide) (by omega)]
  refine ⟨fun q => PB.mk ?_ h, fun q => ⟨fun q2 => PB.mk ?_ h, fun q2 => PB.mk ?_ h⟩⟩
  · rw [decide_eq_false (by omega)]
  · rw [decide_eq_false (by omega)]
  · rw [decide_eq_true (by omega)]
theorem sx_isDigit {b : Nat} {M : Mem} {K : Bool → Mem → Prop} (hF : Fx M) (hb : b < 256) (h : K (isDg b) M) : Con (d + 1) m_Tape_isDigit 0 0 [.int (nI b)] M (PB K) := by
  refine Con.of (lo := [some (.int (nI b))]) F_Tape_isDigit.1 rfl (Nat.le_of_ble_eq_true rfl) (k_Tape_isDigit_0 hF ?_)
  unfold isDg at h
  rw [nI_ltI (by omega) (by decide), nI_ltI (by decide) (by omega)]
  refine ⟨fun q => PB.mk ?_ h, fun q => ⟨fun q2 => PB.mk ?_ h, fun q2 => PB.mk ?_ h⟩⟩
  · rw [decide_eq_false (by omega)]
  · rw [decide_eq_false (by omega)]
  · rw [decide_eq_true (by omega)]
theorem sx_isSign {b : Nat} {M : Mem} {K : Bool → Mem → Prop} (hF : Fx M) (hb : b < 256) (h : K (isSg b) M) : Con (d + 1) m_Tape_isSign 0 0 [.int (nI b)] M (PB K) := by
  refine Con.of (lo := [some (.int (nI b))]) F_Tape_isSign.1 rfl (Nat.le_of_ble_eq_true rfl) (k_Tape_isSign_0 hF ?_)
  have g : ∀ {c : Nat}, c < 256 → (nI b = nI c ↔ b = c) := fun {c} hc => nI_eq (by omega) (by omega)
  rw [g (c := 40) (by decide), g (c := 41) (by decide), g (c := 59) (by decide), g (c := 43) (by decide), g (c := 45) (by decide), g (c := 42) (by decide), g (c := 60) (by decide), g (c := 61) (by decide)]
  have t : (b = 40 ∨ b = 41 ∨ b = 59 ∨ b = 43 ∨ b = 45 ∨ b = 42 ∨ b = 60 ∨ b = 61) → PB K (some (.int (b2i true))) M := fun y => PB.mk (by unfold isSg; rw [decide_eq_true y]) h
  exact ⟨fun q => t (by omega), fun q1 => ⟨fun q => t (by omega), fun q2 => ⟨fun q => t (by omega), fun q3 => ⟨fun q => t (by omega), fun q4 => ⟨fun q => t (by omega), fun q5 => ⟨fun q => t (by omega), fun q6 => ⟨fun q => t (by omega), fun q7 => ⟨fun q8 => PB.mk (by unfold isSg; rw [decide_eq_false (by omega)]) h, fun q => t (by omega)⟩⟩⟩⟩⟩⟩⟩⟩
theorem sx_spells {j s c : Nat} {M : Mem} {K : Bool → Mem → Prop} (hb : ∀ i, byt tp i < 256) (hF : Fx M) (ht : TBx tp M) (h160 : tp.length ≤ 160) (hj : j < 12 ∧ 1 ≤ j) (h3 : mi M 43 3 = nI (s + c)) (h4 : mi M 43 4 = nI s) (hn : s + c ≤ tp.length) (h : K (decide (wordL.getD (ltw j) [] = wdN tp s c)) M) : Con (d + 5) m_Tape_spells 0 0 [.ref 43, .ref (1048576 + j)] M (PB K) := by
  obtain ⟨l1, l2, l3, l4⟩ := lit_w j hj.1 hj.2
  refine Con.ent (k := 1) F_Tape_spells.1 rfl (Nat.le_of_ble_eq_true rfl) (k_Tape_spells_0 hF ⟨by omega, ?_⟩)
  refine sp_length hj.1 ⟨hF, ?_⟩
  rw [h3, h4, pk_sub (by omega), Nat.add_sub_cancel_left, l1, nI_eq (by omega) (by omega)]
  refine ⟨fun q => ?_, fun q => PB.mk (Eq.symm (decide_eq_false (fun e => q (by rw [e, wdN_l])))) h⟩
  have go : ∀ (n i : Nat), i + n = c → (∀ x, x < i → byt tp (s + x) = (wordL.getD (ltw j) []).getD x 0) → Ex (d + 5) m_Tape_spells 0 0 20 [some (.ref 43), some (.ref (1048576 + j)), some (.int (nI i))] [] M (PB K) := by
    intro n
    induction n with
    | zero =>
      intro i hi hx
      obtain rfl : i = c := by omega
      refine k_Tape_spells_20 hF ⟨by omega, sp_length hj.1 ⟨hF, fun _ => PB.mk (Eq.symm (decide_eq_true (wd_eq q.symm hx))) h, fun z => absurd ?_ z⟩⟩
      rw [l1, ← q]; exact nI_le (Nat.le_refl _) (by omega)
    | succ n ih =>
      intro i hi hx
      refine k_Tape_spells_20 hF ⟨by omega, sp_length hj.1 ⟨hF, fun z => absurd z ?_, fun _ => ?_⟩⟩
      · rw [l1, nI_leI (by omega) (by omega)]; omega
      · have bi := hb (s + i)
        have li := l3 i (by omega)
        rw [ht.1, h4, nI_add, nI_clamp (by omega), ht.2 (s + i) (by omega)]
        refine ⟨fun z => absurd z (by rw [nI_leI (by omega) (by omega)]; omega), fun _ => ⟨vN (by omega) (by decide), by omega, sp_charAt hj.1 (by omega) ⟨hF, ?_⟩⟩⟩
        rw [l2 i (by omega), nI_eq (by omega) (by omega)]
        refine ⟨fun z => ?_, fun z => PB.mk (Eq.symm (decide_eq_false (wd_ne q.symm (by omega) z))) h⟩
        rw [nI_add]
        refine ih (i + 1) (by omega) (fun x hx2 => ?_)
        by_cases y : x = i
        · rw [y]; exact z
        · exact hx x (by omega)
  exact go c 0 (by omega) (fun x hx => absurd hx (Nat.not_lt_zero _))
def xw (k : Nat) : Int32 := xtk (tkW k).1 (tkW k).2
theorem rdw39 {s c : Nat} {M : Mem} {K : Mem → Prop} (hb : ∀ i, byt tp i < 256) (hF : Fx M) (ht : TBx tp M) (h160 : tp.length ≤ 160) (h3 : mi M 43 3 = nI (s + c)) (h4 : mi M 43 4 = nI s) (hn : s + c ≤ tp.length) (h : K (wi M 43 5 (xw (wix (wdN tp s c))))) : Ex (d + 6) m_Tape_readWord bc bs 39 [some (.ref 43)] [] M (PV K) := by
  have yes : ∀ {j : Nat} {v : Int32}, (j < 12 ∧ 1 ≤ j) → v = xw (ltw j) → decide (wordL.getD (ltw j) [] = wdN tp s c) = true → PV K none (wi M 43 5 v) := fun {j v} hj hv e => by
    have e := of_decide_eq_true e
    have hlt : ∀ j, j < 12 → ltw j < 11 := by decide
    rw [← e, wix_at _ (hlt j hj.1), ← hv] at h
    exact ⟨rfl, h⟩
  have sp : ∀ {j : Nat} {K2 : Bool → Mem → Prop}, (j < 12 ∧ 1 ≤ j) → K2 (decide (wordL.getD (ltw j) [] = wdN tp s c)) M → Con (d + 5) m_Tape_spells 0 0 [.ref 43, .ref (1048576 + j)] M (PB K2) := fun {j K2} hj hk => sx_spells hb hF ht h160 hj h3 h4 hn hk
  refine k_Tape_readWord_39 hF ?_
  refine sp (j := 1) (by decide) ⟨hF, fun n1 => ?_, yes (by decide) rfl⟩
  refine sp (j := 2) (by decide) ⟨hF, fun n2 => ?_, yes (by decide) rfl⟩
  refine sp (j := 3) (by decide) ⟨hF, fun n3 => ?_, yes (by decide) rfl⟩
  refine sp (j := 4) (by decide) ⟨hF, fun n4 => ?_, yes (by decide) rfl⟩
  refine sp (j := 5) (by decide) ⟨hF, fun n5 => ?_, yes (by decide) rfl⟩
  refine sp (j := 6) (by decide) ⟨hF, fun n6 => ?_, yes (by decide) rfl⟩
  refine sp (j := 7) (by decide) ⟨hF, fun n7 => ?_, yes (by decide) rfl⟩
  refine sp (j := 8) (by decide) ⟨hF, fun n8 => ?_, yes (by decide) rfl⟩
  refine sp (j := 9) (by decide) ⟨hF, fun n9 => ?_, yes (by decide) rfl⟩
  refine sp (j := 10) (by decide) ⟨hF, fun n10 => ?_, yes (by decide) rfl⟩
  refine sp (j := 11) (by decide) ⟨hF, fun n11 => ⟨rfl, ?_⟩, yes (by decide) rfl⟩
  rw [wix_of (k := 11) (by decide) (fun j hj => ?_) (.inl rfl)] at h
  · exact h
  · have n1 := of_decide_eq_false n1
    have n2 := of_decide_eq_false n2
    have n3 := of_decide_eq_false n3
    have n4 := of_decide_eq_false n4
    have n5 := of_decide_eq_false n5
    have n6 := of_decide_eq_false n6
    have n7 := of_decide_eq_false n7
    have n8 := of_decide_eq_false n8
    have n9 := of_decide_eq_false n9
    have n10 := of_decide_eq_false n10
    have n11 := of_decide_eq_false n11
    intro z
    rcases (show j = 0 ∨ j = 1 ∨ j = 2 ∨ j = 3 ∨ j = 4 ∨ j = 5 ∨ j = 6 ∨ j = 7 ∨ j = 8 ∨ j = 9 ∨ j = 10 by omega) with e | e | e | e | e | e | e | e | e | e | e <;> subst e <;> injection z with z
    · exact n1 z
    · exact n2 z
    · exact n6 z
    · exact n7 z
    · exact n8 z
    · exact n9 z
    · exact n10 z
    · exact n11 z
    · exact n3 z
    · exact n4 z
    · exact n5 z
theorem rdw0 {s : Nat} {K : Mem → Prop} (hb : ∀ i, byt tp i < 256) (hF0 : Fx M0) (ht : TBx tp M0) (h160 : tp.length ≤ 160) (H : ∀ M2, FAx M0 M2 → mi M2 43 3 = nI (rnE isLt tp s) → mi M2 43 4 = nI s → mi M2 43 5 = xw (wix (wdN tp s (rnE isLt tp s - s))) → K M2) : ∀ (n a : Nat) (M : Mem), a + n = tp.length → s ≤ a → FAx M0 M → mi M 43 3 = nI a → mi M 43 4 = nI s → rnE isLt tp s = rnE isLt tp a → Ex (d + 6) m_Tape_readWord bc bs 0 [some (.ref 43)] [] M (PV K) := by
  have stop : ∀ (a : Nat) (M : Mem), a ≤ tp.length → s ≤ a → FAx M0 M → mi M 43 3 = nI a → mi M 43 4 = nI s → rnE isLt tp s = a → Ex (d + 6) m_Tape_readWord bc bs 39 [some (.ref 43)] [] M (PV K) := by
    intro a M ha hs hf h3 h4 er
    have e : a = s + (a - s) := by omega
    refine rdw39 (s := s) (c := a - s) hb (hf.1.fx hF0) (hf.tb hF0 ht) h160 (by rw [← e]; exact h3) h4 (by omega) (H _ (hf.w (by omega)) (by rw [wi_f (by decide), er]; exact h3) (by rw [wi_f (by decide)]; exact h4) (by rw [wi_e, er]))
  intro n
  induction n with
  | zero =>
    intro a M ha hs hf h3 h4 hr
    have t := hf.tb hF0 ht
    refine k_Tape_readWord_0 (hf.1.fx hF0) ?_
    rw [t.1, h3]
    exact ⟨fun _ => stop a M (by omega) hs hf h3 h4 (by rw [hr]; exact rnE_n (by omega)), fun q => absurd (nI_le (by omega) (by omega)) q⟩
  | succ n ih =>
    intro a M ha hs hf h3 h4 hr
    have t := hf.tb hF0 ht
    have hF := hf.1.fx hF0
    refine k_Tape_readWord_0 hF ?_
    rw [t.1, h3, nI_clamp (by omega), t.2 a (by omega)]
    refine ⟨fun q => absurd q (by rw [nI_leI (by omega) (by omega)]; omega), fun _ => ⟨vN (by omega) (by decide), sx_isLetter hF (hb a) ⟨hF, fun q => ?_, fun q => ?_⟩⟩⟩
    · exact stop a M (by omega) hs hf h3 h4 (by rw [hr]; exact rnE_n (fun z => by rw [q] at z; exact absurd z.2 (by decide)))
    · rw [h3, nI_add]
      exact ih (a + 1) _ (by omega) (by omega) (hf.w (by omega)) wi_e (by rw [wi_f (by decide)]; exact h4) (by rw [hr]; exact rnE_y (by omega) q)
theorem rdn5 {s : Nat} {K : Mem → Prop} (hb : ∀ i, byt tp i < 256) (hF0 : Fx M0) (ht : TBx tp M0) (h160 : tp.length ≤ 160) (H : ∀ M2, FAx M0 M2 → mi M2 43 3 = nI (rnE isDg tp s) → mi M2 43 4 = nI s → mi M2 43 6 = nI (dgN tp s (rnE isDg tp s - s)) → mi M2 43 5 = xtk (if rnE isDg tp s - s ≤ 4 then 1 else 7) 0 → K M2) : ∀ (n c : Nat) (M : Mem), s + c + n = tp.length → FAx M0 M → mi M 43 3 = nI (s + c) → mi M 43 4 = nI s → mi M 43 6 = nI (dgN tp s c) → rnE isDg tp s = rnE isDg tp (s + c) → Ex (d + 2) m_Tape_readNumber bc bs 5 [some (.ref 43)] [] M (PV K) := by
  have stop : ∀ (c : Nat) (M : Mem), s + c ≤ tp.length → FAx M0 M → mi M 43 3 = nI (s + c) → mi M 43 4 = nI s → mi M 43 6 = nI (dgN tp s c) → rnE isDg tp s = s + c → Ex (d + 2) m_Tape_readNumber bc bs 68 [some (.ref 43)] [] M (PV K) := by
    intro c M hc hf h3 h4 h6 er
    have hF := hf.1.fx hF0
    rw [er, Nat.add_sub_cancel_left] at H
    refine k_Tape_readNumber_68 hF ?_
    rw [h3, h4, pk_sub (by omega), Nat.add_sub_cancel_left, nI_leI (by omega) (by decide)]
    refine ⟨fun q => ⟨rfl, H _ (hf.w (by omega)) (by rw [wi_f (by decide)]; exact h3) (by rw [wi_f (by decide)]; exact h4) (by rw [wi_f (by decide)]; exact h6) (by rw [wi_e, if_pos q]; rfl)⟩, fun q => ⟨rfl, H _ (hf.w (by omega)) (by rw [wi_f (by decide)]; exact h3) (by rw [wi_f (by decide)]; exact h4) (by rw [wi_f (by decide)]; exact h6) (by rw [wi_e, if_neg q]; rfl)⟩⟩
  intro n
  induction n with
  | zero =>
    intro c M hc hf h3 h4 h6 hr
    have t := hf.tb hF0 ht
    refine k_Tape_readNumber_5 (hf.1.fx hF0) ?_
    rw [t.1, h3]
    exact ⟨fun _ => stop c M (by omega) hf h3 h4 h6 (by rw [hr]; exact rnE_n (by omega)), fun q => absurd (nI_le (by omega) (by omega)) q⟩
  | succ n ih =>
    intro c M hc hf h3 h4 h6 hr
    have t := hf.tb hF0 ht
    have hF := hf.1.fx hF0
    refine k_Tape_readNumber_5 hF ?_
    rw [t.1, h3, nI_clamp (by omega), t.2 (s + c) (by omega)]
    refine ⟨fun q => absurd q (by rw [nI_leI (by omega) (by omega)]; omega), fun _ => ⟨vN (by omega) (by decide), sx_isDigit hF (hb _) ⟨hF, fun q => ?_, fun q => ?_⟩⟩⟩
    · exact stop c M (by omega) hf h3 h4 h6 (by rw [hr]; exact rnE_n (fun z => by rw [q] at z; exact absurd z.2 (by decide)))
    · have h48 := q
      unfold isDg at h48
      rw [decide_eq_true_eq] at h48
      rw [h3, nI_clamp (by omega), t.2 (s + c) (by omega), h6, pk_mul, nI_add, pk_sub (by omega), nI_add]
      refine ⟨vN (by omega) (by decide), ih (c + 1) _ (by omega) ((hf.w (by omega)).w (by omega)) wi_e (by rw [wi_f (by decide), wi_f (by decide)]; exact h4) ?_ (by rw [hr]; exact rnE_y (by omega) q)⟩
      rw [wi_f (by decide), wi_e]
      congr 1
      show _ = 10 * dgN tp s c + (byt tp (s + c) - 48)
      omega
theorem adv52 {s : Nat} {M : Mem} {ts : List Tok} {K : Mem → Prop} (hb : ∀ i, byt tp i < 256) (hF0 : Fx M0) (ht : TBx tp M0) (h160 : tp.length ≤ 160) (hf : FAx M0 M) (h3 : mi M 43 3 = nI s) (hs : s ≤ tp.length) (hc : (s = tp.length ∧ ts = [(tp.length, 0, 0)]) ∨ (s < tp.length ∧ ∃ tl, ts = (s, (tkA tp s).1) :: tl ∧ TL tp (tkA tp s).2 tl)) (H : ∀ M2, FAx M0 M2 → CurX tp ts M2 → K M2) : Ex (d + 7) m_Tape_advance bc bs 52 [some (.ref 43)] [] M (PV K) := by
  have hF := hf.1.fx hF0
  have t := hf.tb hF0 ht
  refine k_Tape_advance_52 hF ?_
  rw [h3, t.1, nI_ltI (by omega) (by omega), nI_clamp (by omega)]
  have f2 : FAx M0 (wi M 43 4 (nI s)) := hf.w (by omega)
  refine ⟨fun q => ?_, fun q => ⟨rfl, H _ (f2.w (by omega)) ?_⟩⟩
  · obtain ⟨hlt, tl, e, hT⟩ : s < tp.length ∧ ∃ tl, ts = (s, (tkA tp s).1) :: tl ∧ TL tp (tkA tp s).2 tl := by
      rcases hc with z | z
      · omega
      · exact z
    rw [t.2 s hlt]
    have t2 := f2.tb hF0 ht
    have g3 : mi (wi M 43 4 (nI s)) 43 3 = nI s := by rw [wi_f (by decide)]; exact h3
    have g4 : mi (wi M 43 4 (nI s)) 43 4 = nI s := wi_e
    have hF2 : Fx (wi M 43 4 (nI s)) := hF.fwi
    generalize (wi M 43 4 (nI s)) = M2 at *
    have hv : vp_in (nI s) 160 := vN (by omega) (by decide)
    unfold tkA at e hT
    refine ⟨hv, sx_isLetter hF2 (hb s) ⟨hF2, fun q1 => ?_, fun q1 => ?_⟩⟩
    · rw [if_neg (by rw [q1]; decide)] at e hT
      rw [g3, nI_clamp (by omega), t2.2 s hlt]
      refine ⟨hv, sx_isDigit hF2 (hb s) ⟨hF2, fun q2 => ?_, fun q2 => ?_⟩⟩
      · rw [if_neg (by rw [q2]; decide)] at e hT
        have hT : TL tp (s + 1) tl := hT
        have hbs := hb s
        rw [g3, nI_clamp (by omega), t2.2 s hlt]
        refine ⟨hv, sx_isSign hF2 (hb s) ⟨hF2, fun y => ?_, fun y => ?_⟩⟩
        · rw [if_neg (by rw [y]; decide)] at e
          rw [g3, nI_add]
          exact ⟨rfl, H _ ((f2.w (by omega)).w (by omega)) ⟨s, 7, 0, tl, e, by rw [wi_f (by decide), wi_f (by decide)]; exact g4, by rw [wi_f (by decide), wi_e]; rfl, fun z => by omega, fun _ => ⟨s + 1, wi_e, hT⟩, hs⟩⟩
        · rw [if_pos y] at e
          have y2 := (isSg_c _ hbs).mp y
          rw [g3, nI_add, nI_clamp (by omega), t2.2 s hlt]
          refine ⟨hv, rfl, H _ ((f2.w (by omega)).w (by omega)) ⟨s, byt tp s, 0, tl, e, by rw [wi_f (by decide), wi_f (by decide)]; exact g4, ?_, fun z => by omega, fun _ => ⟨s + 1, wi_e, hT⟩, hs⟩⟩
          rw [wi_f (by decide), wi_e]
          unfold xtk
          rw [if_neg (by omega), if_neg (by omega), if_neg (by omega), if_neg (by omega), if_neg (by omega), if_neg (by omega), if_neg (by omega), if_neg (by omega)]
      · rw [if_pos q2] at e hT
        refine Con.of (lo := [some (.ref 43)]) F_Tape_readNumber.1 rfl (Nat.le_of_ble_eq_true rfl) (k_Tape_readNumber_0 hF2 ?_)
        refine rdn5 (s := s) hb hF0 ht h160 (fun M3 f3 a3 a4 a6 a5 => ⟨f3.1.fx hF0, rfl, H M3 f3 ?_⟩) (tp.length - s) 0 _ (by omega) (f2.w (by omega)) (by rw [wi_f (by decide)]; exact g3) (by rw [wi_f (by decide)]; exact g4) wi_e rfl
        refine ⟨s, (if rnE isDg tp s - s ≤ 4 then 1 else 7), dgN tp s (rnE isDg tp s - s), tl, e, a4, ?_, fun _ => a6, fun _ => ⟨_, a3, hT⟩, hs⟩
        rw [a5]
        by_cases y : rnE isDg tp s - s ≤ 4
        · rw [if_pos y, xtk_1, xtk_1]
        · rw [if_neg y, xtk_7, xtk_7]
    · rw [if_pos q1] at e hT
      refine Con.of (lo := [some (.ref 43)]) F_Tape_readWord.1 rfl (Nat.le_of_ble_eq_true rfl) ?_
      refine rdw0 (s := s) hb hF0 ht h160 (fun M3 f3 a3 a4 a5 => ⟨f3.1.fx hF0, rfl, H M3 f3 ?_⟩) (tp.length - s) s M2 (by omega) (Nat.le_refl _) f2 g3 g4 rfl
      have hk := tkW_k (wix_le (l := wdN tp s (rnE isLt tp s - s)))
      exact ⟨s, (tkW (wix (wdN tp s (rnE isLt tp s - s)))).1, (tkW (wix (wdN tp s (rnE isLt tp s - s)))).2, tl, e, a4, a5, fun z => by omega, fun _ => ⟨_, a3, hT⟩, hs⟩
  · rcases hc with z | z
    · exact ⟨tp.length, 0, 0, [], z.2, by rw [wi_f (by decide), wi_e, z.1], by rw [wi_e]; rfl, fun y => by omega, fun y => absurd rfl y, Nat.le_refl _⟩
    · omega
theorem adv0 {p : Nat} {ts : List Tok} {K : Mem → Prop} (hb : ∀ i, byt tp i < 256) (hF0 : Fx M0) (ht : TBx tp M0) (h160 : tp.length ≤ 160) (hT : TL tp p ts) (H : ∀ M2, FAx M0 M2 → CurX tp ts M2 → K M2) : ∀ (n a : Nat) (M : Mem), a + n = tp.length → FAx M0 M → mi M 43 3 = nI a → rnE isBl tp p = rnE isBl tp a → Ex (d + 7) m_Tape_advance bc bs 0 [some (.ref 43)] [] M (PV K) := by
  have stop : ∀ (a : Nat) (M : Mem), a ≤ tp.length → FAx M0 M → mi M 43 3 = nI a → rnE isBl tp p = a → Ex (d + 7) m_Tape_advance bc bs 52 [some (.ref 43)] [] M (PV K) := by
    intro a M ha hf h3 er
    refine adv52 hb hF0 ht h160 hf h3 ha ?_ H
    have := hT.nx
    rw [er] at this
    rcases this with ⟨z1, z2, z3⟩ | ⟨z1, z2, z3, z4⟩
    · exact .inl ⟨z2, z3⟩
    · exact .inr ⟨z1, z4⟩
  intro n
  induction n with
  | zero =>
    intro a M ha hf h3 hr
    have t := hf.tb hF0 ht
    refine k_Tape_advance_0 (hf.1.fx hF0) ?_
    rw [t.1, h3]
    exact ⟨fun _ => stop a M (by omega) hf h3 (by rw [hr]; exact rnE_n (by omega)), fun q => absurd (nI_le (by omega) (by omega)) q⟩
  | succ n ih =>
    intro a M ha hf h3 hr
    have t := hf.tb hF0 ht
    have hF := hf.1.fx hF0
    have hba := hb a
    have step : isBl (byt tp a) = true → Ex (d + 7) m_Tape_advance bc bs 39 [some (.ref 43)] [] M (PV K) := fun y => by
      refine k_Tape_advance_39 hF ?_
      rw [h3, nI_add]
      exact ih (a + 1) _ (by omega) (hf.w (by omega)) wi_e (by rw [hr]; exact rnE_y (by omega) y)
    refine k_Tape_advance_0 hF ?_
    rw [t.1, h3, nI_clamp (by omega), t.2 a (by omega), nI_eq (by omega) (by omega), nI_eq (by omega) (by omega)]
    refine ⟨fun q => absurd q (by rw [nI_leI (by omega) (by omega)]; omega), fun _ => ⟨vN (by omega) (by decide), fun q => step (by unfold isBl; rw [decide_eq_true (.inl q)]), fun q => ⟨vN (by omega) (by decide), fun q2 => stop a M (by omega) hf h3 ?_, fun q2 => step (by unfold isBl; rw [decide_eq_true (.inr q2)])⟩⟩⟩
    rw [hr]
    refine rnE_n (fun z => ?_)
    have := z.2
    unfold isBl at this
    rw [decide_eq_true_eq] at this
    omega
theorem sx_advance {M : Mem} {p : Nat} {ts : List Tok} {K : Mem → Prop} (hb : ∀ i, byt tp i < 256) (hF : Fx M) (ht : TBx tp M) (h160 : tp.length ≤ 160) (h3 : mi M 43 3 = nI p) (hT : TL tp p ts) (H : ∀ M2, FAx M M2 → CurX tp ts M2 → K M2) : Con (d + 7) m_Tape_advance 0 0 [.ref 43] M (PV K) :=
  Con.of (lo := [some (.ref 43)]) F_Tape_advance.1 rfl (Nat.le_of_ble_eq_true rfl) (adv0 hb hF ht h160 hT H (tp.length - p) p M (by have := hT.1; omega) (FAx.rf M) h3 rfl)
end TOX
