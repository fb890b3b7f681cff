/-! ways: x's goer through them, one by one -/
theorem gD {ts : List Nat} {i : Nat} (h : i < ts.length) : ts[i]? = some (ts.getD i 0) := by
  rw [List.getD_eq_getElem?_getD, List.getElem?_eq_getElem h]; rfl
def pt (ts : List Nat) (D : Nat → Nat) (k : Nat) : List (Nat × Nat) := (ts.take k).map (fun t => (t, D t))
theorem pt_0 {ts : List Nat} {D : Nat → Nat} : pt ts D 0 = [] := rfl
theorem pt_s {ts : List Nat} {D : Nat → Nat} {k : Nat} (h : k < ts.length) : pt ts D (k + 1) = pt ts D k ++ [(ts.getD k 0, D (ts.getD k 0))] := by
  unfold pt
  rw [List.take_succ, gD h, List.map_append]
  rfl
theorem dr_s {ts : List Nat} {k : Nat} (h : k < ts.length) : ts.drop k = ts.getD k 0 :: ts.drop (k + 1) := by
  rw [List.drop_eq_getElem_cons h, List.getD_eq_getElem?_getD, List.getElem?_eq_getElem h]; rfl
def incr (ts : List Nat) : Prop := ∀ i j, i < j → j < ts.length → ts.getD i 0 < ts.getD j 0
theorem pt_c {ts : List Nat} {D D2 : Nat → Nat} {k : Nat} (hk : k ≤ ts.length) (h : ∀ i, i < k → D (ts.getD i 0) = D2 (ts.getD i 0)) : pt ts D k = pt ts D2 k := by
  induction k with
  | zero => rfl
  | succ k ih => rw [pt_s (by omega), pt_s (by omega), ih (by omega) (fun i hi => h i (by omega)), h k (by omega)]
theorem pt_u {ts : List Nat} {D : Nat → Nat} {k j d : Nat} (hi : incr ts) (hk : k ≤ j) (hj : j < ts.length) : pt ts (u1 D (ts.getD j 0) d) k = pt ts D k := pt_c (by omega) (fun i h => u1_n (by have := hi i j (by omega) hj; omega))
def lvX (σ : St) (W : Nat) (ts : List Nat) (D U : Nat → Nat) (i : Nat) : List (List (Nat × Nat)) := (upF (U i).testBit 7 0).flatMap (fun d => exW σ W (ts.drop (i + 1)) (pt ts D i ++ [(ts.getD i 0, d)]))
def rsX (σ : St) (W : Nat) (ts : List Nat) (D U : Nat → Nat) : Nat → List (List (Nat × Nat))
  | 0 => []
  | k + 1 => lvX σ W ts D U k ++ rsX σ W ts D U k
theorem rsX_s {σ : St} {W : Nat} {ts : List Nat} {D U : Nat → Nat} {k : Nat} : rsX σ W ts D U (k + 1) = lvX σ W ts D U k ++ rsX σ W ts D U k := rfl
theorem rsX_c {σ : St} {W : Nat} {ts : List Nat} {D D2 U U2 : Nat → Nat} : ∀ {k : Nat}, k ≤ ts.length → (∀ i, i + 1 < k → D (ts.getD i 0) = D2 (ts.getD i 0)) → (∀ i, i < k → U i = U2 i) → rsX σ W ts D U k = rsX σ W ts D2 U2 k
  | 0, _, _, _ => rfl
  | k + 1, hk, hD, hU => by
    rw [rsX_s, rsX_s, rsX_c (k := k) (by omega) (fun i hi => hD i (by omega)) (fun i hi => hU i (by omega))]
    unfold lvX
    rw [hU k (by omega), pt_c (k := k) (by omega) (fun i hi => hD i (by omega))]
def cF : Nat → Nat
  | 0 => 0
  | j + 1 => 7 * (1 + cF j) + 1
theorem cF_s {j : Nat} : cF (j + 1) = 7 * (1 + cF j) + 1 := rfl
def muX (U : Nat → Nat) (N : Nat) : Nat → Nat
  | 0 => 0
  | k + 1 => (upF (U k).testBit 7 0).length * (1 + cF (N - k - 1)) + 1 + muX U N k
theorem muX_s {U : Nat → Nat} {N k : Nat} : muX U N (k + 1) = (upF (U k).testBit 7 0).length * (1 + cF (N - k - 1)) + 1 + muX U N k := rfl
theorem muX_c {U U2 : Nat → Nat} {N : Nat} : ∀ {k : Nat}, (∀ i, i < k → U i = U2 i) → muX U N k = muX U2 N k
  | 0, _ => rfl
  | k + 1, h => by rw [muX_s, muX_s, h k (by omega), muX_c (k := k) (fun i hi => h i (by omega))]
theorem cF_6 : cF 6 = 156864 := by decide
theorem cF_le : ∀ {a b : Nat}, a ≤ b → cF a ≤ cF b
  | 0, _, _ => Nat.zero_le _
  | a + 1, 0, h => by omega
  | a + 1, b + 1, h => by
    have := cF_le (a := a) (b := b) (by omega)
    rw [cF_s, cF_s]; omega
def nmW (σ : St) (W : Nat) : Nat → Nat → Nat
  | 0, _ => 0
  | a + 1, b => if a < b ∧ ¬ nearV σ W a b = 0 then nmW σ W a b ||| 2 ^ a else nmW σ W a b
theorem nmW_s {σ : St} {W a b : Nat} : nmW σ W (a + 1) b = if a < b ∧ ¬ nearV σ W a b = 0 then nmW σ W a b ||| 2 ^ a else nmW σ W a b := rfl
theorem nmW_lt {σ : St} {W : Nat} : ∀ (a b : Nat), nmW σ W a b < 2 ^ a
  | 0, _ => Nat.zero_lt_one
  | a + 1, b => by
    have h1 := nmW_lt (σ := σ) (W := W) a b
    have h2 : 2 ^ (a + 1) = 2 ^ a + 2 ^ a := by rw [Nat.pow_succ]; omega
    rw [nmW_s]
    split
    · exact Nat.or_lt_two_pow (by omega) (by have := Nat.two_pow_pos a; omega)
    · omega
theorem nmW_t {σ : St} {W b x : Nat} : ∀ (a : Nat), (nmW σ W a b).testBit x = decide (x < a ∧ x < b ∧ ¬ nearV σ W x b = 0)
  | 0 => by
    rw [decide_eq_false (by omega)]
    exact Nat.zero_testBit x
  | a + 1 => by
    rw [nmW_s]
    by_cases q : a < b ∧ ¬ nearV σ W a b = 0
    · rw [if_pos q, Nat.testBit_or, nmW_t a, pw_t, ← Bool.decide_or]
      refine decide_eq_decide.mpr ?_
      constructor
      · rintro (⟨h1, h2, h3⟩ | h)
        · exact ⟨by omega, h2, h3⟩
        · subst h; exact ⟨by omega, q⟩
      · rintro ⟨h1, h2, h3⟩
        by_cases y : a = x
        · exact .inr y
        · exact .inl ⟨by omega, h2, h3⟩
    · rw [if_neg q, nmW_t a]
      refine decide_eq_decide.mpr ?_
      constructor
      · rintro ⟨h1, h2, h3⟩; exact ⟨by omega, h2, h3⟩
      · rintro ⟨h1, h2, h3⟩
        by_cases y : x = a
        · subst y; exact absurd ⟨h2, h3⟩ q
        · exact ⟨by omega, h2, h3⟩
def NrX (σ : St) (W : Nat) (M : Mem) : Prop := mi M 58 2 = nI W ∧ ∀ b, b < oT σ → mi M 59 b = nI (nmW σ W (oT σ) b)
/-- x's rows while ways are gone through -/
def YX (σ : St) (M : Mem) : Prop := Fx M ∧ XLand σ M ∧ XText σ M
theorem YX.fr {σ : St} {L : List Nat} {M M2 : Mem} (hw : WF σ) (h : YX σ M) (f : FrG L [] M M2) (hL : L.all sxr = true) : YX σ M2 := ⟨f.fx h.1, h.2.1.fr (f.X hL rfl) h.1 hw.T6, h.2.2.fr (f.X hL rfl) h.1⟩
section SUP
variable {d bc bs W : Nat} {σ : St} {M0 : Mem} {K : Mem → Prop}
theorem sup30 {a : Nat} (hw : WF σ) (hW : W ≤ 7) (ha : a < oT σ) (H : ∀ M2, YX σ M2 → FrG [48, 49, 58, 59] [] M0 M2 → mi M2 58 = mi M0 58 → (∀ y, y < oT σ → mi M2 59 y = nI (nmW σ W (a + 1) y)) → Ex (d + 4) m_Ways_suppose bc bs 15 [some (.ref 58), some (.int (nI W)), some (.int (nI (a + 1))), none] [] M2 (PV K)) (h58 : mi M0 58 2 = nI W) (hl0 : 75 ≤ (sh M0).length) :
    ∀ (n b : Nat) (M : Mem), b + n = oT σ → a < b → YX σ M → FrG [48, 49, 58, 59] [] M0 M → mi M 58 = mi M0 58 → (∀ y, y < oT σ → mi M 59 y = nI (if y < b then nmW σ W (a + 1) y else nmW σ W a y)) → Ex (d + 4) m_Ways_suppose bc bs 30 [some (.ref 58), some (.int (nI W)), some (.int (nI a)), some (.int (nI b))] [] M (PV K) := by
  have h6 := hw.T6
  intro n
  induction n with
  | zero =>
    intro b M hb hab h0 hfr h8 hg
    obtain rfl : b = oT σ := by omega
    refine k_Ways_suppose_30 h0.1 ?_
    rw [h0.2.1.1, nI_add]
    exact ⟨fun _ => H M h0 hfr h8 (fun y hy => by rw [hg y hy, if_pos hy]), fun q => absurd (nI_le (Nat.le_refl _) (by omega)) q⟩
  | succ n ih =>
    intro b M hb hab h0 hfr h8 hg
    obtain ⟨hF, hL, hT⟩ := id h0
    refine k_Ways_suppose_30 hF ?_
    rw [hL.1, h8, h58, nI_add b 1]
    refine ⟨fun q => absurd q (by rw [nI_leI (by omega) (by omega)]; omega), fun _ => ?_⟩
    refine sx_nearSays hF hw hL hT ha (show b < oT σ by omega) (fun M2 hF2 f2 => ?_)
    have hl := hF.len
    have y2 := h0.fr hw f2 rfl
    have e59 : mi M2 59 = mi M 59 := f2.row (by omega) (by decide)
    have e58 : mi M2 58 = mi M 58 := f2.row (by omega) (by decide)
    have step : ∀ M3, YX σ M3 → FrG [48, 49, 58, 59] [] M0 M3 → mi M3 58 = mi M0 58 → mi M3 59 b = nI (nmW σ W (a + 1) b) → (∀ y, y ≠ b → mi M3 59 y = mi M 59 y) → Ex (d + 4) m_Ways_suppose bc bs 30 [some (.ref 58), some (.int (nI W)), some (.int (nI a)), some (.int (nI (b + 1)))] [] M3 (PV K) := by
      intro M3 y3 f3 c3 gb gn
      refine ih (b + 1) M3 (by omega) (by omega) y3 f3 c3 (fun y hy => ?_)
      by_cases z : y = b
      · subst z; rw [gb, if_pos (by omega)]
      · rw [gn y z, hg y hy]
        by_cases c : y < b
        · rw [if_pos c, if_pos (by omega)]
        · rw [if_neg c, if_neg (by omega)]
    refine ⟨hF2, fun q => ?_, fun q => ?_⟩
    · refine step M2 y2 (hfr.tr (f2.wk (by simp) (by simp))) (by rw [e58, h8]) ?_ (fun y _ => by rw [e59])
      rw [e59, hg b (by omega), if_neg (by omega), nmW_s, if_neg (fun w => w.2 q)]
    · have vb := vN (show b < 6 by omega) (by decide)
      have ha2 : 2 ^ a ≤ 2 ^ 5 := Nat.pow_le_pow_right (by decide) (by omega)
      have hlt := nmW_lt (σ := σ) (W := W) a b
      rw [nI_clamp (by omega), e59, hg b (by omega), if_neg (by omega), one_N (by omega), or_N (by omega) (by omega)]
      refine ⟨vb, vb, step _ ⟨hF2.fwi, y2.2.1.cg (fun i h1 h2 => mi_n (by omega)) h6, y2.2.2.cg (HiSame.wi (by omega)) (by rw [mi_n (by decide)]) rfl⟩ ((hfr.tr (f2.wk (by simp) (by simp))).fwi (by simp)) (by rw [mi_n (by decide), e58, h8]) ?_ (fun y hy => by rw [mi_w, u1_n hy, e59])⟩
      rw [mi_w, u1_s, nmW_s, if_pos ⟨by omega, q⟩]
theorem sup15 (hw : WF σ) (hW : W ≤ 7) (h58 : mi M0 58 2 = nI W) (hl0 : 75 ≤ (sh M0).length) (H : ∀ M2, YX σ M2 → FrG [48, 49, 58, 59] [] M0 M2 → mi M2 58 = mi M0 58 → (∀ y, y < oT σ → mi M2 59 y = nI (nmW σ W (oT σ) y)) → K M2) :
    ∀ (n a : Nat) (M : Mem), a + n = oT σ → YX σ M → FrG [48, 49, 58, 59] [] M0 M → mi M 58 = mi M0 58 → (∀ y, y < oT σ → mi M 59 y = nI (nmW σ W a y)) → Ex (d + 4) m_Ways_suppose bc bs 15 [some (.ref 58), some (.int (nI W)), some (.int (nI a)), none] [] M (PV K) := by
  have h6 := hw.T6
  intro n
  induction n with
  | zero =>
    intro a M ha h0 hfr h8 hg
    obtain rfl : a = oT σ := by omega
    refine k_Ways_suppose_15 h0.1 ?_
    rw [h0.2.1.1]
    exact ⟨fun _ => ⟨rfl, H M h0 hfr h8 hg⟩, fun q => absurd (nI_le (Nat.le_refl _) (by omega)) q⟩
  | succ n ih =>
    intro a M ha h0 hfr h8 hg
    refine k_Ways_suppose_15 h0.1 ?_
    rw [h0.2.1.1, nI_add]
    refine ⟨fun q => absurd q (by rw [nI_leI (by omega) (by omega)]; omega), fun _ => ?_⟩
    refine sup30 hw hW (show a < oT σ by omega) (fun M2 y2 f2 c2 g2 => ih (a + 1) M2 (by omega) y2 f2 c2 g2) h58 hl0 (oT σ - (a + 1)) (a + 1) M (by omega) (by omega) h0 hfr h8 (fun y hy => ?_)
    rw [hg y hy]
    split
    · rw [nmW_s, if_neg (by omega)]
    · rfl
theorem sx_suppose {M : Mem} (hw : WF σ) (hW : W ≤ 7) (h0 : YX σ M) (h : ∀ M2, YX σ M2 → FrG [48, 49, 58, 59] [] M M2 → NrX σ W M2 → K M2) : Con (d + 4) m_Ways_suppose 0 0 [.ref 58, .int (nI W)] M (PV K) := by
  obtain ⟨hF, hL, hT⟩ := id h0
  have hlen := hF.len
  refine Con.ent (k := 2) F_Ways_suppose.1 rfl (Nat.le_of_ble_eq_true rfl) (k_Ways_suppose_0 hF ?_)
  refine sx_fill (N := 6) hF.fwi (hF.s rfl) (by decide) (fun M2 hF2 f2 g => ⟨hF2, ?_⟩)
  have f1 : FrG [48, 49, 58, 59] [] M M2 := ((FrG.rf _ _).fwi (by simp)).tr (f2.wk (by simp) (by simp))
  have e58 : mi M2 58 = mi (wi M 58 2 (nI W)) 58 := f2.row (show 58 < (sh M).length by omega) (by decide)
  have e582 : mi M2 58 2 = nI W := by rw [e58]; exact wi_e
  have y2 : YX σ M2 := h0.fr hw f1 rfl
  refine sup15 (M0 := M2) hw hW e582 y2.1.len (fun M3 y3 f3 c3 g3 => h M3 y3 (f1.tr f3) ⟨by rw [c3]; exact e582, g3⟩) (oT σ) 0 M2 (by omega) y2 (FrG.rf _ _) rfl (fun y hy => ?_)
  have := hw.T6
  rw [g y (by omega)]; rfl
end SUP
def PtX (ts : List Nat) (M : Mem) : Prop := mi M 58 5 = nI ts.length ∧ ∀ j, j < ts.length → mi M 60 j = nI (ts.getD j 0)
def memT (T m : Nat) : List Nat := (List.range T).filter (fun t => m.testBit t)
theorem memT_s {T m : Nat} : memT (T + 1) m = memT T m ++ (if m.testBit T = true then [T] else []) := by
  unfold memT
  rw [List.range_succ, List.filter_append]
  congr 1
  rw [List.filter_cons]
  split <;> rfl
theorem memT_lt {T m t : Nat} (h : t ∈ memT T m) : t < T := by
  unfold memT at h
  rw [List.mem_filter, List.mem_range] at h
  exact h.1
theorem memT_len {m : Nat} : ∀ (T : Nat), (memT T m).length ≤ T
  | 0 => Nat.le_refl _
  | T + 1 => by
    have := memT_len (m := m) T
    rw [memT_s, List.length_append]
    split
    · simp; omega
    · simp; omega
theorem gD_app {l r : List Nat} {i : Nat} : (l ++ r).getD i 0 = if i < l.length then l.getD i 0 else r.getD (i - l.length) 0 := by
  rw [List.getD_eq_getElem?_getD, List.getD_eq_getElem?_getD, List.getD_eq_getElem?_getD]
  split
  · rw [List.getElem?_append_left (by assumption)]
  · rw [List.getElem?_append_right (by omega)]
theorem gD_in {l : List Nat} {i : Nat} (h : i < l.length) : l.getD i 0 ∈ l := List.mem_of_getElem? (gD h)
theorem memT_in {m : Nat} : ∀ (T : Nat), incr (memT T m)
  | 0 => fun i j h1 h2 => absurd h2 (Nat.not_lt_zero _)
  | T + 1 => fun i j h1 h2 => by
    rw [memT_s] at h2 ⊢
    rw [List.length_append] at h2
    rw [gD_app, gD_app]
    split at h2
    · rename_i q
      simp only [List.length_cons, List.length_nil] at h2
      by_cases y : j < (memT T m).length
      · rw [if_pos (by omega), if_pos y]; exact memT_in T i j h1 y
      · rw [if_neg y, if_pos (by omega)]
        have := memT_lt (gD_in (show i < (memT T m).length by omega))
        rw [if_pos q, show j - (memT T m).length = 0 by omega]
        exact this
    · simp only [List.length_nil] at h2
      rw [if_pos (by omega), if_pos (by omega)]
      exact memT_in T i j h1 (by omega)
section BEG
variable {d bc bs m : Nat} {σ : St} {M0 : Mem} {K : Mem → Prop}
theorem beg7 (hw : WF σ) (hm : m < 128) (H : ∀ M2, YX σ M2 → FrG [58, 60] [] M0 M2 → (∀ k, k ≠ 5 → k ≠ 8 → mi M2 58 k = mi M0 58 k) → mi M2 58 8 = 0 → PtX (memT (oT σ) m) M2 → K M2) :
    ∀ (n t : Nat) (M : Mem), t + n = oT σ → YX σ M → FrG [58, 60] [] M0 M → (∀ k, k ≠ 5 → k ≠ 8 → mi M 58 k = mi M0 58 k) → PtX (memT t m) M → Ex (d + 2) m_Ways_begin bc bs 7 [some (.ref 58), some (.int (nI m)), some (.int (nI t))] [] M (PV K) := by
  have h6 := hw.T6
  intro n
  induction n with
  | zero =>
    intro t M ht h0 hfr hc hp
    obtain rfl : t = oT σ := by omega
    refine k_Ways_begin_7 h0.1 ?_
    rw [h0.2.1.1]
    refine ⟨fun _ => ⟨rfl, H _ (h0.fr hw ((FrG.rf [58] []).fwi (by simp)) rfl) (hfr.fwi (by simp)) (fun k h5 h8 => by rw [wi_f h8]; exact hc k h5 h8) wi_e ⟨by rw [wi_f (by decide)]; exact hp.1, fun j hj => by rw [mi_n (by decide)]; exact hp.2 j hj⟩⟩, fun q => absurd (nI_le (Nat.le_refl _) (by omega)) q⟩
  | succ n ih =>
    intro t M ht h0 hfr hc hp
    have hl : (memT t m).length ≤ t := memT_len t
    refine k_Ways_begin_7 h0.1 ?_
    rw [h0.2.1.1]
    refine ⟨fun q => absurd q (by rw [nI_leI (by omega) (by omega)]; omega), fun _ => ?_⟩
    refine sx_hasBit h0.1 (by omega) (by omega) ⟨h0.1, fun q => ?_, fun q => ?_⟩ <;> rw [nI_add]
    · refine ih (t + 1) M (by omega) h0 hfr hc ?_
      rw [memT_s, q, if_neg (by decide), List.append_nil]
      exact hp
    · rw [hp.1, nI_add, nI_clamp (by omega)]
      refine ⟨vN (by omega) (by decide), ih (t + 1) _ (by omega) (h0.fr hw (((FrG.rf [58, 60] []).fwi (by simp)).fwi (by simp)) rfl) ((hfr.fwi (by simp)).fwi (by simp)) (fun k h5 h8 => by rw [wi_f h5, mi_n (by decide)]; exact hc k h5 h8) ?_⟩
      rw [memT_s, if_pos q]
      refine ⟨by rw [wi_e, List.length_append]; rfl, fun j hj => ?_⟩
      rw [List.length_append] at hj
      simp only [List.length_cons, List.length_nil] at hj
      rw [mi_n (by decide), mi_w, gD_app]
      by_cases y : j = (memT t m).length
      · subst y
        rw [u1_s, if_neg (by omega), Nat.sub_self]; rfl
      · rw [u1_n y, if_pos (by omega)]
        exact hp.2 j (by omega)
theorem sx_begin {M : Mem} (hw : WF σ) (hm : m < 128) (h0 : YX σ M) (h : ∀ M2, YX σ M2 → FrG [58, 60] [] M M2 → (∀ k, k ≠ 5 → k ≠ 8 → mi M2 58 k = mi M 58 k) → mi M2 58 8 = 0 → PtX (memT (oT σ) m) M2 → K M2) : Con (d + 2) m_Ways_begin 0 0 [.ref 58, .int (nI m)] M (PV K) := by
  refine Con.ent (k := 1) F_Ways_begin.1 rfl (Nat.le_of_ble_eq_true rfl) (k_Ways_begin_0 h0.1 ?_)
  exact beg7 (M0 := M) hw hm h (oT σ) 0 _ (by omega) (h0.fr hw ((FrG.rf [58] []).fwi (by simp)) rfl) ((FrG.rf _ _).fwi (by simp)) (fun k h5 _ => wi_f h5) ⟨wi_e, fun j hj => absurd hj (Nat.not_lt_zero _)⟩
end BEG
