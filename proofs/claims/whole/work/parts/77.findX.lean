/-! find: x's side -/
theorem cnt_pad {p : Nat → Bool} {n : Nat} : ∀ {m : Nat}, n ≤ m → (∀ i, n ≤ i → i < m → p i = false) → cntLT p m = cntLT p n
  | 0, h, _ => by
    obtain rfl : n = 0 := by omega
    rfl
  | m + 1, h, hp => by
    by_cases q : n = m + 1
    · rw [q]
    · rw [cnt_s, hp m (by omega) (by omega), if_neg (by decide)]
      exact cnt_pad (m := m) (by omega) (fun i a b => hp i a (by omega))
theorem cnt_ne {p : Nat → Bool} {t : Nat} (hp : p t = true) : ∀ {n : Nat}, t < n → cntLT p n = cntLT (fun o => decide (o ≠ t) && p o) n + 1
  | 0, h => absurd h (Nat.not_lt_zero _)
  | n + 1, h => by
    rw [cnt_s, cnt_s]
    by_cases q : n = t
    · subst q
      rw [if_pos hp, decide_eq_false (by omega), Bool.false_and, if_neg (by decide)]
      rw [cnt_c (p := fun o => decide (o ≠ n) && p o) (q := p) (fun i hi => by rw [decide_eq_true (show i ≠ n by omega), Bool.true_and])]
    · have := cnt_ne hp (n := n) (by omega)
      rw [decide_eq_true q, Bool.true_and]
      split <;> omega
theorem sum_b {g : Nat → Int32} (h : ∀ i, -999 ≤ (g i).toInt ∧ (g i).toInt ≤ 999) : ∀ (n : Nat), n ≤ 6 → -999 * (n : Int) ≤ (sumI (fun _ => true) g n).toInt ∧ (sumI (fun _ => true) g n).toInt ≤ 999 * (n : Int)
  | 0, _ => by
    show -999 * (0 : Int) ≤ (sumI (fun _ => true) g 0).toInt ∧ _
    rw [show sumI (fun _ => true) g 0 = 0 from rfl, i_0]
    exact ⟨by omega, by omega⟩
  | n + 1, hn => by
    obtain ⟨a, b⟩ := sum_b h n (by omega)
    obtain ⟨c, e⟩ := h n
    rw [sum_s, if_pos rfl, add_T (by omega) (by omega) (by omega) (by omega)]
    constructor <;> omega
def VW (σ : St) (t : Nat) (v : Int32) : Prop := ∃ e o r, e < oW σ ∧ o < oT σ ∧ (r = 6 ∨ r < oT σ) ∧ v = worthV σ t e (hTo σ t r) o
def GoT (σ : St) (t : Nat) (v : Int32) : Prop := ∀ g : Nat → Int32, (∀ i, i < t → VW σ i (g i)) → (sumI (fun _ => true) g t).toInt ≤ v.toInt
def PrT (σ : St) (M : Mem) (t e o : Nat) : Prop := ∀ x y z, x < oT σ → y < oW σ → z < oT σ → (x < t ∨ (x = t ∧ (y < e ∨ (y = e ∧ z < o)))) → TwD σ M x y z
def NrT (σ : St) (M : Mem) (t s : Nat) : Prop := ∀ x y, x < oT σ → y < 2 ^ oT σ → (x < t ∨ (x = t ∧ y < s)) → mi M 56 (64 * x + y) = nI (nrV σ x y (oT σ))
def MxT (σ : St) (t e o : Nat) (v : Int32) : Prop := ∀ y z r, y < oW σ → z < oT σ → (y < e ∨ (y = e ∧ z < o)) → (r = 6 ∨ r < oT σ) → (worthV σ t y (hTo σ t r) z).toInt ≤ v.toInt
def LG : List Nat := [48, 49, 55, 56]
section WEG
variable {d bc bs : Nat} {σ : St} {M0 : Mem} {K : Int32 → Mem → Prop}
theorem wei75 {t e : Nat} {g : Int32} (hw : WF σ) (ht : t < oT σ) (he : e < oW σ) (H : ∀ M2 v, YX σ M2 → FrG LG [] M0 M2 → NrT σ M2 (t + 1) 0 → PrT σ M2 t (e + 1) 0 → MxT σ t (e + 1) 0 v → -999 ≤ v.toInt → v.toInt ≤ 999 → Ex (d + 5) m_Finder_weigh bc bs 60 [some (.ref 53), some (.int g), some (.int (nI t)), some (.int v), some (.int (nI (e + 1))), none] [] M2 (PI K)) :
    ∀ (n o : Nat) (v : Int32) (M : Mem), o + n = oT σ → YX σ M → FrG LG [] M0 M → NrT σ M (t + 1) 0 → PrT σ M t e o → MxT σ t e o v → -999 ≤ v.toInt → v.toInt ≤ 999 → Ex (d + 5) m_Finder_weigh bc bs 75 [some (.ref 53), some (.int g), some (.int (nI t)), some (.int v), some (.int (nI e)), some (.int (nI o))] [] M (PI K) := by
  have h6 := hw.T6
  have hW := hw.W
  intro n
  induction n with
  | zero =>
    intro o v M ho h0 hfr hN hP hM v1 v2
    obtain rfl : o = oT σ := by omega
    refine k_Finder_weigh_75 h0.1 ?_
    rw [h0.2.1.1, nI_add]
    exact ⟨fun _ => H M v h0 hfr hN (fun x y z a b c q => hP x y z a b c (by omega)) (fun y z r a b q c => hM y z r a b (by omega) c) v1 v2, fun q => absurd (nI_le (Nat.le_refl _) (by omega)) q⟩
  | succ n ih =>
    intro o v M ho h0 hfr hN hP hM v1 v2
    refine k_Finder_weigh_75 h0.1 ?_
    rw [h0.2.1.1, nI_add o 1]
    refine ⟨fun q => absurd q (by rw [nI_leI (by omega) (by omega)]; omega), fun _ => ?_⟩
    refine sx_weighDay (o := o) hw h0 ht (show e < 7 by omega) (by omega) (fun M2 v3 y2 f2 hoth hT2 w1 w2 w3 => ⟨y2.1, ?_⟩)
    have hl := h0.1.len
    have e56 : mi M2 56 = mi M 56 := f2.row (by omega) (by decide)
    have hmx : (if v < v3 then v3 else v).toInt = max v.toInt v3.toInt := by
      split
      · rename_i q; rw [i_lt] at q; omega
      · rename_i q; rw [i_lt] at q; omega
    refine ih (o + 1) (if v < v3 then v3 else v) M2 (by omega) y2 (hfr.tr (f2.wk (by unfold LG; simp) (by simp))) (fun x y a b c => by rw [e56]; exact hN x y a b c) (fun x y z a b c q => ?_) (fun y z r a b q c => ?_) (by rw [hmx]; omega) (by rw [hmx]; omega)
    · by_cases w : x = t ∧ y = e ∧ z = o
      · obtain ⟨rfl, rfl, rfl⟩ := w; exact hT2
      · intro r hr
        rw [hoth _ (fun r2 hr2 e2 => w (by
          have := wpN_inj (by omega) (by omega) (by omega) (by omega) (by omega) hr2 e2
          exact ⟨this.1, this.2.1, this.2.2.1⟩))]
        exact hP x y z a b c (by omega) r hr
    · rw [hmx]
      by_cases w : y = e ∧ z = o
      · obtain ⟨rfl, rfl⟩ := w
        have := w3 r c; omega
      · have := hM y z r a b (by omega) c; omega
theorem wei60 {t : Nat} {g : Int32} (hw : WF σ) (ht : t < oT σ) (H : ∀ M2 v, YX σ M2 → FrG LG [] M0 M2 → NrT σ M2 (t + 1) 0 → PrT σ M2 (t + 1) 0 0 → MxT σ t (oW σ) 0 v → -999 ≤ v.toInt → v.toInt ≤ 999 → Ex (d + 5) m_Finder_weigh bc bs 4 [some (.ref 53), some (.int (g + v)), some (.int (nI (t + 1))), none, none, none] [] M2 (PI K)) :
    ∀ (n e : Nat) (v : Int32) (M : Mem), e + n = oW σ → YX σ M → FrG LG [] M0 M → NrT σ M (t + 1) 0 → PrT σ M t e 0 → MxT σ t e 0 v → -999 ≤ v.toInt → v.toInt ≤ 999 → Ex (d + 5) m_Finder_weigh bc bs 60 [some (.ref 53), some (.int g), some (.int (nI t)), some (.int v), some (.int (nI e)), none] [] M (PI K) := by
  have h6 := hw.T6
  have hW := hw.W
  intro n
  induction n with
  | zero =>
    intro e v M he h0 hfr hN hP hM v1 v2
    obtain rfl : e = oW σ := by omega
    refine k_Finder_weigh_60 h0.1 ?_
    rw [h0.2.1.2.1, nI_add]
    exact ⟨fun _ => H M v h0 hfr hN (fun x y z a b c q => hP x y z a b c (by omega)) hM v1 v2, fun q => absurd (nI_le (Nat.le_refl _) (by omega)) q⟩
  | succ n ih =>
    intro e v M he h0 hfr hN hP hM v1 v2
    refine k_Finder_weigh_60 h0.1 ?_
    rw [h0.2.1.2.1]
    refine ⟨fun q => absurd q (by rw [nI_leI (by omega) (by omega)]; omega), fun _ => ?_⟩
    exact wei75 hw ht (show e < oW σ by omega) (fun M2 v2 y2 f2 a1 a2 a3 a4 a5 => ih (e + 1) v2 M2 (by omega) y2 f2 a1 a2 a3 a4 a5) (oT σ) 0 v M (by omega) h0 hfr hN hP hM v1 v2
theorem wei17 {t : Nat} {g : Int32} (hw : WF σ) (ht : t < oT σ) (H : ∀ M2 v, YX σ M2 → FrG LG [] M0 M2 → NrT σ M2 (t + 1) 0 → PrT σ M2 (t + 1) 0 0 → MxT σ t (oW σ) 0 v → -999 ≤ v.toInt → v.toInt ≤ 999 → Ex (d + 5) m_Finder_weigh bc bs 4 [some (.ref 53), some (.int (g + v)), some (.int (nI (t + 1))), none, none, none] [] M2 (PI K)) :
    ∀ (n s : Nat) (M : Mem), s + n = 2 ^ oT σ → YX σ M → FrG LG [] M0 M → NrT σ M t s → PrT σ M t 0 0 → Ex (d + 5) m_Finder_weigh bc bs 17 [some (.ref 53), some (.int g), some (.int (nI t)), some (.int (nI s)), none, none] [] M (PI K) := by
  have h6 := hw.T6
  have h64 := p2_64 h6
  intro n
  induction n with
  | zero =>
    intro s M hs h0 hfr hN hP
    refine k_Finder_weigh_17 h0.1 ?_
    rw [h0.2.1.1, one_N (by omega)]
    refine ⟨fun _ => ?_, fun q => absurd (nI_le (by omega) (by omega)) q⟩
    exact wei60 hw ht H (oW σ) 0 (-999) M (by omega) h0 hfr (fun x y a b c => hN x y a b (by omega)) hP (fun y z r a b q c => by omega) (by decide) (by decide)
  | succ n ih =>
    intro s M hs h0 hfr hN hP
    refine k_Finder_weigh_17 h0.1 ?_
    rw [h0.2.1.1, one_N (by omega), nI_add, shl6 t (by omega) s (by omega), nI_clamp (by omega)]
    refine ⟨fun q => absurd q (by rw [nI_leI (by omega) (by omega)]; omega), fun _ => ?_⟩
    refine sx_nearestOf hw h0 ht (by omega) ⟨h0.1, vN (by omega) (by decide), ih (s + 1) _ (by omega) (h0.frk hw ((FrG.rf [56] []).fwi (by simp)) (by decide)) (hfr.fwi (by decide)) (fun x y a b c => ?_) (fun x y z a b c q r hr => by rw [mi_n (by decide)]; exact hP x y z a b c q r hr)⟩
    rw [mi_w]
    by_cases w : 64 * x + y = 64 * t + s
    · obtain ⟨rfl, rfl⟩ : x = t ∧ y = s := ⟨by omega, by omega⟩
      rw [u1_s]
    · rw [u1_n w]; exact hN x y a b (by omega)
theorem wei4 (hw : WF σ) (H : ∀ M2 v, YX σ M2 → FrG LG [] M0 M2 → NrT σ M2 (oT σ) 0 → PrT σ M2 (oT σ) 0 0 → GoT σ (oT σ) v → K v M2) : ∀ (n t : Nat) (g : Int32) (M : Mem), t + n = oT σ → YX σ M → FrG LG [] M0 M → NrT σ M t 0 → PrT σ M t 0 0 → GoT σ t g → -999 * (t : Int) ≤ g.toInt → g.toInt ≤ 999 * (t : Int) → Ex (d + 5) m_Finder_weigh bc bs 4 [some (.ref 53), some (.int g), some (.int (nI t)), none, none, none] [] M (PI K) := by
  have h6 := hw.T6
  have h64 := p2_64 h6
  intro n
  induction n with
  | zero =>
    intro t g M ht h0 hfr hN hP hG g1 g2
    obtain rfl : t = oT σ := by omega
    refine k_Finder_weigh_4 h0.1 ?_
    rw [h0.2.1.1]
    exact ⟨fun _ => PI.mk rfl (H M g h0 hfr hN hP hG), fun q => absurd (nI_le (Nat.le_refl _) (by omega)) q⟩
  | succ n ih =>
    intro t g M ht h0 hfr hN hP hG g1 g2
    refine k_Finder_weigh_4 h0.1 ?_
    rw [h0.2.1.1]
    refine ⟨fun q => absurd q (by rw [nI_leI (by omega) (by omega)]; omega), fun _ => ?_⟩
    refine wei17 hw (show t < oT σ by omega) (fun M2 v y2 f2 n2 p2 m2 v1 v2 => ?_) (2 ^ oT σ) 0 M (by omega) h0 hfr hN hP
    have ea : (g + v).toInt = g.toInt + v.toInt := add_T (by omega) (by omega) (by omega) (by omega)
    refine ih (t + 1) (g + v) M2 (by omega) y2 f2 n2 p2 (fun f hf => ?_) (by rw [ea]; omega) (by rw [ea]; omega)
    have hb : ∀ i, i < t + 1 → -999 ≤ (f i).toInt ∧ (f i).toInt ≤ 999 := fun i hi => by
      obtain ⟨e, o, r, -, -, -, q⟩ := hf i hi
      rw [q]; exact worth_r
    have e1 : sumI (fun _ => true) f t = sumI (fun _ => true) (fun i => if i < t then f i else 0) t := sum_c (fun i hi => ⟨rfl, by rw [if_pos hi]⟩)
    obtain ⟨s1, s2⟩ := sum_b (g := fun i => if i < t then f i else 0) (fun i => by
      by_cases y : i < t
      · rw [if_pos y]; exact hb i (by omega)
      · rw [if_neg y, i_0]; omega) t (by omega)
    rw [← e1] at s1 s2
    have h1 := hG f (fun i hi => hf i (by omega))
    obtain ⟨b1, b2⟩ := hb t (by omega)
    rw [sum_s, if_pos rfl, add_T (by omega) (by omega) (by omega) (by omega), ea]
    obtain ⟨e, o, r, a1, a2, a3, q⟩ := hf t (by omega)
    have := m2 e o r a1 a2 (by omega) a3
    rw [← q] at this
    omega
theorem sx_weigh (hw : WF σ) (h0 : YX σ M0) (H : ∀ M2 v, YX σ M2 → FrG LG [] M0 M2 → NrT σ M2 (oT σ) 0 → PrT σ M2 (oT σ) 0 0 → GoT σ (oT σ) v → K v M2) : Con (d + 5) m_Finder_weigh 0 0 [.ref 53] M0 (PI K) := by
  refine Con.ent (k := 5) F_Finder_weigh.1 rfl (Nat.le_of_ble_eq_true rfl) (k_Finder_weigh_0 h0.1 ?_)
  exact wei4 hw H (oT σ) 0 (nI 0) M0 (by omega) h0 (FrG.rf _ _) (fun x y a b c => by omega) (fun x y z a b c q => by omega) (fun f hf => by show (sumI (fun _ => true) f 0).toInt ≤ _; exact Int.le_refl _) (by decide) (by decide)
end WEG
def thV (D : Nat → Nat) : Nat → Nat → Nat
  | 0, _ => 0
  | k + 1, e => if D k = e then thV D k e ||| 2 ^ k else thV D k e
theorem thV_s {D : Nat → Nat} {k e : Nat} : thV D (k + 1) e = if D k = e then thV D k e ||| 2 ^ k else thV D k e := rfl
theorem thV_lt {D : Nat → Nat} : ∀ (k e : Nat), thV D k e < 2 ^ k
  | 0, _ => Nat.zero_lt_one
  | k + 1, e => by
    have h1 := thV_lt (D := D) k e
    have h2 : 2 ^ (k + 1) = 2 ^ k + 2 ^ k := by rw [Nat.pow_succ]; omega
    rw [thV_s]
    split
    · exact Nat.or_lt_two_pow (by omega) (by have := Nat.two_pow_pos k; omega)
    · omega
theorem thV_t {D : Nat → Nat} {e x : Nat} : ∀ (k : Nat), (thV D k e).testBit x = decide (x < k ∧ D x = e)
  | 0 => by
    rw [decide_eq_false (by omega)]
    exact Nat.zero_testBit x
  | k + 1 => by
    rw [thV_s]
    by_cases q : D k = e
    · rw [if_pos q, Nat.testBit_or, thV_t k, pw_t, ← Bool.decide_or]
      refine decide_eq_decide.mpr ?_
      constructor
      · rintro (⟨h1, h2⟩ | h)
        · exact ⟨by omega, h2⟩
        · subst h; exact ⟨by omega, q⟩
      · rintro ⟨h1, h2⟩
        by_cases y : k = x
        · exact .inr y
        · exact .inl ⟨by omega, h2⟩
    · rw [if_neg q, thV_t k]
      refine decide_eq_decide.mpr ?_
      constructor
      · rintro ⟨h1, h2⟩; exact ⟨by omega, h2⟩
      · rintro ⟨h1, h2⟩
        by_cases y : x = k
        · subst y; exact absurd h2 q
        · exact ⟨by omega, h2⟩
def Dy (σ : St) (D : Nat → Nat) (M : Mem) : Prop := ∀ t, t < oT σ → mi M 62 t = nI (D t) ∧ D t < oW σ
section WOW
variable {d bc bs : Nat} {σ : St} {D : Nat → Nat} {M0 : Mem} {K : Int32 → Mem → Prop}
theorem wow51 (hw : WF σ) (h0 : YX σ M0) (hN : NrT σ M0 (oT σ) 0) (hP : PrT σ M0 (oT σ) 0 0) (hD : Dy σ D M0) (h57 : ∀ e, e < 7 → mi M0 57 e = nI (thV D (oT σ) e)) (H : K (wwV σ D) M0) : ∀ (n t : Nat), t + n = oT σ → Ex (d + 2) m_Finder_worthOfWay bc bs 51 [some (.ref 53), some (.int (sumI (fun _ => true) (fun t => worthV σ t (D t) (hwV σ D t) (owV σ D t)) t)), some (.int (nI t)), none, none, none] [] M0 (PI K) := by
  have h6 := hw.T6
  have hW := hw.W
  have h64 := p2_64 h6
  intro n
  induction n with
  | zero =>
    intro t ht
    obtain rfl : t = oT σ := by omega
    refine k_Finder_worthOfWay_51 h0.1 ?_
    rw [h0.2.1.1]
    exact ⟨fun _ => PI.mk rfl H, fun q => absurd (nI_le (Nat.le_refl _) (by omega)) q⟩
  | succ n ih =>
    intro t ht
    have htT : t < oT σ := by omega
    obtain ⟨d1, d2⟩ := hD t htT
    have l1 := thV_lt (D := D) (oT σ) (D t)
    have l2 := thV_lt (D := D) (oT σ) (dB (oW σ) (D t))
    have hb := dB_lt (W := oW σ) (d := D t) (by omega)
    have ec : cntLT (thV D (oT σ) (D t)).testBit 7 = owV σ D t + 1 := by
      rw [cnt_pad (n := oT σ) (by omega) (fun i a b => by rw [thV_t, decide_eq_false (by omega)])]
      rw [cnt_ne (t := t) (by rw [thV_t, decide_eq_true ⟨htT, rfl⟩]) htT]
      unfold owV
      congr 1
      exact cnt_c (fun i hi => by rw [thV_t]; congr 1; exact decide_eq_decide.mpr ⟨fun w => w.2, fun w => ⟨hi, w⟩⟩)
    have ho : owV σ D t < oT σ := by
      have h1 : cntLT (fun o => decide (D o = D t)) (oT σ) ≤ oT σ := cnt_le _ _
      rw [cnt_ne (p := fun o => decide (D o = D t)) (t := t) (decide_eq_true rfl) htT] at h1
      unfold owV
      omega
    obtain ⟨r1, r2⟩ := nrV_ok (σ := σ) (t := t) (s := thV D (oT σ) (dB (oW σ) (D t))) (oT σ) h6
    have eh : hTo σ t (nrV σ t (thV D (oT σ) (dB (oW σ) (D t))) (oT σ)) = hwV σ D t := by
      rw [r2]
      unfold hwV
      exact min_c (fun i hi => ⟨by rw [thV_t]; congr 1; exact decide_eq_decide.mpr ⟨fun w => w.2, fun w => ⟨hi, w⟩⟩, rfl⟩)
    refine k_Finder_worthOfWay_51 h0.1 ?_
    rw [h0.2.1.1, nI_clamp (show t < 2 ^ 31 by omega), d1, nI_clamp (show D t < 2 ^ 31 by omega), h57 _ (by omega)]
    refine ⟨fun q => absurd q (by rw [nI_leI (by omega) (by omega)]; omega), fun _ => ⟨vN (by omega) (by decide), vN (by omega) (by decide), ?_⟩⟩
    refine sx_bitCount h0.1 (by omega) ⟨h0.1, ?_⟩
    rw [h0.2.1.2.1, ec, nI_sub1 (by omega), Nat.add_sub_cancel]
    refine sx_dayBefore h0.1 d2 (by omega) ⟨h0.1, vN (by omega) (by decide), ?_⟩
    rw [nI_clamp (show dB (oW σ) (D t) < 2 ^ 31 by omega), h57 _ (by omega), shl6 t (by omega) _ (by omega), nI_clamp (by omega), hN t _ htT l2 (.inl htT)]
    refine ⟨vN (by omega) (by decide), sx_place h0.1 ⟨h0.1, ?_⟩⟩
    have hlt := wpN_lt (t := t) (e := D t) (o := owV σ D t) (r := nrV σ t (thV D (oT σ) (dB (oW σ) (D t))) (oT σ)) (by omega) (by omega) (by omega) (by omega)
    rw [nI_clamp (by omega), hP t (D t) (owV σ D t) htT d2 ho (.inl htT) _ r1, eh, nI_add]
    refine ⟨vN hlt (by decide), ?_⟩
    have := ih (t + 1) (by omega)
    rw [sum_s, if_pos rfl] at this
    exact this
theorem wow10 (hw : WF σ) (hD : Dy σ D M0) (hl0 : 75 ≤ (sh M0).length) (H : ∀ M2, YX σ M2 → FrG [57] [] M0 M2 → (∀ e, e < 7 → mi M2 57 e = nI (thV D (oT σ) e)) → Ex (d + 2) m_Finder_worthOfWay bc bs 51 [some (.ref 53), some (.int (nI 0)), some (.int (nI 0)), none, none, none] [] M2 (PI K)) : ∀ (n t : Nat) (M : Mem), t + n = oT σ → YX σ M → FrG [57] [] M0 M → (∀ e, e < 7 → mi M 57 e = nI (thV D t e)) → Ex (d + 2) m_Finder_worthOfWay bc bs 10 [some (.ref 53), some (.int (nI t)), none, none, none, none] [] M (PI K) := by
  have h6 := hw.T6
  have hW := hw.W
  intro n
  induction n with
  | zero =>
    intro t M ht h0 hfr h57
    obtain rfl : t = oT σ := by omega
    refine k_Finder_worthOfWay_10 h0.1 ?_
    rw [h0.2.1.1]
    exact ⟨fun _ => H M h0 hfr h57, fun q => absurd (nI_le (Nat.le_refl _) (by omega)) q⟩
  | succ n ih =>
    intro t M ht h0 hfr h57
    obtain ⟨d1, d2⟩ := hD t (by omega)
    have l1 := thV_lt (D := D) t (D t)
    have p5 : 2 ^ t ≤ 2 ^ 5 := Nat.pow_le_pow_right (by decide) (by omega)
    refine k_Finder_worthOfWay_10 h0.1 ?_
    rw [h0.2.1.1, nI_clamp (show t < 2 ^ 31 by omega), hfr.row (j := 62) (by omega) (by decide), d1, nI_clamp (show D t < 2 ^ 31 by omega), h57 _ (by omega), one_N (by omega), or_N (by omega) (by omega), nI_add]
    refine ⟨fun q => absurd q (by rw [nI_leI (by omega) (by omega)]; omega), fun _ => ⟨vN (by omega) (by decide), vN (by omega) (by decide), vN (by omega) (by decide), ih (t + 1) _ (by omega) (h0.frk hw ((FrG.rf [57] []).fwi (by simp)) (by decide)) (hfr.fwi (by simp)) (fun e he => ?_)⟩⟩
    rw [mi_w, thV_s]
    by_cases y : e = D t
    · subst y; rw [u1_s, if_pos rfl]
    · rw [u1_n y, if_neg (fun w => y w.symm)]; exact h57 e he
theorem sx_worthOfWay (hw : WF σ) (h0 : YX σ M0) (hN : NrT σ M0 (oT σ) 0) (hP : PrT σ M0 (oT σ) 0 0) (hD : Dy σ D M0) (H : ∀ M2, YX σ M2 → FrG [57] [] M0 M2 → K (wwV σ D) M2) : Con (d + 2) m_Finder_worthOfWay 0 0 [.ref 53] M0 (PI K) := by
  have hl := h0.1.len
  refine Con.ent (k := 5) F_Finder_worthOfWay.1 rfl (Nat.le_of_ble_eq_true rfl) (k_Finder_worthOfWay_0 h0.1 ?_)
  refine sx_fill (N := 7) h0.1 (h0.1.s rfl) (by decide) (fun M1 hF1 f1 g => ⟨hF1, ?_⟩)
  refine wow10 hw hD hl (fun M2 y2 f2 h57 => ?_) (oT σ) 0 M1 (by omega) (h0.frk hw f1 (by decide)) f1 (fun e he => g e he)
  have e55 : mi M2 55 = mi M0 55 := f2.row (by omega) (by decide)
  have e56 : mi M2 56 = mi M0 56 := f2.row (by omega) (by decide)
  have e62 : mi M2 62 = mi M0 62 := f2.row (by omega) (by decide)
  exact wow51 hw y2 (fun x y a b c => by rw [e56]; exact hN x y a b c) (fun x y z a b c q r hr => by rw [e55]; exact hP x y z a b c q r hr) (fun t ht => by rw [e62]; exact hD t ht) h57 (H M2 y2 f2) (oT σ) 0 (by omega)
theorem oth4 {p : Nat} {gv : Nat × List Nat} (hw : WF σ) (h0 : YX σ M0) (hg : GivX M0 p gv) (hgw : GivW (oT σ) gv) (hD : Dy σ D M0) (H : K (nI (otN σ gv.2 D)) M0) : ∀ (n t : Nat), t + n = oT σ → Ex (d + 2) m_Finder_otherNumbers bc bs 4 [some (.ref 53), some (.ref p), some (.int (nI (cntLT (fun t => !decide (numV gv.2 t = nI (D t))) t))), some (.int (nI t))] [] M0 (PI K) := by
  have h6 := hw.T6
  have hW := hw.W
  intro n
  induction n with
  | zero =>
    intro t ht
    obtain rfl : t = oT σ := by omega
    refine k_Finder_otherNumbers_4 h0.1 ?_
    rw [h0.2.1.1]
    exact ⟨fun _ => PI.mk rfl H, fun q => absurd (nI_le (Nat.le_refl _) (by omega)) q⟩
  | succ n ih =>
    intro t ht
    refine k_Finder_otherNumbers_4 h0.1 ?_
    rw [h0.2.1.1, nI_clamp (show t < 2 ^ 31 by omega), nI_add t 1]
    refine ⟨fun q => absurd q (by rw [nI_leI (by omega) (by omega)]; omega), fun _ => ⟨hg.2.1, ?_⟩⟩
    have := hgw.2.1
    refine sx_numberOf h0.1 hg (by omega) (by omega) ⟨h0.1, vN (by omega) (by decide), ?_⟩
    rw [(hD t (by omega)).1]
    have nx := ih (t + 1) (by omega)
    rw [cnt_s] at nx
    refine ⟨fun q => ?_, fun q => ?_⟩
    · rw [decide_eq_true q, if_neg (by decide)] at nx; exact nx
    · rw [decide_eq_false q, Bool.not_false, if_pos rfl] at nx
      rw [nI_add]; exact nx
end WOW
theorem GivX.hi {M M2 : Mem} {p : Nat} {g : Nat × List Nat} (h : GivX M p g) (f : HiSame M M2) : GivX M2 p g := by
  obtain ⟨e2, e3, e4, u, e5, e6, e7, e8⟩ := h
  have hl := (List.getElem?_eq_some_iff.mp e3).1
  have hl2 := (List.getElem?_eq_some_iff.mp e7).1
  have hp := f.2 p hl (by omega)
  exact ⟨e2, f.1 _ _ e3, by rw [hp.1]; exact e4, u, by rw [hp.2]; exact e5, e6, f.1 _ _ e7, fun t v hv => by rw [(f.2 u hl2 (by omega)).1]; exact e8 t v hv⟩
section KEP
variable {d bc bs : Nat} {σ : St} {D : Nat → Nat} {M0 : Mem} {K : Mem → Prop}
theorem kep13 (hw : WF σ) (hD : Dy σ D M0) (hl0 : 75 ≤ (sh M0).length) (H : ∀ M2, YX σ M2 → FrG [53, 54] [] M0 M2 → mi M2 53 4 = nI (oT σ) → (∀ t, t < oT σ → mi M2 54 t = nI (D t)) → K M2) : ∀ (n t : Nat) (M : Mem), t + n = oT σ → YX σ M → FrG [53, 54] [] M0 M → mi M 53 4 = nI (oT σ) → (∀ o, o < t → mi M 54 o = nI (D o)) → Ex (d + 1) m_Finder_keepWay bc bs 13 [some (.ref 53), some (.int (nI t))] [] M (PV K) := by
  have h6 := hw.T6
  intro n
  induction n with
  | zero =>
    intro t M ht h0 hfr h4 hg
    obtain rfl : t = oT σ := by omega
    refine k_Finder_keepWay_13 h0.1 ?_
    rw [h4]
    exact ⟨fun _ => ⟨rfl, H M h0 hfr h4 hg⟩, fun q => absurd (nI_le (Nat.le_refl _) (by omega)) q⟩
  | succ n ih =>
    intro t M ht h0 hfr h4 hg
    refine k_Finder_keepWay_13 h0.1 ?_
    rw [h4, nI_clamp (show t < 2 ^ 31 by omega), hfr.row (j := 62) (by omega) (by decide), (hD t (by omega)).1, nI_add]
    refine ⟨fun q => absurd q (by rw [nI_leI (by omega) (by omega)]; omega), fun _ => ⟨vN (by omega) (by decide), vN (by omega) (by decide), ih (t + 1) _ (by omega) (h0.frk hw ((FrG.rf [54] []).fwi (by simp)) (by decide)) (hfr.fwi (by simp)) (by rw [mi_n (by decide)]; exact h4) (fun o ho => ?_)⟩⟩
    rw [mi_w]
    by_cases y : o = t
    · subst y; rw [u1_s]
    · rw [u1_n y]; exact hg o (by omega)
theorem sx_keepWay (hw : WF σ) (h0 : YX σ M0) (hD : Dy σ D M0) (H : ∀ M2, YX σ M2 → FrG [53, 54] [] M0 M2 → mi M2 53 4 = nI (oT σ) → (∀ t, t < oT σ → mi M2 54 t = nI (D t)) → K M2) : Con (d + 1) m_Finder_keepWay 0 0 [.ref 53] M0 (PV K) := by
  refine Con.ent (k := 1) F_Finder_keepWay.1 rfl (Nat.le_of_ble_eq_true rfl) (k_Finder_keepWay_0 h0.1 ?_)
  rw [h0.2.1.1]
  exact kep13 hw hD h0.1.len H (oT σ) 0 _ (by omega) (h0.frk hw ((FrG.rf [53] []).fwi (by simp)) (by decide)) ((FrG.rf _ _).fwi (by simp)) wi_e (fun o ho => absurd ho (Nat.not_lt_zero _))
end KEP
