/-! what bars -/
def anyLT (p : Nat → Bool) : Nat → Bool
  | 0 => false
  | n + 1 => anyLT p n || p n
theorem anyLT_t {p : Nat → Bool} : ∀ {n : Nat}, anyLT p n = true ↔ ∃ i, i < n ∧ p i = true
  | 0 => ⟨(fun h => by cases h), fun ⟨i, h, _⟩ => absurd h (Nat.not_lt_zero i)⟩
  | n + 1 => by
    unfold anyLT
    rw [Bool.or_eq_true, anyLT_t]
    constructor
    · rintro (⟨i, h, hp⟩ | h)
      · exact ⟨i, by omega, hp⟩
      · exact ⟨n, by omega, h⟩
    · rintro ⟨i, h, hp⟩
      rcases (show i < n ∨ i = n by omega) with q | q
      · exact .inl ⟨i, q, hp⟩
      · exact .inr (q ▸ hp)
theorem anyLT_f {p : Nat → Bool} {n : Nat} (h : ∀ i, i < n → p i = false) : anyLT p n = false := by
  cases q : anyLT p n with
  | false => rfl
  | true =>
    obtain ⟨i, hi, hp⟩ := anyLT_t.mp q
    rw [h i hi] at hp
    cases hp
theorem anyLT_c {p q : Nat → Bool} {n : Nat} (h : (∃ i, i < n ∧ p i = true) ↔ ∃ i, i < n ∧ q i = true) : anyLT p n = anyLT q n := by
  rw [Bool.eq_iff_iff, anyLT_t, anyLT_t]
  exact h
def folB (W x y : Nat) : Bool := anyLT (fun e => x.testBit e && y.testBit (dB W e)) W
theorem dAB {W e : Nat} (h : e < W) : dB W (dA W e) = e := by
  rw [dB_if (dA_lt (by omega)), dA_if h]
  split
  · rw [if_pos (by omega)]; omega
  · rw [if_neg (by omega)]; omega
theorem dBA {W e : Nat} (h : e < W) : dA W (dB W e) = e := by
  rw [dA_if (dB_lt (by omega)), dB_if h]
  split
  · rw [if_pos (by omega)]; omega
  · rw [if_neg (by omega)]; omega
theorem folB_x {W x y : Nat} : folB W x y = anyLT (fun e => y.testBit e && x.testBit (dA W e)) W := anyLT_c ⟨fun ⟨i, hi, hp⟩ => ⟨dB W i, dB_lt (by omega), by
  rw [Bool.and_eq_true] at hp ⊢
  rw [dBA hi]
  exact ⟨hp.2, hp.1⟩⟩, fun ⟨i, hi, hp⟩ => ⟨dA W i, dA_lt (by omega), by
  rw [Bool.and_eq_true] at hp ⊢
  rw [dAB hi]
  exact ⟨hp.2, hp.1⟩⟩⟩
def selfB (σ : St) (f : Nat → Nat) (t : Nat) : Bool := decide (¬ (nI (f t) &&& (nI (oMy σ t) ^^^ (-1))) = 0)
def missB (W x y : Nat) : Bool := decide (¬ x = 0) && (decide (¬ y = 0) && !folB W x y)
def barB (σ : St) (W : Nat) (f : Nat → Nat) (a b : Nat) : Bool := (decide (¬ f a &&& f b = 0) && decide (¬ nearV σ W a b = 0)) || ((decide (oBe σ a = nI b) && missB W (f a) (f b)) || (decide (oBe σ b = nI a) && missB W (f b) (f a)))
def barA (σ : St) (W : Nat) (f : Nat → Nat) (a b : Nat) : Bool := if a = b then selfB σ f a else barB σ W f a b
def fb2 (bar : Nat → Nat → Bool) (a : Nat) : Nat → Nat → Option Nat
  | 0, _ => none
  | n + 1, b => if bar a b = true then some (10 * a + b) else fb2 bar a n (b + 1)
def fb1 (bar : Nat → Nat → Bool) (T : Nat) : Nat → Nat → Option Nat
  | 0, _ => none
  | n + 1, a => match fb2 bar a (T - a) a with
    | some v => some v
    | none => fb1 bar T n (a + 1)
def onI : Option Nat → Int32
  | none => -1
  | some v => nI v
theorem fb2_s {bar : Nat → Nat → Bool} {a n b : Nat} : fb2 bar a (n + 1) b = if bar a b = true then some (10 * a + b) else fb2 bar a n (b + 1) := rfl
theorem fb1_s {bar : Nat → Nat → Bool} {T n a : Nat} : fb1 bar T (n + 1) a = match fb2 bar a (T - a) a with
    | some v => some v
    | none => fb1 bar T n (a + 1) := rfl
def fbV (σ : St) (f : Nat → Nat) : Int32 := onI (fb1 (barA σ (oW σ) f) (oT σ) (oT σ) 0)
/-- x: the land, its texts, markets f laid -/
def FX (σ : St) (f : Nat → Nat) (M : Mem) : Prop := Fx M ∧ XLand σ M ∧ XText σ M ∧ MkAt M 52 (oT σ) f
theorem FX.fr {σ : St} {f : Nat → Nat} {M M2 : Mem} (h : FX σ f M) (hw : WF σ) (g : FrG [48, 49] [] M M2) : FX σ f M2 := by
  obtain ⟨h1, h2, h3, h4⟩ := h
  have hX := g.X rfl rfl
  refine ⟨g.fx h1, h2.fr hX h1 hw.T6, h3.fr hX h1, ?_⟩
  unfold MkAt
  rw [g.row (by have := h1.len; omega) (by decide)]
  exact h4
theorem sx_self {d t : Nat} {σ : St} {f : Nat → Nat} {M : Mem} {K : Bool → Mem → Prop} (hw : WF σ) (h0 : FX σ f M) (ht : t < oT σ) (h : K (selfB σ f t) M) : Con (d + 1) m_Fair_barsItself 0 0 [.ref 51, .int (nI t)] M (PB K) := by
  obtain ⟨hF, hL, hT, hm⟩ := h0
  have h6 := hw.T6
  refine Con.of (lo := [some (.ref 51), some (.int (nI t))]) F_Fair_barsItself.1 rfl (Nat.le_of_ble_eq_true rfl) (k_Fair_barsItself_0 hF ?_)
  rw [nI_clamp (by omega), hm t ht, (hL.2.2.2.2.1 t ht).2.1]
  exact ⟨vN (by omega) (by omega), vN (by omega) (by omega), fun z => PB.mk (by unfold selfB; rw [decide_eq_false (fun q => q z)]) h, fun z => PB.mk (by unfold selfB; rw [decide_eq_true z]) h⟩
section MIS
variable {d bc bs a b : Nat} {σ : St} {f : Nat → Nat} {M : Mem} {K : Bool → Mem → Prop}
theorem mis22 (hw : WF σ) (h0 : FX σ f M) (hf : ∀ t, f t < 128) (ha : a < oT σ) (hb : b < oT σ) (h : K (!folB (oW σ) (f a) (f b)) M) :
    ∀ (n k : Nat), k + n = oW σ → (∀ i, i < k → ((f b).testBit i && (f a).testBit (dA (oW σ) i)) = false) → Ex (d + 3) m_Fair_missesToFollow bc bs 22 [some (.ref 51), some (.int (nI a)), some (.int (nI b)), some (.int (nI k))] [] M (PB K) := by
  obtain ⟨hF, hL, hT, hm⟩ := h0
  have h6 := hw.T6
  obtain ⟨w1, w2⟩ := hw.W
  intro n
  induction n with
  | zero =>
    intro k hk hi
    obtain rfl : k = oW σ := by omega
    refine k_Fair_missesToFollow_22 hF ?_
    rw [hL.2.1]
    refine ⟨fun _ => PB.mk ?_ h, fun q => absurd (nI_le (Nat.le_refl _) (by omega)) q⟩
    rw [folB_x, anyLT_f hi]
    rfl
  | succ n ih =>
    intro k hk hi
    have next : ((f b).testBit k && (f a).testBit (dA (oW σ) k)) = false → Ex (d + 3) m_Fair_missesToFollow bc bs 22 [some (.ref 51), some (.int (nI a)), some (.int (nI b)), some (.int (nI k + nI 1))] [] M (PB K) := fun z => by
      rw [nI_add]
      refine ih (k + 1) (by omega) (fun i hik => ?_)
      rcases (show i < k ∨ i = k by omega) with q | q
      · exact hi i q
      · rw [q]; exact z
    refine k_Fair_missesToFollow_22 hF ?_
    rw [hL.2.1]
    refine ⟨fun q => absurd q (by rw [nI_leI (by omega) (by omega)]; omega), fun _ => ?_⟩
    have hd := dA_lt (d := k) (show 0 < oW σ by omega)
    refine sx_isAt hF hm hf h6 hb (by omega) ⟨hF, fun z => next (by rw [z]; rfl), fun z => ?_⟩
    rw [hL.2.1]
    refine sx_dayAfter hF (by omega) (by omega) ⟨hF, ?_⟩
    refine sx_isAt hF hm hf h6 ha (by omega) ⟨hF, fun z2 => next (by rw [z2, Bool.and_false]), fun z2 => PB.mk ?_ h⟩
    rw [folB_x, anyLT_t.mpr ⟨k, by omega, by rw [z, z2]; rfl⟩]
    rfl
theorem sx_misses (hw : WF σ) (h0 : FX σ f M) (hf : ∀ t, f t < 128) (ha : a < oT σ) (hb : b < oT σ) (h : K (missB (oW σ) (f a) (f b)) M) : Con (d + 3) m_Fair_missesToFollow 0 0 [.ref 51, .int (nI a), .int (nI b)] M (PB K) := by
  have hF := h0.1
  have hm := h0.2.2.2
  have h6 := hw.T6
  have hfa := hf a
  have hfb := hf b
  unfold missB at h
  refine Con.ent (k := 1) F_Fair_missesToFollow.1 rfl (Nat.le_of_ble_eq_true rfl) (k_Fair_missesToFollow_0 hF ?_)
  rw [nI_clamp (by omega), nI_clamp (by omega), hm a ha, hm b hb, nI_z (by omega), nI_z (by omega)]
  refine ⟨vN (by omega) (by omega), fun z => PB.mk ?_ h, fun z => ⟨vN (by omega) (by omega), fun z2 => ?_, fun z2 => PB.mk ?_ h⟩⟩
  · rw [decide_eq_false (fun q => q z)]; rfl
  · rw [decide_eq_true z, decide_eq_true z2] at h
    exact mis22 hw h0 hf ha hb h (oW σ) 0 (by omega) (fun i hi => absurd hi (Nat.not_lt_zero _))
  · rw [decide_eq_true z, decide_eq_false (fun q => q z2)]; rfl
end MIS
theorem sx_bars {d a b : Nat} {σ : St} {f : Nat → Nat} {M : Mem} {K : Bool → Mem → Prop} (hw : WF σ) (h0 : FX σ f M) (hf : ∀ t, f t < 128) (ha : a < oT σ) (hb : b < oT σ) (h : ∀ M2, FX σ f M2 → FrG [48, 49] [] M M2 → K (barB σ (oW σ) f a b) M2) : Con (d + 4) m_Fair_bars 0 0 [.ref 51, .int (nI a), .int (nI b)] M (PB K) := by
  have h6 := hw.T6
  have hfa := hf a
  have hfb := hf b
  have s57 : ∀ M2, FX σ f M2 → FrG [48, 49] [] M M2 → (decide (¬ f a &&& f b = 0) && decide (¬ nearV σ (oW σ) a b = 0)) = false → (decide (oBe σ a = nI b) && missB (oW σ) (f a) (f b)) = false → Ex (d + 4) m_Fair_bars 0 0 57 [some (.ref 51), some (.int (nI a)), some (.int (nI b))] [] M2 (PB K) := by
    intro M2 h2 f2 z1 z2
    have hk := h M2 h2 f2
    unfold barB at hk
    rw [z1, z2, Bool.false_or, Bool.false_or] at hk
    refine k_Fair_bars_57 h2.1 ?_
    rw [nI_clamp (by omega), (h2.2.1.2.2.2.2.1 b hb).2.2.2]
    refine ⟨vN (by omega) (by omega), fun z => PB.mk ?_ hk, fun z => sx_misses hw h2 hf hb ha ⟨h2.1, fun y => PB.mk ?_ hk, fun y => PB.mk ?_ hk⟩⟩
    · rw [decide_eq_false z]; rfl
    · rw [y, Bool.and_false]
    · rw [y, decide_eq_true z]; rfl
  have s35 : ∀ M2, FX σ f M2 → FrG [48, 49] [] M M2 → (decide (¬ f a &&& f b = 0) && decide (¬ nearV σ (oW σ) a b = 0)) = false → Ex (d + 4) m_Fair_bars 0 0 35 [some (.ref 51), some (.int (nI a)), some (.int (nI b))] [] M2 (PB K) := by
    intro M2 h2 f2 z1
    have hk := h M2 h2 f2
    unfold barB at hk
    rw [z1, Bool.false_or] at hk
    refine k_Fair_bars_35 h2.1 ?_
    rw [nI_clamp (by omega), (h2.2.1.2.2.2.2.1 a ha).2.2.2]
    refine ⟨vN (by omega) (by omega), fun z => s57 M2 h2 f2 z1 (by rw [decide_eq_false z]; rfl), fun z => sx_misses hw h2 hf ha hb ⟨h2.1, fun y => PB.mk ?_ hk, fun y => s57 M2 h2 f2 z1 (by rw [y, Bool.and_false])⟩⟩
    rw [y, decide_eq_true z]; rfl
  refine Con.of (lo := [some (.ref 51), some (.int (nI a)), some (.int (nI b))]) F_Fair_bars.1 rfl (Nat.le_of_ble_eq_true rfl) (k_Fair_bars_0 h0.1 ?_)
  rw [nI_clamp (by omega), nI_clamp (by omega), h0.2.2.2 a ha, h0.2.2.2 b hb, and_N' (by omega) (by omega), nI_z (by have := @Nat.and_le_left (f a) (f b); omega)]
  refine ⟨vN (by omega) (by omega), vN (by omega) (by omega), fun z => s35 M h0 (FrG.rf _ _) (by rw [decide_eq_false (fun q => q z)]; rfl), fun z => ?_⟩
  rw [h0.2.1.2.1]
  refine sx_nearSays h0.1 hw h0.2.1 h0.2.2.1 ha hb (fun M2 hF2 f2 => ⟨hF2, fun y => PB.mk ?_ (h M2 (h0.fr hw f2) f2), fun y => s35 M2 (h0.fr hw f2) f2 (by rw [show decide (¬ nearV σ (oW σ) a b = 0) = false from decide_eq_false (fun q => q y), Bool.and_false])⟩)
  unfold barB
  rw [decide_eq_true z, decide_eq_true y]
  rfl
section FBX
variable {d bc bs : Nat} {σ : St} {f : Nat → Nat} {M0 : Mem} {K : Int32 → Mem → Prop}
theorem fbx30 {a : Nat} (hw : WF σ) (hf : ∀ t, f t < 128) (ha : a < oT σ) (h1 : ∀ M2 v, FX σ f M2 → FrG [48, 49] [] M0 M2 → fb2 (barA σ (oW σ) f) a (oT σ - (a + 1)) (a + 1) = some v → K (nI v) M2) (h2 : ∀ M2, FX σ f M2 → FrG [48, 49] [] M0 M2 → fb2 (barA σ (oW σ) f) a (oT σ - (a + 1)) (a + 1) = none → Ex (d + 5) m_Fair_firstBar bc bs 2 [some (.ref 51), some (.int (nI (a + 1))), none] [] M2 (PI K)) :
    ∀ (n b : Nat) (M : Mem), b + n = oT σ → a < b → FX σ f M → FrG [48, 49] [] M0 M → fb2 (barA σ (oW σ) f) a n b = fb2 (barA σ (oW σ) f) a (oT σ - (a + 1)) (a + 1) → Ex (d + 5) m_Fair_firstBar bc bs 30 [some (.ref 51), some (.int (nI a)), some (.int (nI b))] [] M (PI K) := by
  have h6 := hw.T6
  intro n
  induction n with
  | zero =>
    intro b M hb hab h0 hfr he
    obtain rfl : b = oT σ := by omega
    refine k_Fair_firstBar_30 h0.1 ?_
    rw [h0.2.1.1]
    refine ⟨fun _ => ?_, fun q => absurd (nI_le (Nat.le_refl _) (by omega)) q⟩
    rw [nI_add]
    exact h2 M h0 hfr (he.symm.trans rfl)
  | succ n ih =>
    intro b M hb hab h0 hfr he
    refine k_Fair_firstBar_30 h0.1 ?_
    rw [h0.2.1.1]
    refine ⟨fun q => absurd q (by rw [nI_leI (by omega) (by omega)]; omega), fun _ => ?_⟩
    have eb : barA σ (oW σ) f a b = barB σ (oW σ) f a b := by unfold barA; rw [if_neg (by omega)]
    rw [fb2_s, eb] at he
    refine sx_bars hw h0 hf ha (by omega) (fun M2 hx2 f2 => ⟨hx2.1, fun z => ?_, fun z => ?_⟩)
    · rw [nI_add]
      rw [z, if_neg (by decide)] at he
      exact ih (b + 1) M2 (by omega) (by omega) hx2 (hfr.tr f2) he
    · rw [z, if_pos rfl] at he
      refine PI.mk ?_ (h1 M2 (10 * a + b) hx2 (hfr.tr f2) he.symm)
      rw [pk_mul, nI_add]
theorem fbx2 (hw : WF σ) (hf : ∀ t, f t < 128) (h : ∀ M2, FX σ f M2 → FrG [48, 49] [] M0 M2 → K (fbV σ f) M2) :
    ∀ (n a : Nat) (M : Mem), a + n = oT σ → FX σ f M → FrG [48, 49] [] M0 M → fb1 (barA σ (oW σ) f) (oT σ) n a = fb1 (barA σ (oW σ) f) (oT σ) (oT σ) 0 → Ex (d + 5) m_Fair_firstBar bc bs 2 [some (.ref 51), some (.int (nI a)), none] [] M (PI K) := by
  have h6 := hw.T6
  intro n
  induction n with
  | zero =>
    intro a M ha h0 hfr he
    obtain rfl : a = oT σ := by omega
    refine k_Fair_firstBar_2 h0.1 ?_
    rw [h0.2.1.1]
    refine ⟨fun _ => PI.mk ?_ (h M h0 hfr), fun q => absurd (nI_le (Nat.le_refl _) (by omega)) q⟩
    unfold fbV
    rw [← he]
    rfl
  | succ n ih =>
    intro a M ha h0 hfr he
    refine k_Fair_firstBar_2 h0.1 ?_
    rw [h0.2.1.1]
    refine ⟨fun q => absurd q (by rw [nI_leI (by omega) (by omega)]; omega), fun _ => ?_⟩
    have eb : barA σ (oW σ) f a a = selfB σ f a := by unfold barA; rw [if_pos rfl]
    rw [fb1_s, show oT σ - a = (oT σ - (a + 1)) + 1 by omega, fb2_s, eb] at he
    refine sx_self hw h0 (by omega) ⟨h0.1, fun z => ?_, fun z => ?_⟩
    · rw [nI_add]
      rw [z, if_neg (by decide)] at he
      refine fbx30 (M0 := M0) hw hf (by omega) (fun M2 v hx2 f2 q => ?_) (fun M2 hx2 f2 q => ?_) n (a + 1) M (by omega) (by omega) h0 hfr (by rw [show n = oT σ - (a + 1) by omega])
      · rw [q] at he
        have hk := h M2 hx2 f2
        unfold fbV at hk
        rw [← he] at hk
        exact hk
      · rw [q] at he
        exact ih (a + 1) M2 (by omega) hx2 f2 he
    · rw [z, if_pos rfl] at he
      have hk := h M h0 hfr
      unfold fbV at hk
      rw [← he] at hk
      refine PI.mk ?_ hk
      show nI 11 * nI a = nI (10 * a + a)
      rw [pk_mul]
      congr 1
      omega
end FBX
theorem sx_firstBar {d : Nat} {σ : St} {f : Nat → Nat} {M : Mem} {K : Int32 → Mem → Prop} (hw : WF σ) (h0 : FX σ f M) (hf : ∀ t, f t < 128) (h : ∀ M2, FX σ f M2 → FrG [48, 49] [] M M2 → K (fbV σ f) M2) : Con (d + 5) m_Fair_firstBar 0 0 [.ref 51] M (PI K) := by
  refine Con.ent (k := 2) F_Fair_firstBar.1 rfl (Nat.le_of_ble_eq_true rfl) (k_Fair_firstBar_0 h0.1 ?_)
  exact fbx2 hw hf h (oT σ) 0 M (by omega) h0 (FrG.rf _ _) rfl
