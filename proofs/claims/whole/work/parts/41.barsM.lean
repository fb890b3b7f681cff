/-! what bars, m -/
/-- m: the land, its texts, markets f laid, near looked up -/
def FM (σ : St) (f : Nat → Nat) (M : Mem) : Prop := Fm M ∧ MLand σ M ∧ MText σ M ∧ MkAt M 109 (oT σ) f ∧ G108 σ M (oT σ) 0
section FOL
variable {d bc bs a b : Nat} {σ : St} {f : Nat → Nat} {M : Mem} {K : Bool → Mem → Prop}
theorem before_N {W k : Nat} (hk : k < W) (hW : W < 1000) : (nI k + nI W - nI 1) % nI W = nI (dB W k) := by
  rw [nI_add, nI_sub1 (by omega), rem_N (by omega) (by omega) (by omega)]
  rfl
theorem fol2 (hw : WF σ) (h0 : FM σ f M) (hf : ∀ t, f t < 128) (ha : a < oT σ) (hb : b < oT σ) (h : K (folB (oW σ) (f a) (f b)) M) :
    ∀ (n k : Nat), k + n = oW σ → (∀ i, i < k → ((f a).testBit i && (f b).testBit (dB (oW σ) i)) = false) → Ex (d + 1) m_MM_follows bc bs 2 [some (.ref 78), some (.int (nI a)), some (.int (nI b)), some (.int (nI k))] [] M (PB K) := by
  obtain ⟨hF, hL, hT, hm, -⟩ := h0
  have h6 := hw.T6
  have hfa := hf a
  have hfb := hf b
  obtain ⟨w1, w2⟩ := hw.W
  intro n
  induction n with
  | zero =>
    intro k hk hi
    obtain rfl : k = oW σ := by omega
    refine k_MM_follows_2 hF ?_
    rw [hL.2.1]
    refine ⟨fun _ => PB.mk ?_ h, fun q => absurd (nI_le (Nat.le_refl _) (by omega)) q⟩
    unfold folB
    rw [anyLT_f hi]
  | succ n ih =>
    intro k hk hi
    have next : ((f a).testBit k && (f b).testBit (dB (oW σ) k)) = false → Ex (d + 1) m_MM_follows bc bs 2 [some (.ref 78), some (.int (nI a)), some (.int (nI b)), some (.int (nI k + nI 1))] [] M (PB K) := fun z => by
      rw [nI_add]
      refine ih (k + 1) (by omega) (fun i hik => ?_)
      rcases (show i < k ∨ i = k by omega) with q | q
      · exact hi i q
      · rw [q]; exact z
    have hd := dB_lt (d := k) (show 0 < oW σ by omega)
    refine k_MM_follows_2 hF ?_
    rw [hL.2.1, before_N (by omega) (by omega), nI_clamp (by omega), nI_clamp (by omega), hm a ha, hm b hb, bit_1 (by omega) (by omega), bit_1 (by omega) (by omega)]
    refine ⟨fun q => absurd q (by rw [nI_leI (by omega) (by omega)]; omega), fun _ => ⟨vN (by omega) (by omega), fun z => next ?_, fun z => ⟨vN (by omega) (by omega), by rw [nI_z (by omega)]; omega, fun z2 => next ?_, fun z2 => PB.mk ?_ h⟩⟩⟩
    · rw [Bool.not_eq_true] at z
      rw [z]; rfl
    · rw [Bool.not_eq_true] at z2
      rw [z2, Bool.and_false]
    · unfold folB
      rw [anyLT_t.mpr ⟨k, by omega, by rw [z, z2]; rfl⟩]
theorem sm_follows (hw : WF σ) (h0 : FM σ f M) (hf : ∀ t, f t < 128) (ha : a < oT σ) (hb : b < oT σ) (h : K (folB (oW σ) (f a) (f b)) M) : Con (d + 1) m_MM_follows 0 0 [.ref 78, .int (nI a), .int (nI b)] M (PB K) := by
  refine Con.ent (k := 1) F_MM_follows.1 rfl (Nat.le_of_ble_eq_true rfl) (k_MM_follows_0 h0.1 ?_)
  exact fol2 hw h0 hf ha hb h (oW σ) 0 (by omega) (fun i hi => absurd hi (Nat.not_lt_zero _))
def barG (σ : St) (f : Nat → Nat) (a b x y : Nat) : Bool := (decide (¬ f a &&& f b = 0) && decide (¬ nearV σ (oW σ) x y = 0)) || ((decide (oBe σ a = nI b) && missB (oW σ) (f a) (f b)) || (decide (oBe σ b = nI a) && missB (oW σ) (f b) (f a)))
theorem sm_doBarG {x y : Nat} (hw : WF σ) (h0 : FM σ f M) (hf : ∀ t, f t < 128) (ha : a < oT σ) (hb : b < oT σ) (hn : a ≠ b → mi M 108 (6 * a + b) = nI (nb σ (oW σ) x y)) (h : K (if a = b then selfB σ f a else barG σ f a b x y) M) : Con (d + 2) m_MM_doBar 0 0 [.ref 78, .int (nI a), .int (nI b)] M (PB K) := by
  have h6 := hw.T6
  have hfa := hf a
  have hfb := hf b
  obtain ⟨hF, hL, hT, hm, hg⟩ := id h0
  refine Con.ent (k := 1) F_MM_doBar.1 rfl (Nat.le_of_ble_eq_true rfl) (k_MM_doBar_0 hF ?_)
  rw [pk_mul, nI_add, nI_clamp (by omega), nI_clamp (by omega), nI_clamp (by omega), hm a ha, hm b hb, (hL.2.2.2.2.1 a ha).2.1, nI_eq (by omega) (by omega)]
  refine ⟨fun hne => ?_, fun heq => ?_⟩
  · rw [if_neg hne] at h
    unfold barG at h
    have s108 : ∀ v : Nat, (decide (¬ f a &&& f b = 0) && decide (¬ nearV σ (oW σ) x y = 0)) = false → (decide (oBe σ a = nI b) && missB (oW σ) (f a) (f b)) = false → ¬ f a = 0 → ¬ f b = 0 → Ex (d + 2) m_MM_doBar 0 0 108 [some (.ref 78), some (.int (nI a)), some (.int (nI b)), some (.int (nI v))] [] M (PB K) := by
      intro v z1 z2 za zb
      rw [z1, z2, Bool.false_or, Bool.false_or] at h
      refine k_MM_doBar_108 hF ?_
      rw [nI_clamp (by omega), (hL.2.2.2.2.1 b hb).2.2.2]
      refine ⟨vN (by omega) (by omega), fun z => PB.mk ?_ h, fun z => sm_follows hw h0 hf hb ha ⟨hF, fun yy => PB.mk ?_ h, fun yy => PB.mk ?_ h⟩⟩
      · rw [decide_eq_false z]; rfl
      · unfold missB
        rw [yy, Bool.not_true, Bool.and_false, Bool.and_false, Bool.and_false]
      · unfold missB
        rw [yy, decide_eq_true z, decide_eq_true za, decide_eq_true zb]; rfl
    have s61 : (decide (¬ f a &&& f b = 0) && decide (¬ nearV σ (oW σ) x y = 0)) = false → Ex (d + 2) m_MM_doBar 0 0 61 [some (.ref 78), some (.int (nI a)), some (.int (nI b)), none] [] M (PB K) := by
      intro z1
      have s83 : (f a = 0 ∨ f b = 0) → Ex (d + 2) m_MM_doBar 0 0 83 [some (.ref 78), some (.int (nI a)), some (.int (nI b)), none] [] M (PB K) := by
        intro z
        refine k_MM_doBar_83 hF ⟨fun _ => PB.mk ?_ h, fun q => absurd rfl q⟩
        rw [z1, Bool.false_or]
        unfold missB
        rcases z with z | z
        · rw [show decide (¬ f a = 0) = false from decide_eq_false (fun q => q z), Bool.false_and, Bool.false_and, Bool.and_false, Bool.and_false, Bool.and_false]; rfl
        · rw [show decide (¬ f b = 0) = false from decide_eq_false (fun q => q z), Bool.false_and, Bool.false_and, Bool.and_false, Bool.and_false, Bool.and_false]; rfl
      refine k_MM_doBar_61 hF ?_
      rw [nI_clamp (by omega), nI_clamp (by omega), hm a ha, hm b hb, (hL.2.2.2.2.1 a ha).2.2.2, nI_z (n := f a) (by omega), nI_z (n := f b) (by omega)]
      refine ⟨vN (by omega) (by omega), fun z => s83 (.inl z), fun za => ⟨vN (by omega) (by omega), fun z => s83 (.inr z), fun zb => ⟨fun q => absurd q (by decide), fun _ => ⟨vN (by omega) (by omega), fun z => s108 1 z1 (by rw [decide_eq_false z]; rfl) za zb, fun z => ?_⟩⟩⟩⟩
      refine sm_follows hw h0 hf ha hb ⟨hF, fun yy => PB.mk ?_ h, fun yy => s108 1 z1 ?_ za zb⟩
      · rw [z1]
        unfold missB
        rw [yy, decide_eq_true z, decide_eq_true za, decide_eq_true zb]; rfl
      · unfold missB
        rw [yy, Bool.not_true, Bool.and_false, Bool.and_false, Bool.and_false]
    rw [and_N' (by omega) (by omega), nI_z (n := f a &&& f b) (by have := @Nat.and_le_left (f a) (f b); omega), hn hne]
    refine ⟨vN (by omega) (by omega), vN (by omega) (by omega), fun z => s61 (by rw [decide_eq_false (fun q => q z)]; rfl), fun z => ⟨vN (by omega) (by omega), fun yy => s61 ?_, fun yy => PB.mk ?_ h⟩⟩
    · unfold nb at yy
      split at yy
      · rename_i q
        rw [show decide (¬ nearV σ (oW σ) x y = 0) = false from decide_eq_false (fun z => z q), Bool.and_false]
      · exact absurd yy (by decide)
    · unfold nb at yy
      split at yy
      · exact absurd rfl yy
      · rename_i q
        rw [decide_eq_true z, decide_eq_true q]; rfl
  · rw [if_pos heq] at h
    exact ⟨vN (by omega) (by omega), vN (by omega) (by omega), fun z => PB.mk (by unfold selfB; rw [decide_eq_false (fun q => q z)]) h, fun z => PB.mk (by unfold selfB; rw [decide_eq_true z]) h⟩
theorem sm_doBar (hw : WF σ) (h0 : FM σ f M) (hf : ∀ t, f t < 128) (hab : a ≤ b) (hb : b < oT σ) (h : K (barA σ (oW σ) f a b) M) : Con (d + 2) m_MM_doBar 0 0 [.ref 78, .int (nI a), .int (nI b)] M (PB K) :=
  sm_doBarG (x := a) (y := b) hw h0 hf (by omega) hb (fun hne => (h0.2.2.2.2 a b (by omega) hb (by omega)).1) h
theorem sm_doBarR (hw : WF σ) (h0 : FM σ f M) (hf : ∀ t, f t < 128) (hab : b < a) (ha : a < oT σ) (h : K (barA σ (oW σ) f b a) M) : Con (d + 2) m_MM_doBar 0 0 [.ref 78, .int (nI a), .int (nI b)] M (PB K) := by
  refine sm_doBarG (x := b) (y := a) hw h0 hf ha (by omega) (fun hne => (h0.2.2.2.2 b a hab ha (by omega)).2) ?_
  rw [if_neg (by omega)]
  have e : barA σ (oW σ) f b a = barG σ f a b b a := by
    unfold barA barB barG
    rw [if_neg (by omega), Nat.and_comm (f b) (f a), Bool.or_comm (decide (oBe σ b = nI a) && missB (oW σ) (f b) (f a))]
  rw [← e]
  exact h
end FOL
section FBM
variable {d bc bs : Nat} {σ : St} {f : Nat → Nat} {M : Mem} {K : Int32 → Mem → Prop}
theorem fbm12 {a : Nat} (hw : WF σ) (h0 : FM σ f M) (hf : ∀ t, f t < 128) (ha : a < oT σ) (h1 : ∀ v, fb2 (barA σ (oW σ) f) a (oT σ - a) a = some v → K (nI v) M) (h2 : fb2 (barA σ (oW σ) f) a (oT σ - a) a = none → Ex (d + 3) m_MM_firstBar bc bs 2 [some (.ref 78), some (.int (nI (a + 1))), none] [] M (PI K)) :
    ∀ (n b : Nat), b + n = oT σ → a ≤ b → fb2 (barA σ (oW σ) f) a n b = fb2 (barA σ (oW σ) f) a (oT σ - a) a → Ex (d + 3) m_MM_firstBar bc bs 12 [some (.ref 78), some (.int (nI a)), some (.int (nI b))] [] M (PI K) := by
  have h6 := hw.T6
  intro n
  induction n with
  | zero =>
    intro b hb hab he
    obtain rfl : b = oT σ := by omega
    refine k_MM_firstBar_12 h0.1 ?_
    rw [h0.2.1.1]
    refine ⟨fun _ => ?_, fun q => absurd (nI_le (Nat.le_refl _) (by omega)) q⟩
    rw [nI_add]
    exact h2 (he.symm.trans rfl)
  | succ n ih =>
    intro b hb hab he
    refine k_MM_firstBar_12 h0.1 ?_
    rw [h0.2.1.1]
    refine ⟨fun q => absurd q (by rw [nI_leI (by omega) (by omega)]; omega), fun _ => ?_⟩
    rw [fb2_s] at he
    refine sm_doBar hw h0 hf hab (by omega) ⟨h0.1, fun z => ?_, fun z => ?_⟩
    · rw [nI_add]
      rw [z, if_neg (by decide)] at he
      exact ih (b + 1) (by omega) (by omega) he
    · rw [z, if_pos rfl] at he
      refine PI.mk ?_ (h1 (10 * a + b) he.symm)
      rw [pk_mul, nI_add]
theorem fbm2 (hw : WF σ) (h0 : FM σ f M) (hf : ∀ t, f t < 128) (h : K (fbV σ f) M) :
    ∀ (n a : Nat), a + n = oT σ → fb1 (barA σ (oW σ) f) (oT σ) n a = fb1 (barA σ (oW σ) f) (oT σ) (oT σ) 0 → Ex (d + 3) m_MM_firstBar bc bs 2 [some (.ref 78), some (.int (nI a)), none] [] M (PI K) := by
  have h6 := hw.T6
  unfold fbV at h
  intro n
  induction n with
  | zero =>
    intro a ha he
    obtain rfl : a = oT σ := by omega
    refine k_MM_firstBar_2 h0.1 ?_
    rw [h0.2.1.1]
    refine ⟨fun _ => PI.mk ?_ h, fun q => absurd (nI_le (Nat.le_refl _) (by omega)) q⟩
    rw [← he]
    rfl
  | succ n ih =>
    intro a ha he
    refine k_MM_firstBar_2 h0.1 ?_
    rw [h0.2.1.1]
    refine ⟨fun q => absurd q (by rw [nI_leI (by omega) (by omega)]; omega), fun _ => ?_⟩
    rw [fb1_s] at he
    refine fbm12 hw h0 hf (by omega) (fun v q => ?_) (fun q => ?_) (n + 1) a (by omega) (by omega) (by rw [show n + 1 = oT σ - a by omega])
    · rw [q] at he
      rw [← he] at h
      exact h
    · rw [q] at he
      exact ih (a + 1) (by omega) he
end FBM
theorem sm_firstBar {d : Nat} {σ : St} {f : Nat → Nat} {M : Mem} {K : Int32 → Mem → Prop} (hw : WF σ) (h0 : FM σ f M) (hf : ∀ t, f t < 128) (h : K (fbV σ f) M) : Con (d + 3) m_MM_firstBar 0 0 [.ref 78] M (PI K) := by
  refine Con.ent (k := 2) F_MM_firstBar.1 rfl (Nat.le_of_ble_eq_true rfl) (k_MM_firstBar_0 h0.1 ?_)
  exact fbm2 hw h0 hf h (oT σ) 0 (by omega) rfl
