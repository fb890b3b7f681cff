/-! rounds: m's side -/
def PM (σ : St) (f : Nat → Nat) (M : Mem) : Prop := Fm M ∧ MLand σ M ∧ MkAt M 109 (oT σ) f ∧ F103 σ M
theorem PM.wi {σ : St} {f : Nat → Nat} {M : Mem} {j k : Nat} {v : Int32} (h : PM σ f M) (hj : j = 112 ∨ j = 93 ∨ (j = 78 ∧ k = 23)) : PM σ f (wi M j k v) := by
  obtain ⟨hF, hL, hm, h3⟩ := h
  refine ⟨hF.fwi, hL.cg (fun i hi => ?_) (fun i a b => mi_n (by omega)), ?_, ?_⟩
  · rw [mi_if, if_neg (by omega)]
  · unfold MkAt
    rw [mi_n (by omega)]
    exact hm
  · unfold F103
    rw [mi_n (by omega)]
    exact h3
section RDM
variable {d bc bs e t a l st home pk : Nat} {σ : St} {f : Nat → Nat} {M M0 : Mem} {K : Int32 → Mem → Prop} {Φ : Option Value → Mem → Prop} {l1 l2 : Int32}
theorem sm_sold (hw : WF σ) (h0 : PM σ f M) (hf : ∀ t, f t < 128) (ht : t < oT σ) (he : e < 7) (hl : l ≤ 40) (h : K (nI (min (salV σ f e t) l)) M) : Con (d + 1) m_MM_sold 0 0 [.ref 78, .int (nI t), .int (nI e), .int (nI l)] M (PI K) := by
  obtain ⟨hF, hL, hm, h3⟩ := h0
  have h6 := hw.T6
  have hs := hw.sz t
  have hft := hf t
  have vt := vN (show t < 6 by omega) (by decide)
  unfold salV at h
  refine Con.of (lo := [some (.ref 78), some (.int (nI t)), some (.int (nI e)), some (.int (nI l))]) F_MM_sold.1 rfl (Nat.le_of_ble_eq_true rfl) (k_MM_sold_0 hF ?_)
  rw [nI_clamp (by omega), hm t ht, bit_0 (by omega) (by omega), (hL.2.2.2.2.1 t ht).1]
  refine ⟨vt, fun q => ⟨vt, fun q2 => PI.mk ?_ h, fun q2 => ⟨vt, PI.mk ?_ h⟩⟩, fun q => PI.mk ?_ h⟩
  · rw [nI_leI (by omega) (by omega)] at q2
    rw [if_pos (by cases w : (f t).testBit e; exact absurd w q; rfl), Nat.min_eq_right (by omega)]
  · rw [nI_leI (by omega) (by omega)] at q2
    rw [if_pos (by cases w : (f t).testBit e; exact absurd w q; rfl), Nat.min_eq_left (by omega)]
  · rw [q, if_neg (by decide), Nat.zero_min]
/-- m's table from day n on -/
def TbM (σ : St) (f : Nat → Nat) (st home pk n : Nat) (M : Mem) : Prop := ∀ d a l, n ≤ d → d < oW σ → a < oT σ → l ≤ pk → mi M 112 (246 * d + 41 * a + l) = mV (min (l + 1) (bR (oW σ) (oT σ) (salV σ f) (nrF σ st) home (oW σ - 1 - d) a))
theorem sm_soldBy (hw : WF σ) (h0 : PM σ f M) (hf : ∀ t, f t < 128) (ha : a < oT σ) (ht : t < oT σ) (he : e < oW σ) (hl : l ≤ pk) (hpk : pk ≤ 40) (hst : st ≤ 50) (hh : home < oT σ) (hT : TbM σ f st home pk (e + 1) M) (h : K (mV (if nrF σ st a t = true then min (l + 1) (uR (oW σ) (oT σ) (salV σ f) (nrF σ st) home (oW σ - 1 - e) t) else 0)) M) : Con (d + 2) m_MM_soldBy 0 0 [.ref 78, .int (nI a), .int (nI t), .int (nI e), .int (nI l), .int (nI st), .int (nI home)] M (PI K) := by
  obtain ⟨hF, hL, hm, h3⟩ := id h0
  have h6 := hw.T6
  have hW := hw.W
  have h9 := hw.far a t
  have hs99 := salV_99 hw f
  have hse := hs99 e t
  refine Con.ent (k := 2) F_MM_soldBy.1 rfl (Nat.le_of_ble_eq_true rfl) (k_MM_soldBy_0 hF ?_)
  rw [pk_mul, nI_add, nI_clamp (by omega), h3 a t (by omega) (by omega), hL.2.1, nI_sub1 (by omega)]
  have s34 : nrF σ st a t = true → (e = oW σ - 1 → t = home) → Ex (d + 2) m_MM_soldBy 0 0 34 [some (.ref 78), some (.int (nI a)), some (.int (nI t)), some (.int (nI e)), some (.int (nI l)), some (.int (nI st)), some (.int (nI home)), none, none] [] M (PI K) := by
    intro hn hlast
    rw [if_pos hn] at h
    refine k_MM_soldBy_34 hF ?_
    refine sm_sold hw h0 hf ht (by omega) (by omega) ⟨hF, ?_⟩
    rw [hL.2.1, nI_sub1 (by omega), nI_eq (by omega) (by omega)]
    refine ⟨fun q => ?_, fun q => ⟨fun _ => PI.mk ?_ h, fun w => absurd w (by decide)⟩⟩
    · obtain ⟨r, hr⟩ : ∃ r, oW σ - 1 - e = r + 1 := ⟨oW σ - 2 - e, by omega⟩
      rw [hr, uR_s, show oW σ - 1 - (r + 1) = e by omega] at h
      have hb := bR_le (W := oW σ) (T := oT σ) (ok := nrF σ st) (home := home) hs99 r t
      have hr8 : r < 8 := by omega
      have et := hT (e + 1) t (l - min (salV σ f e t) l) (by omega) (by omega) ht (by omega)
      rw [show oW σ - 1 - (e + 1) = r by omega] at et
      have ei : 246 * (e + 1) + 41 * t + l - min (salV σ f e t) l = 246 * (e + 1) + 41 * t + (l - min (salV σ f e t) l) := by omega
      simp only [nI_add, pk_mul]
      rw [pk_sub (by omega), nI_clamp (by omega), ei, et, mV_m1 (by omega)]
      refine ⟨vN (by omega) (by decide), fun q2 => PI.mk ?_ h, fun q2 => PI.mk ?_ h⟩
      · rw [mV_add' (by omega), if_neg (by omega)]
        congr 1
        omega
      · rw [if_pos (by omega), Nat.min_zero, mV_0]
    · rw [show oW σ - 1 - e = 0 by omega, uR_0, if_pos (hlast q), show oW σ - 1 = e by omega, nI_add, ← mV_s]
      congr 1
      omega
  refine ⟨vN (by omega) (by decide), fun q => PI.mk ?_ h, fun q => ⟨fun q2 => s34 ?_ ?_, fun q2 => ⟨fun q3 => s34 ?_ ?_, fun q3 => PI.mk ?_ h⟩⟩⟩ <;> rw [nI_ltI (by omega) (by omega)] at q
  · rw [if_neg (by unfold nrF; rw [decide_eq_true_eq]; omega), mV_0]
  · unfold nrF; rw [decide_eq_true_eq]; omega
  · intro w; exact absurd (by rw [w]) q2
  · unfold nrF; rw [decide_eq_true_eq]; omega
  · intro w; rw [nI_eq (by omega) (by omega)] at q3; exact q3
  · rw [nI_eq (by omega) (by omega)] at q2 q3
    rw [show oW σ - 1 - e = 0 by omega, uR_0, if_neg q3, Nat.min_zero]
    split <;> rw [mV_0]
theorem rdm99 (hw : WF σ) (h0 : PM σ f M) (hf : ∀ t, f t < 128) (ha : a < oT σ) (he : e < oW σ) (hl : l ≤ pk) (hpk : pk ≤ 40) (hst : st ≤ 50) (hh : home < oT σ) (hT : TbM σ f st home pk (e + 1) M)
    (H : Ex (d + 3) m_MM_round bc bs 86 [some (.ref 78), some (.int l1), some (.int l2), some (.int (nI home)), some (.int (nI st)), some (.int (nI pk)), some (.int (nI e)), some (.int (nI a)), some (.int (nI (l + 1))), none, none, none] [] (wi M 112 (246 * e + 41 * a + l) (mV (min (l + 1) (bR (oW σ) (oT σ) (salV σ f) (nrF σ st) home (oW σ - 1 - e) a)))) Φ) :
    ∀ (n t : Nat), t + n = oT σ → Ex (d + 3) m_MM_round bc bs 99 [some (.ref 78), some (.int l1), some (.int l2), some (.int (nI home)), some (.int (nI st)), some (.int (nI pk)), some (.int (nI e)), some (.int (nI a)), some (.int (nI l)), some (.int (mV (maxLT (nrF σ st a) (fun t => min (l + 1) (uR (oW σ) (oT σ) (salV σ f) (nrF σ st) home (oW σ - 1 - e) t)) t))), some (.int (nI t)), none] [] M Φ := by
  obtain ⟨hF, hL, hm, h3⟩ := id h0
  have h6 := hw.T6
  have hW := hw.W
  intro n
  induction n with
  | zero =>
    intro t ht
    obtain rfl : t = oT σ := by omega
    refine k_MM_round_99 hF ?_
    rw [hL.1]
    simp only [pk_mul, nI_add]
    rw [nI_clamp (by omega)]
    refine ⟨fun _ => ⟨vN (by omega) (by decide), ?_⟩, fun q => absurd (nI_le (Nat.le_refl _) (by omega)) q⟩
    rw [max_mn]
    exact H
  | succ n ih =>
    intro t ht
    refine k_MM_round_99 hF ?_
    rw [hL.1]
    refine ⟨fun q => absurd q (by rw [nI_leI (by omega) (by omega)]; omega), fun _ => ?_⟩
    refine sm_soldBy hw h0 hf ha (show t < oT σ by omega) he hl hpk hst hh hT ⟨hF, ?_⟩
    have := ih (t + 1) (by omega)
    rw [max_s] at this
    rw [nI_add]
    have h5 : maxLT (nrF σ st a) (fun t => min (l + 1) (uR (oW σ) (oT σ) (salV σ f) (nrF σ st) home (oW σ - 1 - e) t)) t ≤ 41 := max_ub (fun i => by omega) t
    by_cases y : nrF σ st a t = true
    · rw [if_pos y] at this ⊢
      refine ⟨fun q => ?_, fun q => ?_⟩ <;> rw [i_le, mV_T (by omega), mV_T (by omega)] at q
      · rw [Nat.max_eq_left (by omega)] at this; exact this
      · rw [Nat.max_eq_right (by omega)] at this; exact this
    · rw [if_neg y] at this ⊢
      refine ⟨fun q => this, fun q => ?_⟩
      rw [i_le, mV_T (by omega), mV_T (by omega)] at q
      omega
theorem rdm86 (hw : WF σ) (hf : ∀ t, f t < 128) (ha : a < oT σ) (he : e < oW σ) (hpk : pk ≤ 40) (hst : st ≤ 50) (hh : home < oT σ)
    (H : ∀ M2, PM σ f M2 → FrG [78, 93, 112] [] M0 M2 → (∀ k, k ≠ 23 → mi M2 78 k = mi M0 78 k) → TbM σ f st home pk (e + 1) M2 → (∀ x l, x < a + 1 → l ≤ pk → mi M2 112 (246 * e + 41 * x + l) = mV (min (l + 1) (bR (oW σ) (oT σ) (salV σ f) (nrF σ st) home (oW σ - 1 - e) x))) → Ex (d + 3) m_MM_round bc bs 74 [some (.ref 78), some (.int l1), some (.int l2), some (.int (nI home)), some (.int (nI st)), some (.int (nI pk)), some (.int (nI e)), some (.int (nI (a + 1))), none, none, none, none] [] M2 Φ) :
    ∀ (n l : Nat) (M : Mem), l + n = pk + 1 → PM σ f M → FrG [78, 93, 112] [] M0 M → (∀ k, k ≠ 23 → mi M 78 k = mi M0 78 k) → TbM σ f st home pk (e + 1) M → (∀ x y, x < a → y ≤ pk → mi M 112 (246 * e + 41 * x + y) = mV (min (y + 1) (bR (oW σ) (oT σ) (salV σ f) (nrF σ st) home (oW σ - 1 - e) x))) → (∀ y, y < l → mi M 112 (246 * e + 41 * a + y) = mV (min (y + 1) (bR (oW σ) (oT σ) (salV σ f) (nrF σ st) home (oW σ - 1 - e) a))) → Ex (d + 3) m_MM_round bc bs 86 [some (.ref 78), some (.int l1), some (.int l2), some (.int (nI home)), some (.int (nI st)), some (.int (nI pk)), some (.int (nI e)), some (.int (nI a)), some (.int (nI l)), none, none, none] [] M Φ := by
  have h6 := hw.T6
  have hW := hw.W
  intro n
  induction n with
  | zero =>
    intro l M hl h0 hfr hc hT hx hy
    refine k_MM_round_86 h0.1 ⟨fun _ => ?_, fun q => absurd (nI_lt (by omega) (by omega)) q⟩
    rw [nI_add]
    refine H M h0 hfr hc hT (fun x y hxa hyp => ?_)
    by_cases z : x = a
    · subst z; exact hy y (by omega)
    · exact hx x y (by omega) hyp
  | succ n ih =>
    intro l M hl h0 hfr hc hT hx hy
    refine k_MM_round_86 h0.1 ⟨fun q => absurd q (nI_nlt (by omega) (by omega)), fun _ => ?_⟩
    rw [← mV_0]
    refine rdm99 hw h0 hf ha he (by omega) hpk hst hh hT ?_ (oT σ) 0 (by omega)
    refine ih (l + 1) _ (by omega) (h0.wi (.inl rfl)) (hfr.fwi (by simp)) (fun k hk => by rw [mi_n (by decide)]; exact hc k hk) (fun x y z h1 h2 h3 h4 => ?_) (fun x y h1 h2 => ?_) (fun y h1 => ?_)
    · rw [mi_w, u1_n (by omega)]; exact hT x y z h1 h2 h3 h4
    · rw [mi_w, u1_n (by omega)]; exact hx x y h1 h2
    · rw [mi_w]
      by_cases z : y = l
      · subst z; rw [u1_s]
      · rw [u1_n (by omega)]; exact hy y (by omega)
theorem rdm74 (hw : WF σ) (hf : ∀ t, f t < 128) (he : e < oW σ) (hpk : pk ≤ 40) (hst : st ≤ 50) (hh : home < oT σ)
    (H : ∀ M2, PM σ f M2 → FrG [78, 93, 112] [] M0 M2 → (∀ k, k ≠ 23 → mi M2 78 k = mi M0 78 k) → TbM σ f st home pk e M2 → Ex (d + 3) m_MM_round bc bs 66 [some (.ref 78), some (.int l1), some (.int l2), some (.int (nI home)), some (.int (nI st)), some (.int (nI pk)), some (.int (nI e - nI 1)), none, none, none, none, none] [] M2 Φ) :
    ∀ (n a : Nat) (M : Mem), a + n = oT σ → PM σ f M → FrG [78, 93, 112] [] M0 M → (∀ k, k ≠ 23 → mi M 78 k = mi M0 78 k) → TbM σ f st home pk (e + 1) M → (∀ x y, x < a → y ≤ pk → mi M 112 (246 * e + 41 * x + y) = mV (min (y + 1) (bR (oW σ) (oT σ) (salV σ f) (nrF σ st) home (oW σ - 1 - e) x))) → Ex (d + 3) m_MM_round bc bs 74 [some (.ref 78), some (.int l1), some (.int l2), some (.int (nI home)), some (.int (nI st)), some (.int (nI pk)), some (.int (nI e)), some (.int (nI a)), none, none, none, none] [] M Φ := by
  have h6 := hw.T6
  have hW := hw.W
  intro n
  induction n with
  | zero =>
    intro a M ha h0 hfr hc hT hx
    obtain rfl : a = oT σ := by omega
    refine k_MM_round_74 h0.1 ?_
    rw [h0.2.1.1, m1_sub]
    refine ⟨fun _ => H M h0 hfr hc (fun x y z h1 h2 h3 h4 => ?_), fun q => absurd (nI_le (Nat.le_refl _) (by omega)) q⟩
    by_cases w : x = e
    · subst w; exact hx y z h3 h4
    · exact hT x y z (by omega) h2 h3 h4
  | succ n ih =>
    intro a M ha h0 hfr hc hT hx
    refine k_MM_round_74 h0.1 ?_
    rw [h0.2.1.1]
    refine ⟨fun q => absurd q (by rw [nI_leI (by omega) (by omega)]; omega), fun _ => ?_⟩
    exact rdm86 hw hf (show a < oT σ by omega) he hpk hst hh (fun M2 p2 f2 c2 t2 x2 => ih (a + 1) M2 (by omega) p2 f2 c2 t2 x2) (pk + 1) 0 M (by omega) h0 hfr hc hT hx (fun y hy => absurd hy (Nat.not_lt_zero _))
theorem rdm66 (hw : WF σ) (hf : ∀ t, f t < 128) (hpk : pk ≤ 40) (hst : st ≤ 50) (hh : home < oT σ)
    (H : ∀ M2, PM σ f M2 → FrG [78, 93, 112] [] M0 M2 → (∀ k, k ≠ 23 → mi M2 78 k = mi M0 78 k) → TbM σ f st home pk 0 M2 → Ex (d + 3) m_MM_round bc bs 205 [some (.ref 78), some (.int l1), some (.int l2), some (.int (nI home)), some (.int (nI st)), some (.int (nI pk)), some (.int (nI home)), some (.int (nI pk)), some (.int (nI 0)), none, none, none] [] (wi M2 78 23 (nI (oW σ))) Φ) :
    ∀ (n : Nat) (M : Mem), n ≤ oW σ → PM σ f M → FrG [78, 93, 112] [] M0 M → (∀ k, k ≠ 23 → mi M 78 k = mi M0 78 k) → TbM σ f st home pk n M → Ex (d + 3) m_MM_round bc bs 66 [some (.ref 78), some (.int l1), some (.int l2), some (.int (nI home)), some (.int (nI st)), some (.int (nI pk)), some (.int (nI n - nI 1)), none, none, none, none, none] [] M Φ := by
  have h6 := hw.T6
  have hW := hw.W
  intro n
  induction n with
  | zero =>
    intro M hn h0 hfr hc hT
    refine k_MM_round_66 h0.1 ⟨fun _ => ?_, fun q => absurd ((nlt0 (by decide)).mpr rfl) q⟩
    rw [h0.2.1.2.1]
    exact H M h0 hfr hc hT
  | succ n ih =>
    intro M hn h0 hfr hc hT
    refine k_MM_round_66 h0.1 ⟨fun q => absurd ((nlt0 (by omega)).mp q) (by omega), fun _ => ?_⟩
    rw [nI_sub1 (by omega), Nat.add_sub_cancel]
    exact rdm74 hw hf (by omega) hpk hst hh (fun M2 p2 f2 c2 t2 => ih M2 (by omega) p2 f2 c2 t2) (oT σ) 0 M (by omega) h0 hfr hc hT (fun x y hx => absurd hx (Nat.not_lt_zero _))
theorem rdm217 {n : Nat} (hw : WF σ) (h0 : PM σ f M) (hf : ∀ t, f t < 128) (he : e + n + 1 = oW σ) (ha : a < oT σ) (hl : l ≤ pk) (hpk : pk ≤ 40) (hst : st ≤ 50) (hh : home < oT σ) (hT : TbM σ f st home pk 0 M) (hb : 1 ≤ bR (oW σ) (oT σ) (salV σ f) (nrF σ st) home n a)
    (H : Ex (d + 3) m_MM_round bc bs 205 [some (.ref 78), some (.int l1), some (.int l2), some (.int (nI home)), some (.int (nI st)), some (.int (nI pk)), some (.int (nI (stV (oW σ) (oT σ) (salV σ f) (nrF σ st) home n a l))), some (.int (nI (l - salV σ f e (stV (oW σ) (oT σ) (salV σ f) (nrF σ st) home n a l)))), some (.int (nI (e + 1))), none, none, none] [] (wi M 93 e (nI (stV (oW σ) (oT σ) (salV σ f) (nrF σ st) home n a l))) Φ) :
    ∀ (m t : Nat), t + m = oT σ → fsF (stB (oW σ) (oT σ) (salV σ f) (nrF σ st) home n a l) m t = stV (oW σ) (oT σ) (salV σ f) (nrF σ st) home n a l → (∃ i, t ≤ i ∧ i < t + m ∧ stB (oW σ) (oT σ) (salV σ f) (nrF σ st) home n a l i = true) → Ex (d + 3) m_MM_round bc bs 217 [some (.ref 78), some (.int l1), some (.int l2), some (.int (nI home)), some (.int (nI st)), some (.int (nI pk)), some (.int (nI a)), some (.int (nI l)), some (.int (nI e)), some (.int (nI t)), none, none] [] M Φ := by
  obtain ⟨hF, hL, hm, h3⟩ := id h0
  have h6 := hw.T6
  have hW := hw.W
  have hs99 := salV_99 hw f
  intro m
  induction m with
  | zero =>
    intro t ht hfs ⟨i, a1, a2, a3⟩
    omega
  | succ m ih =>
    intro t ht hfs hex
    refine k_MM_round_217 hF ?_
    refine sm_soldBy hw h0 hf ha (show t < oT σ by omega) (by omega) hl hpk hst hh (fun x y z h1 h2 h3 h4 => hT x y z (by omega) h2 h3 h4) ⟨hF, ?_⟩
    simp only [pk_mul, nI_add]
    rw [nI_clamp (by omega), nI_clamp (by omega), hT e a l (by omega) (by omega) ha hl, show oW σ - 1 - e = n by omega]
    have hu := uR_le (W := oW σ) (T := oT σ) (ok := nrF σ st) (home := home) hs99 n t
    have hbl := bR_le (W := oW σ) (T := oT σ) (ok := nrF σ st) (home := home) hs99 n a
    have hn8 : n < 8 := by omega
    have e1 : (mV (if nrF σ st a t = true then min (l + 1) (uR (oW σ) (oT σ) (salV σ f) (nrF σ st) home n t) else 0) = mV (min (l + 1) (bR (oW σ) (oT σ) (salV σ f) (nrF σ st) home n a))) ↔ stB (oW σ) (oT σ) (salV σ f) (nrF σ st) home n a l t = true := by
      unfold stB
      cases y : nrF σ st a t with
      | true =>
        rw [if_pos rfl, Bool.true_and, decide_eq_true_eq, i_eq, mV_T (by omega), mV_T (by omega)]
        omega
      | false =>
        rw [if_neg (by decide), Bool.false_and, i_eq, mV_T (by omega), mV_T (by omega)]
        constructor
        · intro w; omega
        · intro w; cases w
    rw [e1]
    refine ⟨vN (by omega) (by decide), fun q => ?_, fun q => ?_⟩
    · rw [fs_s, if_pos q] at hfs
      subst hfs
      refine sm_sold hw h0 hf (by omega) (by omega) (by omega) ⟨hF, vN (by omega) (by decide), ?_⟩
      rw [pk_sub (Nat.min_le_right _ _), show l - min (salV σ f e (stV (oW σ) (oT σ) (salV σ f) (nrF σ st) home n a l)) l = l - salV σ f e (stV (oW σ) (oT σ) (salV σ f) (nrF σ st) home n a l) by omega]
      exact H
    · rw [fs_s, if_neg q] at hfs
      refine ih (t + 1) (by omega) hfs ?_
      obtain ⟨i, a1, a2, a3⟩ := hex
      have : i ≠ t := fun w => q (w ▸ a3)
      exact ⟨i, by omega, by omega, a3⟩
theorem rdm205 {L : List Nat} (hw : WF σ) (hf : ∀ t, f t < 128) (hpk : pk ≤ 40) (hst : st ≤ 50) (hh : home < oT σ) (H : ∀ M2, PM σ f M2 → FrG [78, 93, 112] [] M0 M2 → mi M2 78 = mi M0 78 → (∀ t v, L[t]? = some v → mi M2 93 t = nI v) → K (mV (min (pk + 1) (bR (oW σ) (oT σ) (salV σ f) (nrF σ st) home (oW σ - 1) home))) M2) :
    ∀ (n e a l : Nat) (pre : List Nat) (M : Mem), e + n = oW σ → a < oT σ → l ≤ pk → PM σ f M → FrG [78, 93, 112] [] M0 M → mi M 78 = mi M0 78 → TbM σ f st home pk 0 M → (1 ≤ n → 1 ≤ bR (oW σ) (oT σ) (salV σ f) (nrF σ st) home (n - 1) a) → pre.length = e → L = pre ++ rlV (oW σ) (oT σ) (salV σ f) (nrF σ st) home n a l → (∀ t v, pre[t]? = some v → mi M 93 t = nI v) → Ex (d + 3) m_MM_round bc bs 205 [some (.ref 78), some (.int l1), some (.int l2), some (.int (nI home)), some (.int (nI st)), some (.int (nI pk)), some (.int (nI a)), some (.int (nI l)), some (.int (nI e)), none, none, none] [] M (PI K) := by
  have h6 := hw.T6
  have hW := hw.W
  intro n
  induction n with
  | zero =>
    intro e a l pre M he ha hl h0 hfr h78 hT hb hp hL hpre
    obtain rfl : e = oW σ := by omega
    obtain ⟨hF, hLd, hm, h3⟩ := id h0
    refine k_MM_round_205 hF ?_
    rw [hLd.2.1, pk_mul, nI_add, nI_clamp (by omega)]
    have et := hT 0 home pk (by omega) (by omega) hh (Nat.le_refl _)
    rw [Nat.mul_zero, Nat.zero_add, Nat.sub_zero] at et
    rw [et]
    refine ⟨fun _ => ⟨vN (by omega) (by decide), PI.mk rfl (H M h0 hfr h78 (fun t v hv => hpre t v ?_))⟩, fun q => absurd (nI_le (Nat.le_refl _) (by omega)) q⟩
    rw [hL, rlV, List.append_nil] at hv
    exact hv
  | succ n ih =>
    intro e a l pre M he ha hl h0 hfr h78 hT hb hp hL hpre
    obtain ⟨hF, hLd, hm, h3⟩ := id h0
    have hb1 := hb (by omega)
    rw [Nat.add_sub_cancel] at hb1
    obtain ⟨v1, v2, v3, v4⟩ := stV_at (l := l) hb1
    refine k_MM_round_205 hF ?_
    rw [hLd.2.1]
    refine ⟨fun q => absurd q (by rw [nI_leI (by omega) (by omega)]; omega), fun _ => ?_⟩
    refine rdm217 hw h0 hf (by omega) ha hl hpk hst hh hT hb1 ?_ (oT σ) 0 (by omega) rfl (stV_ex hb1)
    refine ih (e + 1) _ _ (pre ++ [stV (oW σ) (oT σ) (salV σ f) (nrF σ st) home n a l]) _ (by omega) v1 (by omega) (h0.wi (.inr (.inl rfl))) (hfr.fwi (by simp)) (by rw [mi_n (by decide)]; exact h78) (fun x y z h1 h2 h3 h4 => by rw [mi_n (by decide)]; exact hT x y z h1 h2 h3 h4) (fun hn => ?_) (by rw [List.length_append, hp]; rfl) ?_ (fun t v hv => ?_)
    · obtain ⟨m, rfl⟩ : ∃ m, n = m + 1 := ⟨n - 1, by omega⟩
      exact stV_nx (l := l) hb1
    · rw [hL, rlV, List.append_assoc, show oW σ - 1 - n = e by omega]
      rfl
    · rw [mi_w]
      rcases ap1 hv with ⟨y, y2⟩ | ⟨y, y2⟩
      · rw [u1_n (by omega)]; exact hpre t v y2
      · rw [y, hp, u1_s, y2]
end RDM
theorem MA.roundS {σ : St} {l : List Nat} {M M2 : Mem} (hm : MA σ M) (f : FrG [78, 93, 103, 109, 112] [] M M2) (c : ∀ k, k ≠ 23 → mi M2 78 k = mi M 78 k) (hr : MRound (sRo σ l) M2) : SM (sRo σ l) M M2 := by
  obtain ⟨hF, h0, h1, h2, h3, h4, h5, h6, h7, h8⟩ := hm
  have hlen := hF.len
  have n : ∀ j, 79 ≤ j → j < 103 → j ≠ 93 → mi M2 j = mi M j := fun j a b c => f.row (by omega) (by simp; omega)
  exact ⟨⟨f.fm hF (by simp), by rw [f.lrow (j := 104) (by omega)]; exact h0, h1.cg (fun k hk => c k (by omega)) (fun j a b => n j (by omega) (by omega) (by omega)), h2.cg (fun k a b => c k (by omega)) (fun j a b => n j (by omega) (by omega) (by omega)), h3.cg (c 11 (by decide)) (n 86 (by omega) (by omega) (by omega)), h4.cg (c 14 (by decide)) (n 87 (by omega) (by omega) (by omega)) (n 88 (by omega) (by omega) (by omega)), h5.cg (c 16 (by decide)) (n 89 (by omega) (by omega) (by omega)) (n 90 (by omega) (by omega) (by omega)) (n 91 (by omega) (by omega) (by omega)), h6.cg (c 20 (by decide)) (c 21 (by decide)) (n 92 (by omega) (by omega) (by omega)), hr, h8.cg (n 100 (by omega) (by omega) (by omega)) (n 101 (by omega) (by omega) (by omega)) (n 102 (by omega) (by omega) (by omega))⟩, fun _ h6 hx => MA.keepX f rfl h6 hx⟩
theorem sM_round {d : Nat} {σ : St} {g w home st pk : Int32} {M : Mem} {K : Int32 → Mem → Prop} (hw : WF σ) (hm : MA σ M) (h : ∀ M2, SM (tRound σ g w home st pk) M M2 → K (pRound σ g w home st pk) M2) : Con (d + 5) m_MM_round 0 0 [.ref 78, .int g, .int w, .int home, .int st, .int pk] M (PI K) := by
  obtain ⟨hF, -, hL, -, -, hT, hG, -⟩ := id hm
  have h6 := hw.T6
  have hW := hw.W
  unfold tRound pRound at h
  have bad : (∀ (α : Type) (b : α) (ok : Nat × List Nat → Nat → Nat → Nat → Nat → α), rnG σ g w home st pk b ok = b) → PI K (some (.int (-2))) M := fun q => PI.mk rfl (by
    have := h M (by rw [q]; exact SM.rf hm)
    rwa [q] at this)
  refine Con.ent (k := 6) F_MM_round.1 rfl (Nat.le_of_ble_eq_true rfl) (k_MM_round_0 hF ?_)
  refine sm_givC hw hF hG (fun q => ⟨hF, fun _ => bad (fun _ _ _ => rnG_1 q), (fun z => nomatch z)⟩) (fun i gv e hg q hgm => ⟨hF, (fun z => nomatch z), fun _ => ?_⟩)
  refine sm_weekC hF (fun q2 => ⟨hF, fun _ => bad (fun _ _ _ => rnG_2 q2), (fun z => nomatch z)⟩) (fun wk hwk e2 q2 => ⟨hF, (fun z => nomatch z), fun _ => ?_⟩)
  refine sm_townC hw hF hL (fun q3 => ⟨hF, fun _ => bad (fun _ _ _ => rnG_3 q3), (fun z => nomatch z)⟩) (fun hm1 hhm e3 q3 => ⟨hF, (fun z => nomatch z), fun _ => ?_⟩)
  refine sm_inD hF (by omega) (fun q4 => ⟨hF, fun _ => bad (fun _ _ _ => rnG_4 q4), (fun z => nomatch z)⟩) (fun s1 hs1 e4 q4 => ⟨hF, (fun z => nomatch z), fun _ => ?_⟩)
  refine sm_inD hF (by omega) (fun q5 => ⟨hF, (fun z => nomatch z), fun _ => bad (fun _ _ _ => rnG_5 q5)⟩) (fun p1 hp1 e5 q5 => ⟨hF, fun _ => ?_, (fun z => nomatch z)⟩)
  rw [show ((50 : Nat) : Int) = 50 from rfl] at q4
  rw [show ((40 : Nat) : Int) = 40 from rfl] at q5
  rw [rnG_6 q q2 q3 q4 q5, rnG_6 q q2 q3 q4 q5] at h
  subst e e2 e3 e4 e5
  rw [nI_clamp (n := wk) (by omega), nI_clamp (n := hm1) (by omega), nI_clamp (n := s1) (by omega), nI_clamp (n := p1) (by omega)] at h
  refine sm_spreads hF hL.1 h6 (fun a b => hw.rd a b) hL.2.2.2.2.2.1 (fun M2 hF2 f2 g2 => ⟨hF2, ?_⟩)
  have fM := f2.M hF rfl
  refine sm_laysNow hF2 hw (hL.fr fM) (hgm.fr fM) (hw.gv hg).1 (hw.gv hg).2 hwk (fun M3 hF3 f3 hm3 => ⟨hF3, ?_⟩)
  have fM3 := f3.M hF2 rfl
  have hL3 := (hL.fr fM).fr fM3
  have hl2 := hF2.len
  have hlen := hF.len
  have p3 : PM σ (fun t => marketV σ gv t wk) M3 := ⟨hF3, hL3, hm3, fun x y hx hy => by
    rw [f3.row (j := 103) (by omega) (by decide)]
    exact g2 x y (by omega) (by omega)⟩
  have fr := fx_wk (L3 := [78, 93, 103, 109, 112]) (R3 := []) f2 f3 (by simp) (by simp) (by simp) (by simp)
  have e78 : mi M3 78 = mi M 78 := by rw [f3.row (j := 78) (by omega) (by decide), f2.row (j := 78) (by omega) (by decide)]
  rw [hL3.2.1]
  refine rdm66 hw (fun t => marketV_lt hw) hp1 hs1 hhm (fun M4 p4 f4 c4 t4 => ?_) (oW σ) M3 (Nat.le_refl _) p3 (FrG.rf _ _) (fun _ _ => rfl) (fun x y z h1 h2 h3 h4 => by omega)
  have hb := bR_home (W := oW σ) (s := salV σ (fun t => marketV σ gv t wk)) hhm (nrF_s (σ := σ) (st := s1)) (oW σ - 1)
  refine rdm205 (M0 := wi M4 78 23 (nI (oW σ))) (L := rlV (oW σ) (oT σ) (salV σ (fun t => marketV σ gv t wk)) (nrF σ s1) hm1 (oW σ) hm1 p1) hw (fun t => marketV_lt hw) hp1 hs1 hhm (fun M5 p5 f5 c5 g5 => h M5 ?_) (oW σ) 0 hm1 p1 [] _ (by omega) hhm (Nat.le_refl _) (p4.wi (.inr (.inr ⟨rfl, rfl⟩))) (FrG.rf _ _) rfl (fun x y z h1 h2 h3 h4 => by rw [mi_n (by decide)]; exact t4 x y z h1 h2 h3 h4) (fun _ => hb) rfl rfl (fun t v hv => by cases hv)
  refine hm.roundS ((fr.tr ((f4.fwi (by simp)).wk (by simp) (by simp))).tr (f5.wk (by simp) (by simp))) (fun k hk => by rw [c5, wi_f hk, c4 k hk, e78]) ⟨?_, g5⟩
  show mi M5 78 23 = nI (rlV (oW σ) (oT σ) (salV σ (fun t => marketV σ gv t wk)) (nrF σ s1) hm1 (oW σ) hm1 p1).length
  rw [rlV_len, c5, wi_e]
