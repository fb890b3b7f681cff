/-! rounds: x's side -/
def D0 (f : Nat → Nat → Nat) : Prop := ∀ x, f x x = 0
theorem fw1_0 {f : Nat → Nat → Nat} {m a b : Nat} (h : D0 f) : D0 (fw1 f m a b) := fun x => by
  unfold fw1 u2
  by_cases q : x = a
  · rw [if_pos q]
    by_cases q2 : x = b
    · rw [q2, u1_s, ← q2, ← q, h x]; omega
    · rw [u1_n q2]; exact h x
  · rw [if_neg q]; exact h x
theorem fwB_0 {f : Nat → Nat → Nat} {m a : Nat} (h : D0 f) : ∀ n, D0 (fwB f m a n)
  | 0 => h
  | n + 1 => fw1_0 (fwB_0 h n)
theorem fwA_0 {T : Nat} {f : Nat → Nat → Nat} {m : Nat} (h : D0 f) : ∀ n, D0 (fwA T f m n)
  | 0 => h
  | n + 1 => fwB_0 (fwA_0 h n) T
theorem fwM_0 {T : Nat} {f : Nat → Nat → Nat} (h : D0 f) : ∀ n, D0 (fwM T f n)
  | 0 => h
  | n + 1 => fwA_0 (fwM_0 h n) T
theorem far_0 {T : Nat} {rd : Nat → Nat → Nat} (x : Nat) : far T rd x x = 0 := fwM_0 (fun x => by unfold fw0; rw [if_pos rfl]) T x
theorem nrF_s {σ : St} {st a : Nat} : nrF σ st a a = true := by unfold nrF; rw [decide_eq_true_eq, far_0]; exact Nat.zero_le _
def rnG {α : Type} (σ : St) (g w home st pk : Int32) (bad : α) (ok : Nat × List Nat → Nat → Nat → Nat → Nat → α) : α := match givAt σ g with
  | none => bad
  | some gv => if isB 0 99 w = true then (if isB 0 ((oT σ : Int) - 1) home = true then (if isB 0 50 st = true then (if isB 0 40 pk = true then ok gv w.toNatClampNeg home.toNatClampNeg st.toNatClampNeg pk.toNatClampNeg else bad) else bad) else bad) else bad
section RNG
variable {α : Type} {σ : St} {g w home st pk : Int32} {bad : α} {ok : Nat × List Nat → Nat → Nat → Nat → Nat → α} {gv : Nat × List Nat}
theorem rnG_1 (h : givAt σ g = none) : rnG σ g w home st pk bad ok = bad := by unfold rnG; rw [h]
theorem rnG_2 (h : isB 0 99 w = false) : rnG σ g w home st pk bad ok = bad := by
  unfold rnG
  cases givAt σ g with
  | none => rfl
  | some gv => show (if isB 0 99 w = true then _ else bad) = bad; rw [h]; rfl
theorem rnG_3 (h : isB 0 ((oT σ : Int) - 1) home = false) : rnG σ g w home st pk bad ok = bad := by
  unfold rnG
  cases givAt σ g with
  | none => rfl
  | some gv => show (if isB 0 99 w = true then (if isB 0 ((oT σ : Int) - 1) home = true then _ else bad) else bad) = bad; rw [h]; split <;> rfl
theorem rnG_4 (h : isB 0 50 st = false) : rnG σ g w home st pk bad ok = bad := by
  unfold rnG
  cases givAt σ g with
  | none => rfl
  | some gv => show (if isB 0 99 w = true then (if isB 0 ((oT σ : Int) - 1) home = true then (if isB 0 50 st = true then _ else bad) else bad) else bad) = bad; rw [h]; split; split <;> rfl; rfl
theorem rnG_5 (h : isB 0 40 pk = false) : rnG σ g w home st pk bad ok = bad := by
  unfold rnG
  cases givAt σ g with
  | none => rfl
  | some gv => show (if isB 0 99 w = true then (if isB 0 ((oT σ : Int) - 1) home = true then (if isB 0 50 st = true then (if isB 0 40 pk = true then _ else bad) else bad) else bad) else bad) = bad; rw [h]; split; split; split <;> rfl; rfl; rfl
theorem rnG_6 (h : givAt σ g = some gv) (h1 : isB 0 99 w = true) (h2 : isB 0 ((oT σ : Int) - 1) home = true) (h3 : isB 0 50 st = true) (h4 : isB 0 40 pk = true) : rnG σ g w home st pk bad ok = ok gv w.toNatClampNeg home.toNatClampNeg st.toNatClampNeg pk.toNatClampNeg := by
  unfold rnG
  rw [h]
  show (if isB 0 99 w = true then (if isB 0 ((oT σ : Int) - 1) home = true then (if isB 0 50 st = true then (if isB 0 40 pk = true then _ else bad) else bad) else bad) else bad) = _
  rw [if_pos h1, if_pos h2, if_pos h3, if_pos h4]
end RNG
def pRound (σ : St) (g w home st pk : Int32) : Int32 := rnG σ g w home st pk (-2) (fun gv w home st pk => mV (min (pk + 1) (bR (oW σ) (oT σ) (salV σ (fun t => marketV σ gv t w)) (nrF σ st) home (oW σ - 1) home)))
def tRound (σ : St) (g w home st pk : Int32) : St := rnG σ g w home st pk σ (fun gv w home st pk => sRo σ (rlV (oW σ) (oT σ) (salV σ (fun t => marketV σ gv t w)) (nrF σ st) home (oW σ) home pk))
theorem WF.sRo {σ : St} (h : WF σ) {l : List Nat} (h1 : l.length ≤ 7) (h2 : ∀ v ∈ l, v < 6) : WF (sRo σ l) := by
  obtain ⟨x0, b, c, x, tp, tx, gv, fo, ro, im, ss⟩ := h
  exact ⟨x0, b, c, x, tp, tx, gv, fo, ⟨h1, h2⟩, im, ss⟩
theorem WF.round {σ : St} (h : WF σ) (g w home st pk : Int32) : WF (tRound σ g w home st pk) := by
  have h6 := h.T6
  have hW := h.W
  unfold tRound rnG
  cases givAt σ g with
  | none => exact h
  | some gv =>
    show WF (if isB 0 99 w = true then (if isB 0 ((oT σ : Int) - 1) home = true then (if isB 0 50 st = true then (if isB 0 40 pk = true then _ else σ) else σ) else σ) else σ)
    split
    · split
      · rename_i q
        obtain ⟨hm, hh, rfl⟩ := isB_k q (by omega)
        split
        · split
          · rw [nI_clamp (n := hm) (by omega)]
            refine h.sRo (by rw [rlV_len]; omega) (fun v hv => ?_)
            have := rlV_lt _ _ _ (fun _ => bR_home hh nrF_s _) v hv
            omega
          · exact h
        · exact h
      · exact h
    · exact h
section FDR
variable {d bc bs e st home a pk : Nat} {σ : St} {f : Nat → Nat} {M0 : Mem} {K : Int32 → Mem → Prop} {Φ : Option Value → Mem → Prop} {l3 : Int32}
theorem fdr19 (hw : WF σ) (hf : ∀ t, f t < 128) (he : e < oW σ) (hst : st ≤ 50) (hh : home < oT σ) (H : ∀ M2, PX σ f M2 → FrG [63, 64, 65] [] M0 M2 → TbX σ f st home e M2 → Ex (d + 5) m_Pedlar_findRound bc bs 11 [some (.ref 63), some (.int (nI home)), some (.int (nI st)), some (.int l3), some (.int (nI e - nI 1)), none, none, none] [] M2 Φ) :
    ∀ (n t : Nat) (M : Mem), t + n = oT σ → PX σ f M → FrG [63, 64, 65] [] M0 M → TbX σ f st home (e + 1) M → (∀ q, q < t → mi M 65 (e * 6 + q) = mV (uR (oW σ) (oT σ) (salV σ f) (nrF σ st) home (oW σ - 1 - e) q)) → Ex (d + 5) m_Pedlar_findRound bc bs 19 [some (.ref 63), some (.int (nI home)), some (.int (nI st)), some (.int l3), some (.int (nI e)), some (.int (nI t)), none, none] [] M Φ := by
  have h6 := hw.T6
  have hW := hw.W
  intro n
  induction n with
  | zero =>
    intro t M ht h0 hfr hT hq
    obtain rfl : t = oT σ := by omega
    obtain ⟨hF, hL, hm⟩ := id h0
    refine k_Pedlar_findRound_19 hF ?_
    rw [hL.1, m1_sub]
    refine ⟨fun _ => H M h0 hfr (fun x t h1 h2 h3 => ?_), fun q => absurd (nI_le (Nat.le_refl _) (by omega)) q⟩
    by_cases y : x = e
    · subst y; exact hq t h3
    · exact hT x t (by omega) h2 h3
  | succ n ih =>
    intro t M ht h0 hfr hT hq
    obtain ⟨hF, hL, hm⟩ := id h0
    refine k_Pedlar_findRound_19 hF ?_
    rw [hL.1, pk_mul, nI_add, nI_add, nI_clamp (by omega)]
    refine ⟨fun q => absurd q (by rw [nI_leI (by omega) (by omega)]; omega), fun _ => ?_⟩
    refine sx_mostFrom hw h0 hf he (show t < oT σ by omega) hst hh hT ⟨hF, vN (by omega) (by decide), ih (t + 1) _ (by omega) (h0.wi hw (by decide)) (hfr.fwi (by simp)) (fun x y h1 h2 h3 => ?_) (fun q hq2 => ?_)⟩
    · rw [mi_w, u1_n (by omega)]
      exact hT x y h1 h2 h3
    · rw [mi_w]
      by_cases y : q = t
      · subst y; rw [u1_s]
      · rw [u1_n (by omega)]; exact hq q (by omega)
theorem fdr11 (hw : WF σ) (hf : ∀ t, f t < 128) (hst : st ≤ 50) (hh : home < oT σ) (hpk : pk ≤ 40) (H : ∀ M2, PX σ f M2 → FrG [63, 64, 65] [] M0 M2 → TbX σ f st home 0 M2 → Ex (d + 5) m_Pedlar_findRound bc bs 88 [some (.ref 63), some (.int (nI home)), some (.int (nI st)), some (.int (nI pk)), some (.int (nI (min pk (bR (oW σ) (oT σ) (salV σ f) (nrF σ st) home (oW σ - 1) home - 1)))), some (.int (nI home)), some (.int (nI 0)), some (.int (nI 0))] [] M2 Φ) :
    ∀ (n : Nat) (M : Mem), n ≤ oW σ → PX σ f M → FrG [63, 64, 65] [] M0 M → TbX σ f st home n M → Ex (d + 5) m_Pedlar_findRound bc bs 11 [some (.ref 63), some (.int (nI home)), some (.int (nI st)), some (.int (nI pk)), some (.int (nI n - nI 1)), none, none, none] [] M Φ := by
  have h6 := hw.T6
  have hW := hw.W
  have hs99 := salV_99 hw f
  intro n
  induction n with
  | zero =>
    intro M hn h0 hfr hT
    refine k_Pedlar_findRound_11 h0.1 ⟨fun _ => ?_, fun q => absurd ((nlt0 (by decide)).mpr rfl) q⟩
    have hb := bR_home (W := oW σ) (s := salV σ f) hh (nrF_s (σ := σ) (st := st)) (oW σ - 1)
    have hb2 := bR_le (W := oW σ) (T := oT σ) (ok := nrF σ st) (home := home) hs99 (oW σ - 1) home
    refine sx_mostBeyond (u := uR (oW σ) (oT σ) (salV σ f) (nrF σ st) home (oW σ - 1)) hw h0 (by omega) hh hst (fun q hq => hT 0 q (by omega) (by omega) hq) (fun q => ?_) ⟨h0.1, ?_⟩
    · have := uR_le (W := oW σ) (T := oT σ) (ok := nrF σ st) (home := home) hs99 (oW σ - 1) q
      omega
    · have e : (if mV (maxLT (nrF σ st home) (uR (oW σ) (oT σ) (salV σ f) (nrF σ st) home (oW σ - 1)) (oT σ)) < nI pk then mV (maxLT (nrF σ st home) (uR (oW σ) (oT σ) (salV σ f) (nrF σ st) home (oW σ - 1)) (oT σ)) else nI pk) = nI (min pk (bR (oW σ) (oT σ) (salV σ f) (nrF σ st) home (oW σ - 1) home - 1)) := by
        show (if mV (bR (oW σ) (oT σ) (salV σ f) (nrF σ st) home (oW σ - 1) home) < nI pk then mV (bR (oW σ) (oT σ) (salV σ f) (nrF σ st) home (oW σ - 1) home) else nI pk) = _
        rw [← mV_s (n := pk), mV_min (by omega) (by omega), ← mV_s (n := min pk _)]
        congr 1
        omega
      rw [e]
      exact H M h0 hfr hT
  | succ n ih =>
    intro M hn h0 hfr hT
    refine k_Pedlar_findRound_11 h0.1 ⟨fun q => absurd ((nlt0 (by omega)).mp q) (by omega), fun _ => ?_⟩
    rw [nI_sub1 (by omega), Nat.add_sub_cancel]
    exact fdr19 hw hf (by omega) hst hh (fun M2 p2 f2 t2 => ih M2 (by omega) p2 f2 t2) (oT σ) 0 M (by omega) h0 hfr hT (fun q hq => absurd hq (Nat.not_lt_zero _))
theorem fst3 {u : Nat → Nat} {p : Nat → Bool} {g : Int32} {M : Mem} (hw : WF σ) (h0 : PX σ f M) (he : e < 7) (ha : a < oT σ) (hst : st ≤ 50) (hu : ∀ t, t < oT σ → mi M 65 (e * 6 + t) = mV (u t)) (hub : ∀ t, u t ≤ 1000) (hp : ∀ t, t < oT σ → p t = (nrF σ st a t && decide (u t ≠ 0 ∧ g.toInt ≤ (u t : Int) - 1))) (h : K (nI (fsF p (oT σ) 0)) M) :
    ∀ (n t : Nat), t + n = oT σ → fsF p n t = fsF p (oT σ) 0 → (∃ i, t ≤ i ∧ i < t + n ∧ p i = true) → Ex (d + 2) m_Pedlar_firstStop bc bs 3 [some (.ref 63), some (.int (nI e)), some (.int (nI a)), some (.int (nI st)), some (.int g), some (.int (nI t)), none] [] M (PI K) := by
  obtain ⟨hF, hL, hm⟩ := h0
  have h6 := hw.T6
  intro n
  induction n with
  | zero =>
    intro t ht hfs ⟨i, a1, a2, a3⟩
    omega
  | succ n ih =>
    intro t ht hfs hex
    refine k_Pedlar_firstStop_3 hF ?_
    rw [hL.1, pk_mul, nI_add, nI_add, nI_clamp (by omega), hu t (by omega)]
    have h9 := hw.far a t
    have hpt := hp t (by omega)
    have hbt := hub t
    have nx : p t = false → Ex (d + 2) m_Pedlar_firstStop bc bs 3 [some (.ref 63), some (.int (nI e)), some (.int (nI a)), some (.int (nI st)), some (.int g), some (.int (nI (t + 1))), none] [] M (PI K) := fun y => by
      refine ih (t + 1) (by omega) ?_ ?_
      · rw [fs_s, y] at hfs; exact hfs
      · obtain ⟨i, a1, a2, a3⟩ := hex
        have : i ≠ t := fun w => by rw [w, y] at a3; cases a3
        exact ⟨i, by omega, by omega, a3⟩
    refine ⟨fun q => absurd q (by rw [nI_leI (by omega) (by omega)]; omega), fun _ => ⟨vN (by omega) (by decide), ?_⟩⟩
    refine sx_hoursBetween hF hw hL ha (show t < oT σ by omega) ⟨hF, fun q => nx ?_, fun q => ⟨fun q2 => nx ?_, fun q2 => ⟨fun q3 => nx ?_, fun q3 => PI.mk ?_ h⟩⟩⟩ <;> rw [nI_ltI (by omega) (by omega)] at q
    · rw [hpt, show nrF σ st a t = false by unfold nrF; rw [decide_eq_false_iff_not]; omega, Bool.false_and]
    · rw [mV_m1 (by omega)] at q2
      rw [hpt, decide_eq_false (by omega), Bool.and_false]
    · rw [i_lt, mV_T (by omega)] at q3
      rw [hpt, decide_eq_false (by omega), Bool.and_false]
    · rw [mV_m1 (by omega)] at q2
      rw [i_lt, mV_T (by omega)] at q3
      have y : p t = true := by rw [hpt, decide_eq_true (by omega), show nrF σ st a t = true by unfold nrF; rw [decide_eq_true_eq]; omega]; rfl
      rw [← hfs, fs_s, if_pos y]
theorem sx_firstStop {n G S l : Nat} {M : Mem} (hw : WF σ) (h0 : PX σ f M) (he : e + n + 1 = oW σ) (ha : a < oT σ) (hst : st ≤ 50) (hT : TbX σ f st home 0 M) (hb : 1 ≤ bR (oW σ) (oT σ) (salV σ f) (nrF σ st) home n a) (hG : G ≤ 1000) (hS : S ≤ 1000) (hr : G - S = min l (bR (oW σ) (oT σ) (salV σ f) (nrF σ st) home n a - 1)) (h : K (nI (stV (oW σ) (oT σ) (salV σ f) (nrF σ st) home n a l)) M) : Con (d + 2) m_Pedlar_firstStop 0 0 [.ref 63, .int (nI e), .int (nI a), .int (nI st), .int (nI G - nI S)] M (PI K) := by
  have hW := hw.W
  have hs99 := salV_99 hw f
  refine Con.ent (k := 2) F_Pedlar_firstStop.1 rfl (Nat.le_of_ble_eq_true rfl) (k_Pedlar_firstStop_0 h0.1 ?_)
  refine fst3 (u := uR (oW σ) (oT σ) (salV σ f) (nrF σ st) home n) (p := stB (oW σ) (oT σ) (salV σ f) (nrF σ st) home n a l) hw h0 (by omega) ha hst (fun q hq => ?_) (fun q => ?_) (fun q hq => ?_) h (oT σ) 0 (by omega) rfl (stV_ex hb)
  · rw [hT e q (by omega) (by omega) hq, show oW σ - 1 - e = n by omega]
  · have := uR_le (W := oW σ) (T := oT σ) (ok := nrF σ st) (home := home) hs99 n q
    omega
  · unfold stB
    cases y : nrF σ st a q with
    | false => rw [Bool.false_and, Bool.false_and]
    | true =>
      have hle : uR (oW σ) (oT σ) (salV σ f) (nrF σ st) home n q ≤ bR (oW σ) (oT σ) (salV σ f) (nrF σ st) home n a := max_le y hq
      rw [Bool.true_and, Bool.true_and]
      refine decide_eq_decide.mpr ?_
      rw [pk_sub_toInt (by omega) (by omega)]
      omega
theorem fdr88 {G : Nat} {L : List Nat} (hw : WF σ) (hf : ∀ t, f t < 128) (hst : st ≤ 50) (hh : home < oT σ) (hG : G ≤ 40) (H : ∀ M2, PX σ f M2 → FrG [63, 64, 65] [] M0 M2 → (∀ t v, L[t]? = some v → mi M2 64 t = nI v) → K (nI G) (wi M2 63 3 (nI (oW σ)))) :
    ∀ (n e a S l : Nat) (pre : List Nat) (M : Mem), e + n = oW σ → a < oT σ → S ≤ 100 * e → PX σ f M → FrG [63, 64, 65] [] M0 M → TbX σ f st home 0 M → (1 ≤ n → 1 ≤ bR (oW σ) (oT σ) (salV σ f) (nrF σ st) home (n - 1) a ∧ G - S = min l (bR (oW σ) (oT σ) (salV σ f) (nrF σ st) home (n - 1) a - 1)) → pre.length = e → L = pre ++ rlV (oW σ) (oT σ) (salV σ f) (nrF σ st) home n a l → (∀ t v, pre[t]? = some v → mi M 64 t = nI v) → Ex (d + 5) m_Pedlar_findRound bc bs 88 [some (.ref 63), some (.int (nI home)), some (.int (nI st)), some (.int l3), some (.int (nI G)), some (.int (nI a)), some (.int (nI S)), some (.int (nI e))] [] M (PI K) := by
  have h6 := hw.T6
  have hW := hw.W
  have hs99 := salV_99 hw f
  intro n
  induction n with
  | zero =>
    intro e a S l pre M he ha hS h0 hfr hT hb hl hL hpre
    obtain rfl : e = oW σ := by omega
    obtain ⟨hF, hLd, hm⟩ := id h0
    refine k_Pedlar_findRound_88 hF ?_
    rw [hLd.2.1]
    refine ⟨fun _ => PI.mk rfl (H M h0 hfr (fun t v hv => hpre t v ?_)), fun q => absurd (nI_le (Nat.le_refl _) (by omega)) q⟩
    rw [hL, rlV, List.append_nil] at hv
    exact hv
  | succ n ih =>
    intro e a S l pre M he ha hS h0 hfr hT hb hl hL hpre
    obtain ⟨hF, hLd, hm⟩ := id h0
    obtain ⟨hb1, hb2⟩ := hb (by omega)
    rw [Nat.add_sub_cancel] at hb1 hb2
    obtain ⟨v1, v2, v3, v4⟩ := stV_at (l := l) hb1
    refine k_Pedlar_findRound_88 hF ?_
    rw [hLd.2.1]
    refine ⟨fun q => absurd q (by rw [nI_leI (by omega) (by omega)]; omega), fun _ => ?_⟩
    refine sx_firstStop hw h0 (by omega) ha hst hT hb1 (by omega) (by omega) hb2 ⟨hF, ?_⟩
    refine sx_salesAt hw h0 hf v1 (by omega) ⟨hF, vN (by omega) (by decide), ?_⟩
    rw [nI_add, nI_add, nI_clamp (by omega)]
    have hs1 := hs99 e (stV (oW σ) (oT σ) (salV σ f) (nrF σ st) home n a l)
    refine ih (e + 1) _ _ (l - salV σ f e (stV (oW σ) (oT σ) (salV σ f) (nrF σ st) home n a l)) (pre ++ [stV (oW σ) (oT σ) (salV σ f) (nrF σ st) home n a l]) _ (by omega) v1 (by omega) (h0.wi hw (by decide)) (hfr.fwi (by simp)) (fun x t h1 h2 h3 => by rw [mi_n (by decide)]; exact hT x t h1 h2 h3) (fun hn => ?_) (by rw [List.length_append, hl]; rfl) ?_ (fun t v hv => ?_)
    · obtain ⟨m, rfl⟩ : ∃ m, n = m + 1 := ⟨n - 1, by omega⟩
      have hnx := stV_nx (l := l) hb1
      rw [Nat.add_sub_cancel]
      refine ⟨hnx, ?_⟩
      rw [uR_s, if_neg (by omega), show oW σ - 1 - (m + 1) = e by omega] at v3
      omega
    · rw [hL, rlV, List.append_assoc, show oW σ - 1 - n = e by omega]
      rfl
    · rw [mi_w]
      rcases ap1 hv with ⟨y, y2⟩ | ⟨y, y2⟩
      · rw [u1_n (by omega)]; exact hpre t v y2
      · rw [y, hl, u1_s, y2]
theorem sx_findRound {M : Mem} (hw : WF σ) (h0 : PX σ f M) (hf : ∀ t, f t < 128) (hst : st ≤ 50) (hh : home < oT σ) (hpk : pk ≤ 40) (h : ∀ M2, Fx M2 → FrG [63, 64, 65] [] M M2 → mi M2 63 3 = nI (oW σ) → (∀ t v, (rlV (oW σ) (oT σ) (salV σ f) (nrF σ st) home (oW σ) home pk)[t]? = some v → mi M2 64 t = nI v) → K (mV (min (pk + 1) (bR (oW σ) (oT σ) (salV σ f) (nrF σ st) home (oW σ - 1) home))) M2) : Con (d + 5) m_Pedlar_findRound 0 0 [.ref 63, .int (nI home), .int (nI st), .int (nI pk)] M (PI K) := by
  have hW := hw.W
  have hb := bR_home (W := oW σ) (s := salV σ f) hh (nrF_s (σ := σ) (st := st)) (oW σ - 1)
  refine Con.ent (k := 4) F_Pedlar_findRound.1 rfl (Nat.le_of_ble_eq_true rfl) (k_Pedlar_findRound_0 h0.1 ?_)
  rw [h0.2.1.2.1]
  refine fdr11 hw hf hst hh hpk (fun M2 p2 f2 t2 => ?_) (oW σ) M (Nat.le_refl _) h0 (FrG.rf _ _) (fun x t h1 h2 h3 => by omega)
  refine fdr88 (M0 := M) (L := rlV (oW σ) (oT σ) (salV σ f) (nrF σ st) home (oW σ) home pk) hw hf hst hh (by omega) (fun M3 p3 f3 g3 => ?_) (oW σ) 0 home 0 pk [] M2 (by omega) hh (by omega) p2 f2 t2 (fun _ => ⟨hb, by omega⟩) rfl rfl (fun t v hv => by cases hv)
  have := h (wi M3 63 3 (nI (oW σ))) p3.1.fwi (f3.fwi (by simp)) wi_e (fun t v hv => by rw [mi_n (by decide)]; exact g3 t v hv)
  rw [show min (pk + 1) (bR (oW σ) (oT σ) (salV σ f) (nrF σ st) home (oW σ - 1) home) = min pk (bR (oW σ) (oT σ) (salV σ f) (nrF σ st) home (oW σ - 1) home - 1) + 1 by omega, mV_s] at this
  exact this
end FDR
theorem sx_journey {d p : Nat} {σ : St} {w home st : Int32} {M : Mem} {K : Bool → Mem → Prop} (hw : WF σ) (hF : Fx M) (hL : XLand σ M) (h : K (isB 0 99 w && (isB 0 ((oT σ : Int) - 1) home && isB 0 50 st)) M) : Con (d + 2) m_MD_isJourney 0 0 [.ref 0, .ref p, .int w, .int home, .int st] M (PB K) := by
  have e50 : (nI 50).toInt = 50 := rfl
  refine Con.of (lo := [some (.ref 0), some (.ref p), some (.int w), some (.int home), some (.int st)]) F_MD_isJourney.1 rfl (Nat.le_of_ble_eq_true rfl) (k_MD_isJourney_0 hF ?_)
  refine sx_weekC hF (fun q => ⟨hF, fun _ => PB.mk (by rw [q]; rfl) h, (fun z => nomatch z)⟩) (fun k hk e q => ⟨hF, (fun z => nomatch z), fun _ => ?_⟩)
  refine sx_townC hw hF hL (fun q2 => ⟨hF, fun _ => PB.mk (by rw [q2, Bool.false_and, Bool.and_false]) h, (fun z => nomatch z)⟩) (fun j hj e2 q2 => ⟨hF, (fun z => nomatch z), fun _ => ⟨fun z => PB.mk ?_ h, fun z => ⟨fun z2 => PB.mk ?_ h, fun z2 => PB.mk ?_ h⟩⟩⟩)
  · rw [i_lt, i_0] at z
    rw [isB_f (x := st) |>.mpr (by omega), Bool.and_false, Bool.and_false]
  · rw [i_lt, i_0] at z; rw [i_lt, e50] at z2
    rw [isB_f (x := st) |>.mpr (by omega), Bool.and_false, Bool.and_false]
  · rw [i_lt, i_0] at z; rw [i_lt, e50] at z2
    rw [isB_t (x := st) |>.mpr (by omega), q, q2]; rfl
theorem sx_journeyN {d : Nat} {w home st : Int32} {M : Mem} {K : Bool → Mem → Prop} (hF : Fx M) (h : K false M) : Con (d + 1) m_MD_isJourney 0 0 [.ref 0, .null, .int w, .int home, .int st] M (PB K) := Con.of (lo := [some (.ref 0), some .null, some (.int w), some (.int home), some (.int st)]) F_MD_isJourney.1 rfl (Nat.le_of_ble_eq_true rfl) (k_MD_isJourney_n_0 hF (PB.mk rfl h))
theorem XA.roundS {σ : St} {l : List Nat} {M M2 : Mem} (hw : WF σ) (hx : XA σ M) (f : FrG [52, 63, 64, 65] [51] M M2) (hF2 : Fx M2) (hr : XRound (sRo σ l) M2) : SX (sRo σ l) M M2 := by
  obtain ⟨hF, h1, h2, h3, h4, h5, h6, h7, h8⟩ := hx
  have hlen := hF.len
  have n : ∀ j, j < 75 → j ≠ 52 → ¬ (63 ≤ j ∧ j < 66) → mi M2 j = mi M j := fun j a b c => f.row (by omega) (by simp; omega)
  have rr : ∀ i, i < 51 → mr M2 i = mr M i := fun i hi => f.rrow (by omega) (by simp; omega)
  have hs := f.hi rfl rfl
  exact ⟨⟨hF2, h1.cg (fun j a b => n j (by omega) (by omega) (by omega)) hw.T6, h2.cg (by rw [n 0 (by omega) (by omega) (by omega)]) (fun j a b => n j (by omega) (by omega) (by omega)), h3.cg (by rw [n 43 (by omega) (by omega) (by omega)]) (n 44 (by omega) (by omega) (by omega)), h4.cg hs (by rw [n 46 (by omega) (by omega) (by omega)]) (rr 47 (by omega)), h5.cg hs (by rw [n 0 (by omega) (by omega) (by omega)]) (rr 50 (by omega)), h6.cg (by rw [n 53 (by omega) (by omega) (by omega)]) (n 54 (by omega) (by omega) (by omega)), hr, h8.cg (fun j a b => n j (by omega) (by omega) (by omega))⟩, fun _ hm => XA.keepM f rfl rfl hm⟩
theorem sX_round {d : Nat} {σ : St} {g w home st pk : Int32} {M : Mem} {K : Int32 → Mem → Prop} (hw : WF σ) (hx : XA σ M) (h : ∀ M2, SX (tRound σ g w home st pk) M M2 → K (pRound σ g w home st pk) M2) : Con (d + 6) m_MD_round 0 0 [.ref 0, .int g, .int w, .int home, .int st, .int pk] M (PI K) := by
  obtain ⟨hF, hL, -, -, hT, hG, -⟩ := id hx
  have h6 := hw.T6
  have hW := hw.W
  unfold tRound pRound at h
  have bad : (∀ (α : Type) (b : α) (ok : Nat × List Nat → Nat → Nat → Nat → Nat → α), rnG σ g w home st pk b ok = b) → PI K (some (.int (-2))) M := fun q => PI.mk rfl (by
    have := h M (by rw [q]; exact SX.rf hx)
    rwa [q] at this)
  refine Con.ent (k := 1) F_MD_round.1 rfl (Nat.le_of_ble_eq_true rfl) (k_MD_round_0 hF ?_)
  refine sx_givC hw hF hG (fun q => ⟨hF, fun _ => sx_journeyN hF ⟨hF, fun _ => bad (fun _ _ _ => rnG_1 q), (fun z => nomatch z)⟩, (fun _ z => nomatch z)⟩) (fun i gv p e hg q hgx => ⟨hF, (fun z => nomatch z), fun a2 ea => ?_⟩)
  cases ea
  refine sx_journey hw hF hL ⟨hF, fun y => bad (fun _ _ _ => ?_), fun y => ⟨fun z => bad (fun _ _ _ => rnG_5 ?_), fun z => ⟨fun z2 => ?_, fun z2 => bad (fun _ _ _ => rnG_5 ?_)⟩⟩⟩
  · rw [Bool.and_eq_false_iff, Bool.and_eq_false_iff] at y
    rcases y with y | y | y
    · exact rnG_2 y
    · exact rnG_3 y
    · exact rnG_4 y
  · rw [isB_f]; rw [i_lt, i_0] at z; omega
  · rw [i_lt, i_0] at z; rw [i_le, show (nI 40).toInt = 40 from rfl] at z2
    have q5 : isB 0 40 pk = true := isB_t.mpr (by omega)
    rw [Bool.and_eq_true, Bool.and_eq_true] at y
    obtain ⟨q2, q3, q4⟩ := y
    rw [rnG_6 q q2 q3 q4 q5, rnG_6 q q2 q3 q4 q5] at h
    obtain ⟨wk, hwk, rfl⟩ := isB_w q2
    obtain ⟨hm, hhm, rfl⟩ := isB_k q3 (by omega)
    obtain ⟨s1, hs1, rfl⟩ : ∃ k, k < 51 ∧ st = nI k := by rw [isB_t] at q4; exact i_of (by omega) (by omega) (by omega)
    obtain ⟨p1, hp1, rfl⟩ : ∃ k, k < 41 ∧ pk = nI k := i_of (by omega) (by omega) (by omega)
    rw [nI_clamp (n := wk) (by omega), nI_clamp (n := hm) (by omega), nI_clamp (n := s1) (by omega), nI_clamp (n := p1) (by omega)] at h
    refine sx_openG hw hF hL hT hgx (hw.gv hg).2 hwk (fun M2 hF2 f2 hx2 => ⟨hF2, ?_⟩)
    refine sx_findRound hw ⟨hx2.1.1, hx2.1.2.1, hx2.1.2.2.2⟩ (fun t => marketV_lt hw) (by omega) hhm (by omega) (fun M3 hF3 f3 c3 g3 => ⟨hF3, PI.mk rfl (h M3 (hx.roundS hw (fx_wk f2 f3 (by simp) (by simp) (by simp) (by simp)) hF3 ?_))⟩)
    refine ⟨?_, g3⟩
    show mi M3 63 3 = nI (rlV (oW σ) (oT σ) (salV σ (fun t => marketV σ gv t wk)) (nrF σ s1) hm (oW σ) hm p1).length
    rw [rlV_len]; exact c3
  · rw [isB_f]; rw [i_le, show (nI 40).toInt = 40 from rfl] at z2; omega
