/-! walk, both sides -/
def wkV (σ : St) (f : Nat → Nat) (st home s : Nat) : Nat → Nat → Nat → Nat → Int32
  | 0, _, a, v => if a = home then nI v else -100
  | n + 1, e, a, v => if nrF σ st a (oSc σ s e).toNatClampNeg = true then wkV σ f st home s n (e + 1) (oSc σ s e).toNatClampNeg (min 40 (v + salV σ f e (oSc σ s e).toNatClampNeg)) else -20 - nI e
theorem wkV_s {σ : St} {f : Nat → Nat} {st home s n e a v : Nat} : wkV σ f st home s (n + 1) e a v = if nrF σ st a (oSc σ s e).toNatClampNeg = true then wkV σ f st home s n (e + 1) (oSc σ s e).toNatClampNeg (min 40 (v + salV σ f e (oSc σ s e).toNatClampNeg)) else -20 - nI e := rfl
def twB (σ : St) (s : Nat) : Bool := allLT (fun e => tB σ (oSc σ s e)) (oW σ)
def pWalk (σ : St) (g w home st s : Int32) : Int32 := match givAt σ g with
  | none => -2
  | some gv => if isB 0 99 w = true then (if isB 0 ((oT σ : Int) - 1) home = true then (if isB 0 50 st = true then (if isB 0 3 s = true then (if oSo σ s.toNatClampNeg = -1 then -11 else if oSs σ s.toNatClampNeg = oW σ ∧ twB σ s.toNatClampNeg = true then wkV σ (fun t => marketV σ gv t w.toNatClampNeg) st.toNatClampNeg home.toNatClampNeg s.toNatClampNeg (oW σ) 0 home.toNatClampNeg 0 else -2) else -2) else -2) else -2) else -2
section PWK
variable {σ : St} {g w home st s : Int32} {gv : Nat × List Nat} {i : Nat}
theorem pW_1 (h : givAt σ g = none) : pWalk σ g w home st s = -2 := by unfold pWalk; rw [h]
theorem pW_2 (h : (isB 0 99 w && (isB 0 ((oT σ : Int) - 1) home && isB 0 50 st)) = false) : pWalk σ g w home st s = -2 := by
  unfold pWalk
  cases givAt σ g with
  | none => rfl
  | some gv =>
    rw [Bool.and_eq_false_iff, Bool.and_eq_false_iff] at h
    show (if isB 0 99 w = true then (if isB 0 ((oT σ : Int) - 1) home = true then (if isB 0 50 st = true then _ else -2) else -2) else -2) = (-2 : Int32)
    rcases h with h | h | h
    · rw [h]; rfl
    · rw [h]; split <;> rfl
    · rw [h]; split; split <;> rfl; rfl
theorem pW_3 (h : isB 0 3 s = false) : pWalk σ g w home st s = -2 := by
  unfold pWalk
  cases givAt σ g with
  | none => rfl
  | some gv =>
    show (if isB 0 99 w = true then (if isB 0 ((oT σ : Int) - 1) home = true then (if isB 0 50 st = true then (if isB 0 3 s = true then _ else -2) else -2) else -2) else -2) = (-2 : Int32)
    rw [h]; split; split; split <;> rfl; rfl; rfl
theorem pW_4 (h : givAt σ g = some gv) (h1 : isB 0 99 w = true) (h2 : isB 0 ((oT σ : Int) - 1) home = true) (h3 : isB 0 50 st = true) (hi : i < 4) : pWalk σ g w home st (nI i) = if oSo σ i = -1 then -11 else if oSs σ i = oW σ ∧ twB σ i = true then wkV σ (fun t => marketV σ gv t w.toNatClampNeg) st.toNatClampNeg home.toNatClampNeg i (oW σ) 0 home.toNatClampNeg 0 else -2 := by
  unfold pWalk
  rw [h]
  show (if isB 0 99 w = true then (if isB 0 ((oT σ : Int) - 1) home = true then (if isB 0 50 st = true then (if isB 0 3 (nI i) = true then _ else -2) else -2) else -2) else -2) = _
  rw [if_pos h1, if_pos h2, if_pos h3, if_pos (is03 hi), nI_clamp (n := i) (by omega)]
end PWK
theorem twB_at {σ : St} {s e : Nat} (hw : WF σ) (h : twB σ s = true) (he : e < oW σ) : ∃ j, j < oT σ ∧ oSc σ s e = nI j := by
  have h1 : isB 0 ((oT σ : Int) - 1) (oSc σ s e) = true := allLT_t.mp h e he
  have := hw.T6
  exact isB_k h1 (by omega)
section WLX
variable {d bc bs s st home : Nat} {σ : St} {f : Nat → Nat} {M : Mem} {K : Bool → Mem → Prop} {L : Int32 → Mem → Prop}
theorem htx2 (hw : WF σ) (hx : XA σ M) (hs : s < 4) (hz : oSs σ s = oW σ) (h : K (twB σ s) M) : ∀ (n e : Nat), e + n = oW σ → allLT (fun e => tB σ (oSc σ s e)) e = true → Ex (d + 2) m_MD_holdsTowns 0 0 2 [some (.ref 0), some (.ref (67 + 2 * s)), some (.int (nI e))] [] M (PB K) := by
  obtain ⟨hF, hL, -, -, -, -, -, -, hS⟩ := id hx
  obtain ⟨r1, r2, r3⟩ := sheetRef hF hs
  obtain ⟨s1, s2, s3⟩ := hS s hs
  have h6 := hw.T6
  have hW := hw.W
  intro n
  induction n with
  | zero =>
    intro e he ha
    obtain rfl : e = oW σ := by omega
    refine k_MD_holdsTowns_2 hF ⟨r1, ?_⟩
    rw [s2, hz]
    exact ⟨fun _ => PB.mk ha.symm h, fun q => absurd (nI_le (Nat.le_refl _) (by omega)) q⟩
  | succ n ih =>
    intro e he ha
    refine k_MD_holdsTowns_2 hF ⟨r1, ?_⟩
    rw [s2, hz, nI_clamp (by omega), nI_add]
    refine ⟨fun q => absurd q (by rw [nI_leI (by omega) (by omega)]; omega), fun _ => ⟨r1, _, r2, 40, r3, vN (by omega) (by decide), ?_⟩⟩
    rw [s3 e (by omega)]
    refine sx_hasTown hF hL.1 h6 ⟨hF, fun q => ih (e + 1) (by omega) (by rw [allLT_s, ha, Bool.true_and]; exact q), fun q => PB.mk (Eq.symm (allLT_f (i := e) (by omega) q)) h⟩
theorem flw9 (hw : WF σ) (h0 : PX σ f M) (hS : XSheet σ M) (hf : ∀ t, f t < 128) (hs : s < 4) (hz : oSs σ s = oW σ) (ht : twB σ s = true) (hst : st ≤ 50) (hh : home < oT σ) : ∀ (n e a v : Nat), e + n = oW σ → a < oT σ → v ≤ 40 → L (wkV σ f st home s n e a v) M → Ex (d + 4) m_Pedlar_follow 0 0 9 [some (.ref 63), some (.ref (67 + 2 * s)), some (.int (nI home)), some (.int (nI st)), some (.int (nI a)), some (.int (nI v)), some (.int (nI e)), none] [] M (PI L) := by
  obtain ⟨hF, hL, hm⟩ := id h0
  obtain ⟨r1, r2, r3⟩ := sheetRef hF hs
  obtain ⟨s1, s2, s3⟩ := hS s hs
  have h6 := hw.T6
  have hW := hw.W
  intro n
  induction n with
  | zero =>
    intro e a v he ha hv hk
    obtain rfl : e = oW σ := by omega
    refine k_Pedlar_follow_9 hF ⟨r1, ?_⟩
    rw [s2, hz, nI_eq (by omega) (by omega)]
    unfold wkV at hk
    exact ⟨fun _ => ⟨fun q => PI.mk (by rw [if_neg q]) hk, fun q => PI.mk (by rw [if_pos q]) hk⟩, fun q => absurd (nI_le (Nat.le_refl _) (by omega)) q⟩
  | succ n ih =>
    intro e a v he ha hv hk
    obtain ⟨t, ht2, et⟩ := twB_at hw ht (show e < oW σ by omega)
    have h9 := hw.far a t
    have hs1 := salV_99 hw f e t
    rw [wkV_s, et, nI_clamp (by omega)] at hk
    refine k_Pedlar_follow_9 hF ⟨r1, ?_⟩
    rw [s2, hz, nI_clamp (by omega), nI_add e 1]
    refine ⟨fun q => absurd q (by rw [nI_leI (by omega) (by omega)]; omega), fun _ => ⟨r1, _, r2, 40, r3, vN (by omega) (by decide), ?_⟩⟩
    rw [s3 e (by omega), et]
    refine sx_hoursBetween hF hw hL ha ht2 ⟨hF, fun q => ?_, fun q => PI.mk ?_ hk⟩ <;> rw [nI_leI (by omega) (by omega)] at q
    · rw [if_pos (by unfold nrF; rw [decide_eq_true_eq]; exact q)] at hk
      refine sx_salesAt hw h0 hf ht2 (by omega) ⟨hF, ?_⟩
      rw [nI_add, nI_min (by omega) (by omega)]
      exact ih (e + 1) t _ (by omega) ht2 (by omega) hk
    · rw [if_neg (by unfold nrF; rw [decide_eq_true_eq]; exact q)]
end WLX
theorem sX_walk {d : Nat} {σ : St} {g w home st s : Int32} {M : Mem} {K : Int32 → Mem → Prop} (hw : WF σ) (hx : XA σ M) (h : ∀ M2, SX σ M M2 → K (pWalk σ g w home st s) M2) : Con (d + 5) m_MD_walk 0 0 [.ref 0, .int g, .int w, .int home, .int st, .int s] M (PI K) := by
  obtain ⟨hF, hL, -, -, hT, hG, -, -, hS⟩ := id hx
  have h6 := hw.T6
  have hW := hw.W
  have hk := h M (SX.rf hx)
  refine Con.ent (k := 2) F_MD_walk.1 rfl (Nat.le_of_ble_eq_true rfl) (k_MD_walk_0 hF ?_)
  refine sx_givC hw hF hG (fun q => ⟨hF, fun _ => ?_, (fun _ z => nomatch z)⟩) (fun i gv p e hg q hgx => ⟨hF, (fun z => nomatch z), fun a2 ea => ?_⟩)
  · rw [pW_1 q] at hk
    exact sx_shC hF (fun _ => ⟨hF, fun _ => sx_journeyN hF ⟨hF, fun _ => PI.mk rfl hk, (fun z => nomatch z)⟩, (fun _ z => nomatch z)⟩) (fun k hk4 _ _ => ⟨hF, (fun z => nomatch z), fun a4 ea => sx_journeyN hF ⟨hF, fun _ => PI.mk rfl hk, (fun z => nomatch z)⟩⟩)
  cases ea
  refine sx_shC hF (fun q => ⟨hF, fun _ => ?_, (fun _ z => nomatch z)⟩) (fun k hk4 ek q9 => ⟨hF, (fun z => nomatch z), fun a4 ea => ?_⟩)
  · rw [pW_3 q] at hk
    exact sx_journey hw hF hL ⟨hF, fun _ => PI.mk rfl hk, fun _ => PI.mk rfl hk⟩
  cases ea
  refine sx_journey hw hF hL ⟨hF, fun y => PI.mk rfl ?_, fun y => ?_⟩
  · rw [pW_2 y] at hk; exact hk
  rw [Bool.and_eq_true, Bool.and_eq_true] at y
  obtain ⟨q2, q3, q4⟩ := y
  subst ek
  rw [pW_4 q q2 q3 q4 hk4] at hk h
  obtain ⟨r1, r2, r3⟩ := sheetRef hF hk4
  obtain ⟨s1, s2, s3⟩ := hS k hk4
  have k40 := (hw.shs hk4).2
  refine ⟨r1, sx_missing hx hk4 ⟨hF, fun z => ⟨r1, ?_⟩, fun z => PI.mk ?_ hk⟩⟩
  · have z := of_decide_eq_false z
    rw [if_neg z] at hk h
    rw [s2, hL.2.1, nI_eq (by omega) (by omega)]
    refine ⟨fun z2 => PI.mk ?_ hk, fun z2 => ?_⟩
    · rw [if_neg (fun w => z2 w.1)]
    · refine Con.ent (k := 1) F_MD_holdsTowns.1 rfl (Nat.le_of_ble_eq_true rfl) (k_MD_holdsTowns_0 hF (htx2 hw hx hk4 z2 ⟨hF, fun z3 => ?_, fun z3 => PI.mk ?_ hk⟩ (oW σ) 0 (by omega) rfl))
      · have both : oSs σ k = oW σ ∧ twB σ k = true := ⟨z2, z3⟩
        rw [if_pos both] at h
        obtain ⟨wk, hwk, rfl⟩ := isB_w q2
        obtain ⟨hm, hhm, rfl⟩ := isB_k q3 (by omega)
        obtain ⟨st1, hst1, rfl⟩ : ∃ k, k < 51 ∧ st = nI k := by rw [isB_t] at q4; exact i_of (by omega) (by omega) (by omega)
        rw [nI_clamp (n := wk) (by omega), nI_clamp (n := hm) (by omega), nI_clamp (n := st1) (by omega)] at h
        refine sx_openG hw hF hL hT hgx (hw.gv hg).2 hwk (fun M2 hF2 f2 hx2 => ⟨hF2, ?_⟩)
        have hS2 := (hx.q hw f2 hF2 rfl rfl)
        refine Con.ent (k := 4) F_Pedlar_follow.1 rfl (Nat.le_of_ble_eq_true rfl) (k_Pedlar_follow_0 hF2 ?_)
        exact flw9 (L := fun r1 M1 => Fx M1 ∧ PI K (some (.int r1)) M1) hw ⟨hx2.1.1, hx2.1.2.1, hx2.1.2.2.2⟩ hS2.1.2.2.2.2.2.2.2.2 (fun t => marketV_lt hw) hk4 z2 z3 (by omega) hhm (oW σ) 0 hm 0 (by omega) hhm (by omega) ⟨hF2, PI.mk rfl (h M2 hS2)⟩
      · rw [if_neg (fun w => by rw [w.2] at z3; cases z3)]
  · rw [if_pos (of_decide_eq_true z)]
section WLM
variable {d bc bs s st home : Nat} {σ : St} {f : Nat → Nat} {M : Mem} {Φ : Option Value → Mem → Prop} {L : Int32 → Mem → Prop} {l1 l2 l3 l4 l6 : Int32}
theorem wlm85 (hw : WF σ) (hm : MA σ M) (hs : s < 4) (b : Bool) (H : ∀ l7 : Int32, Ex (d + 3) m_MM_walk bc bs 124 [some (.ref 78), some (.int l1), some (.int l2), some (.int l3), some (.int l4), some (.int (nI s)), some (.int (b2i (b && twB σ s))), some (.int l7), none, none, none] [] M Φ) : ∀ (n e : Nat), e + n = oW σ → Ex (d + 3) m_MM_walk bc bs 85 [some (.ref 78), some (.int l1), some (.int l2), some (.int l3), some (.int l4), some (.int (nI s)), some (.int (b2i (b && allLT (fun e => tB σ (oSc σ s e)) e))), some (.int (nI e)), none, none, none] [] M Φ := by
  obtain ⟨hF, -, hL, -, -, -, -, -, -, hS⟩ := id hm
  obtain ⟨s1, s2, s3⟩ := hS s hs
  have h6 := hw.T6
  have hW := hw.W
  intro n
  induction n with
  | zero =>
    intro e he
    obtain rfl : e = oW σ := by omega
    refine k_MM_walk_85 hF ?_
    rw [hL.2.1]
    exact ⟨fun _ => H _, fun q => absurd (nI_le (Nat.le_refl _) (by omega)) q⟩
  | succ n ih =>
    intro e he
    refine k_MM_walk_85 hF ?_
    rw [hL.2.1, pk_mul, nI_add, nI_add, nI_clamp (by omega), s3 e (by omega)]
    refine ⟨fun q => absurd q (by rw [nI_leI (by omega) (by omega)]; omega), fun _ => ⟨fun q => ?_, fun q => ⟨vN (by omega) (by decide), sm_isTown hF hL.1 h6 ⟨hF, ?_⟩⟩⟩⟩
    · have q := (b2i_0 _).mp q
      have e2 : (b && twB σ s) = false := by
        rw [Bool.and_eq_false_iff] at q ⊢
        exact q.imp id (fun w => allLT_m (by omega) w)
      rw [q]
      rw [e2] at H
      exact H _
    · have q : (b && allLT (fun e => tB σ (oSc σ s e)) e) = true := by
        cases w : (b && allLT (fun e => tB σ (oSc σ s e)) e) with
        | true => rfl
        | false => exact absurd ((b2i_0 _).mpr w) q
      rw [Bool.and_eq_true] at q
      have := ih (e + 1) (by omega)
      rw [q.1, allLT_s, q.2, Bool.true_and, Bool.true_and] at this
      exact this
theorem wlm152 (hw : WF σ) (h0 : PM σ f M) (hS : MSheet σ M) (hf : ∀ t, f t < 128) (hs : s < 4) (ht : twB σ s = true) (hst : st ≤ 50) (hh : home < oT σ) : ∀ (n e a v : Nat), e + n = oW σ → a < oT σ → v ≤ 40 → L (wkV σ f st home s n e a v) M → Ex (d + 3) m_MM_walk bc bs 152 [some (.ref 78), some (.int l1), some (.int l2), some (.int (nI home)), some (.int (nI st)), some (.int (nI s)), some (.int l6), some (.int (nI a)), some (.int (nI (40 - v))), some (.int (nI e)), none] [] M (PI L) := by
  obtain ⟨hF, hL, hm, h3⟩ := id h0
  obtain ⟨s1, s2, s3⟩ := hS s hs
  have h6 := hw.T6
  have hW := hw.W
  intro n
  induction n with
  | zero =>
    intro e a v he ha hv hk
    obtain rfl : e = oW σ := by omega
    refine k_MM_walk_152 hF ?_
    rw [hL.2.1, nI_eq (by omega) (by omega), pk_sub (by omega), show 40 - (40 - v) = v by omega]
    unfold wkV at hk
    exact ⟨fun _ => ⟨fun q => PI.mk (by rw [if_neg q]) hk, fun q => PI.mk (by rw [if_pos q]) hk⟩, fun q => absurd (nI_le (Nat.le_refl _) (by omega)) q⟩
  | succ n ih =>
    intro e a v he ha hv hk
    obtain ⟨t, ht2, et⟩ := twB_at hw ht (show e < oW σ by omega)
    have h9 := hw.far a t
    rw [wkV_s, et, nI_clamp (by omega)] at hk
    refine k_MM_walk_152 hF ?_
    rw [hL.2.1]
    simp only [pk_mul, nI_add]
    rw [nI_clamp (show 40 * s + e < 2 ^ 31 by omega), s3 e (by omega), et, nI_add, nI_clamp (show 6 * a + t < 2 ^ 31 by omega), h3 a t (by omega) (by omega)]
    refine ⟨fun q => absurd q (by rw [nI_leI (by omega) (by omega)]; omega), fun _ => ⟨vN (by omega) (by decide), vN (by omega) (by decide), fun q => ?_, fun q => PI.mk ?_ hk⟩⟩ <;> rw [nI_leI (by omega) (by omega)] at q
    · rw [if_pos (by unfold nrF; rw [decide_eq_true_eq]; exact q)] at hk
      refine sm_sold hw h0 hf ht2 (by omega) (by omega) ⟨hF, ?_⟩
      rw [pk_sub (Nat.min_le_right _ _)]
      have := ih (e + 1) t _ (by omega) ht2 (by omega) hk
      rw [show 40 - min 40 (v + salV σ f e t) = 40 - v - min (salV σ f e t) (40 - v) by omega] at this
      exact this
    · rw [if_neg (by unfold nrF; rw [decide_eq_true_eq]; exact q)]
end WLM
theorem sM_walk {d : Nat} {σ : St} {g w home st s : Int32} {M : Mem} {K : Int32 → Mem → Prop} (hw : WF σ) (hm : MA σ M) (h : ∀ M2, SM σ M M2 → K (pWalk σ g w home st s) M2) : Con (d + 5) m_MM_walk 0 0 [.ref 78, .int g, .int w, .int home, .int st, .int s] M (PI K) := by
  obtain ⟨hF, -, hL, -, -, hT, hG, -, -, hS⟩ := id hm
  have h6 := hw.T6
  have hW := hw.W
  have hk := h M (SM.rf hm)
  refine Con.ent (k := 5) F_MM_walk.1 rfl (Nat.le_of_ble_eq_true rfl) (k_MM_walk_0 hF ?_)
  refine sm_givC hw hF hG (fun q => ⟨hF, fun _ => PI.mk (pW_1 q).symm hk, (fun z => nomatch z)⟩) (fun i gv e hg q hgm => ⟨hF, (fun z => nomatch z), fun _ => ?_⟩)
  refine sm_weekC hF (fun q2 => ⟨hF, fun _ => PI.mk (Eq.symm (pW_2 (by rw [q2]; rfl))) hk, (fun z => nomatch z)⟩) (fun wk hwk e2 q2 => ⟨hF, (fun z => nomatch z), fun _ => ?_⟩)
  refine sm_townC hw hF hL (fun q3 => ⟨hF, fun _ => PI.mk (Eq.symm (pW_2 (by rw [q3, Bool.false_and, Bool.and_false]))) hk, (fun z => nomatch z)⟩) (fun hm1 hhm e3 q3 => ⟨hF, (fun z => nomatch z), fun _ => ?_⟩)
  refine sm_inD hF (by omega) (fun q4 => ⟨hF, fun _ => PI.mk (Eq.symm (pW_2 (by rw [show ((50 : Nat) : Int) = 50 from rfl] at q4; rw [q4, Bool.and_false, Bool.and_false]))) hk, (fun z => nomatch z)⟩) (fun s1 hs1 e4 q4 => ⟨hF, (fun z => nomatch z), fun _ => ?_⟩)
  refine sm_inD hF (by omega) (fun q5 => ⟨hF, (fun z => nomatch z), fun _ => PI.mk (pW_3 q5).symm hk⟩) (fun k hk4 e5 q5 => ⟨hF, fun _ => ?_, (fun z => nomatch z)⟩)
  rw [show ((50 : Nat) : Int) = 50 from rfl] at q4
  subst e5
  have k4 : k < 4 := by omega
  rw [pW_4 q q2 q3 q4 k4] at hk h
  subst e e2 e3 e4
  rw [nI_clamp (n := wk) (by omega), nI_clamp (n := hm1) (by omega), nI_clamp (n := s1) (by omega)] at hk h
  obtain ⟨c1, c2, c3⟩ := hS k k4
  have k40 := (hw.shs k4).2
  have vk := vN k4 (by decide)
  rw [nI_clamp (by omega), c1, c2, hL.2.1, nI_eq (by omega) (by omega)]
  refine ⟨vk, fun z => ⟨vk, ?_⟩, fun z => PI.mk ?_ hk⟩
  · rw [if_neg z] at hk h
    have s124 : ∀ (b : Bool) (hb : b = decide (oSs σ k = oW σ)) (l7 : Int32), Ex (d + 5) m_MM_walk 0 0 124 [some (.ref 78), some (.int (nI i)), some (.int (nI wk)), some (.int (nI hm1)), some (.int (nI s1)), some (.int (nI k)), some (.int (b2i (b && twB σ k))), some (.int l7), none, none, none] [] M (PI K) := by
      intro b hb l7
      refine k_MM_walk_124 hF ⟨fun y => ?_, fun y => PI.mk ?_ hk⟩
      · have y : (b && twB σ k) = true := by
          cases w : (b && twB σ k) with
          | true => rfl
          | false => exact absurd ((b2i_0 _).mpr w) y
        rw [Bool.and_eq_true] at y
        have y1 := y.1
        rw [hb, decide_eq_true_eq] at y1
        have both : oSs σ k = oW σ ∧ twB σ k = true := ⟨y1, y.2⟩
        rw [if_pos both] at h
        refine sm_spreads hF hL.1 h6 (fun a b => hw.rd a b) hL.2.2.2.2.2.1 (fun M2 hF2 f2 g2 => ⟨hF2, ?_⟩)
        have fM := f2.M hF rfl
        refine sm_laysNow hF2 hw (hL.fr fM) (hgm.fr fM) (hw.gv hg).1 (hw.gv hg).2 hwk (fun M3 hF3 f3 hm3 => ⟨hF3, ?_⟩)
        have fM3 := f3.M hF2 rfl
        have hl2 := hF2.len
        have p3 : PM σ (fun t => marketV σ gv t wk) M3 := ⟨hF3, (hL.fr fM).fr fM3, hm3, fun x y hx hy => by
          rw [f3.row (j := 103) (by omega) (by decide)]
          exact g2 x y (by omega) (by omega)⟩
        have sm3 := hm.q (fx_wk (L3 := [103, 109]) (R3 := []) f2 f3 (by simp) (by simp) (by simp) (by simp)) hF3 rfl
        exact wlm152 hw p3 sm3.1.2.2.2.2.2.2.2.2.2 (fun t => marketV_lt hw) k4 y.2 hs1 hhm (oW σ) 0 hm1 0 (by omega) hhm (by omega) (h M3 sm3)
      · have y := (b2i_0 _).mp y
        rw [if_neg (fun w => by rw [w.2, hb, decide_eq_true w.1] at y; cases y)]
    refine ⟨fun y => ?_, fun y => ?_⟩
    · exact wlm85 hw hm k4 false (s124 false (decide_eq_false y).symm) (oW σ) 0 (by omega)
    · exact wlm85 hw hm k4 true (s124 true (decide_eq_true y).symm) (oW σ) 0 (by omega)
  · rw [if_pos z]
