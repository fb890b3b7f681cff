/-! TEXT: m's loop over tokens -/
theorem mR_w3 {s k v : Nat} {ts : List Tok} {mn : Bool} {H : List Nat} {O : List Int32} : mR ((s, k, v) :: ts) true mn H O =
    if k = 1 then mR ts false mn (unH 7 H) (O ++ nI (100000 + v) :: unO 7 H)
    else if k = 2 then mR ts false mn (unH 7 H) (O ++ nI v :: unO 7 H)
    else if k = 6 ∧ mn = true then (if opnN H = 5 then .inl s else mR ts true mn (13 :: H) O)
    else if k = 45 then (if opnN H = 5 then .inl s else mR ts true false (19 :: H) O)
    else if k = 40 then (if opnN H = 5 then .inl s else mR ts true true (0 :: H) O)
    else .inl s := rfl
theorem mR_n3 {s k v : Nat} {ts : List Tok} {mn : Bool} {H : List Nat} {O : List Int32} : mR ((s, k, v) :: ts) false mn H O =
    if k = 59 then (if unH 1 H = [] then .inr (O ++ unO 1 H, ts) else .inl s)
    else if k = 41 then (if unH 1 H = [] then .inl s else mR ts false mn (unH 7 (unH 1 H).tail) (O ++ unO 1 H ++ unO 7 (unH 1 H).tail))
    else if sgn k = 99 then .inl s
    else if rnk (sgn k) = 4 ∧ hd4 (unH (btL (sgn k)) H) = true then .inl s
    else mR ts true (decide (sgn k ≤ 12)) (sgn k :: unH (btL (sgn k)) H) (O ++ unO (btL (sgn k)) H) := rfl
theorem EM.n {T : Nat} {H : List Nat} {W : List Int32} {M0 M M2 : Mem} (hF : Fm M0) (h : EM T H W M0 M) (g : FNm M M2) : EM T H W M0 M2 := by
  obtain ⟨f, hh, ho, hO⟩ := h
  have hl := (f.1.fm hF (by simp)).len
  refine ⟨f.n hF g, ⟨by rw [g.2 46 (by omega)]; exact hh.1, fun i c hi => by rw [g.1.row (by omega) (by decide)]; exact hh.2 i c hi⟩, by rw [g.2 47 (by omega)]; exact ho, by rw [g.2 48 (by omega)]; exact hO.1, fun i c hi => by rw [g.1.row (by omega) (by decide)]; exact hO.2 i c hi⟩
theorem kOK_lt {k v : Nat} (h : k = 0 ∨ kOK k v) : k < 62 := by
  unfold kOK at h; omega
def bI (b : Bool) : Int32 := nI (if b = true then 1 else 0)
theorem bI_t : ¬ bI true = 0 := by decide
theorem bI_f : bI false = 0 := rfl
section ERL
variable {d bc bs T : Nat} {tp : List Nat} {M0 : Mem} {K : Bool → Mem → Prop} {R : Res}
theorem erd14 (h160 : tp.length ≤ 160) (hb : ∀ i, byt tp i < 256) (hF0 : Fm M0) (ht : TBm tp M0) (hWd : WDm M0) (hT : T < 6) (h14 : mi M0 78 14 = nI T)
    (HN : ∀ f M2, R = .inl f → FRm T M0 M2 → mi M2 78 41 = nI f → f ≤ tp.length → K false M2)
    (HY : ∀ W2 ts2 q M2, R = .inr (W2, ts2) → FRm T M0 M2 → OutM T W2 M2 → mi M2 78 40 = nI q → TL tp q ts2 → K true M2) :
    ∀ (n : Nat) (ts : List Tok) (w mn : Bool) (H : List Nat) (W : List Int32) (p : Nat) (M : Mem), ts.length = n → HH H → opnN H ≤ 5 → W.length + H.length + ts.length < 190 → EM T H W M0 M → mi M 78 40 = nI p → TL tp p ts → mR ts w mn H W = R → Ex (d + 5) m_MM_eRead bc bs 14 [some (.ref 78), some (.int (bI w)), some (.int (bI mn)), none] [] M (PB K) := by
  intro n
  induction n with
  | zero =>
    intro ts w mn H W p M hn hH ho hlen h0 h40 hTL hR
    rcases hTL.nx with ⟨-, -, e⟩ | ⟨-, -, -, tl, e, -⟩ <;> rw [e] at hn <;> cases hn
  | succ n ih =>
    intro ts w mn H W p M hn hH ho hlen h0 h40 hTL hR
    have hF := h0.1.1.fm hF0 (by simp)
    have hk := hTL.k.1
    refine k_MM_eRead_14 hF ?_
    refine sm_next h160 hb hF (h0.1.tb hF0 ht) (h0.1.wd hF0 hWd) h40 hTL (fun M1 f1 c1 => ⟨f1.1.fm hF (by simp), ?_⟩)
    obtain ⟨s, k, v, tl, e, g41, g42, g43, g40, hs⟩ := c1
    subst e
    have e1 := h0.n hF0 f1
    have hF1 := f1.1.fm hF (by simp)
    have hk0 := hk (s, k, v) List.mem_cons_self
    have hk62 : k < 62 := kOK_lt hk0
    have eqk : ∀ c, c < 2 ^ 31 → c ≠ 7 → (mi M1 78 42 = nI c ↔ k = c) := fun c a b => by rw [g42]; exact mtk_eq (by omega) a b
    rw [List.length_cons] at hn hlen
    have u1 := un_len (l := 1) H
    have u7 := un_len (l := 7) H
    have o1 := opnN_un (l := 1) H
    have o7 := opnN_un (l := 7) H
    rw [eqk 59 (by decide) (by decide), eqk 41 (by decide) (by decide), eqk 1 (by decide) (by decide), eqk 2 (by decide) (by decide), eqk 6 (by decide) (by decide)]
    have nofail : R = .inl s → PB K (some (.int (b2i false))) M1 := fun q => PB.mk rfl (HN s M1 q e1.1 g41 hs)
    cases w with
    | true =>
      rw [mR_w3] at hR
      refine ⟨fun z => absurd z bI_t, fun _ => ?_⟩
      have num : k = 1 ∨ k = 2 → Ex (d + 5) m_MM_eRead bc bs 38 [some (.ref 78), some (.int (bI true)), some (.int (bI mn)), none] [] M1 (PB K) := by
        intro hk12
        obtain ⟨q, a40, aTL⟩ := g40 (by omega)
        have gv := g43 (by omega)
        refine k_MM_eRead_38 hF1 ?_
        rw [eqk 1 (by decide) (by decide), gv, nI_add]
        have go : ∀ c : Int32, mR tl false mn (unH 7 H) (W ++ c :: unO 7 H) = R → Con (d + 4) m_MM_puts 0 0 [.ref 78, .int c] M1 (PV fun M2 => Fm M2 ∧ Con (d + 4) m_MM_unwinds 0 0 [.ref 78, .int (nI 7)] M2 (PV fun M3 => Fm M3 ∧ Ex (d + 5) m_MM_eRead bc bs 14 [some (.ref 78), some (.int (nI 0)), some (.int (bI mn)), none] [] M3 (PB K))) := by
          intro c hc
          refine sm_puts (W := W) (H := H) hF0 hT h14 (by omega) e1.1 e1.2.1 e1.2.2.1 e1.2.2.2 (fun M2 e2 k2 => ⟨e2.1.1.fm hF0 (by simp), ?_⟩)
          refine sm_unwinds hF0 hT h14 (by decide) hH (by rw [List.length_append, List.length_singleton]; omega) e2 (fun M3 e3 k3 => ⟨e3.1.1.fm hF0 (by simp), ?_⟩)
          rw [List.append_assoc] at e3
          refine ih tl false mn (unH 7 H) _ q M3 (by omega) hH.un (by omega) ?_ e3 (by rw [k3 40 (by omega), k2 40 (by omega)]; exact a40) aTL hc
          rw [List.length_append, List.length_append, List.length_singleton]; omega
        refine ⟨fun z => go _ ?_, fun z => go _ ?_⟩
        · rw [if_neg z, if_pos (by omega)] at hR; exact hR
        · rw [if_pos z] at hR; exact hR
      refine ⟨fun z => num (.inl z), fun z1 => ⟨fun z2 => ?_, fun z => num (.inr z)⟩⟩
      rw [if_neg z1, if_neg z2] at hR
      have open1 : ∀ (c : Nat) (mn2 : Bool), (c = 0 ∨ c = 13 ∨ c = 19) → k ≠ 0 → (if opnN H = 5 then Sum.inl s else mR tl true mn2 (c :: H) W) = R → Con (d + 4) m_MM_opensOne 0 0 [.ref 78, .int (nI c)] M1 (PB fun r M7 => Fm M7 ∧ (r = true → Ex (d + 5) m_MM_eRead bc bs 14 [some (.ref 78), some (.int (bI true)), some (.int (bI mn2)), none] [] M7 (PB K)) ∧ (r = false → PB K (some (.int (b2i false))) M7)) := by
        intro c mn2 hc hk0 hR
        obtain ⟨q, a40, aTL⟩ := g40 hk0
        refine sm_opensOne (H := H) (W := W) hF0 hc (by omega) ho e1 (fun y => ⟨hF1, (fun z => nomatch z), fun _ => nofail ?_⟩) (fun y M2 e2 k2 => ⟨e2.1.1.fm hF0 (by simp), fun _ => ?_, (fun z => nomatch z)⟩)
        · rw [if_pos y] at hR; exact hR.symm
        · rw [if_neg y] at hR
          refine ih tl true mn2 (c :: H) W q M2 (by omega) (hH.cons (by omega)) ?_ (by rw [List.length_cons]; omega) e2 (by rw [k2 40 (by omega)]; exact a40) aTL hR
          show opnN H + _ ≤ 5
          rw [if_pos hc]; omega
      have e99 : ¬ (k = 6 ∧ mn = true) → Ex (d + 5) m_MM_eRead bc bs 99 [some (.ref 78), some (.int (bI true)), some (.int (bI mn)), none] [] M1 (PB K) := by
        intro y
        rw [if_neg y] at hR
        refine k_MM_eRead_99 hF1 ?_
        rw [eqk 45 (by decide) (by decide), eqk 40 (by decide) (by decide)]
        refine ⟨fun y1 => ⟨fun y2 => nofail ?_, fun y2 => ?_⟩, fun y1 => ?_⟩
        · rw [if_neg y1, if_neg y2] at hR; exact hR.symm
        · rw [if_neg y1, if_pos y2] at hR
          refine open1 0 true (by omega) (by omega) hR
        · rw [if_pos y1] at hR
          refine open1 19 false (by omega) (by omega) hR
      refine ⟨fun z => e99 (fun y => z y.1), fun z => ⟨fun y => e99 (fun y2 => by rw [y2.2] at y; exact bI_t y), fun y => ?_⟩⟩
      have hm : mn = true := by
        cases mn with
        | true => rfl
        | false => exact absurd rfl y
      rw [if_pos ⟨z, hm⟩] at hR
      exact open1 13 mn (by omega) (by omega) hR
    | false =>
      rw [mR_n3] at hR
      refine ⟨fun _ => ⟨fun z1 => ⟨fun z2 => ?_, fun z2 => ?_⟩, fun z1 => ?_⟩, fun z => absurd bI_f z⟩
      · rw [if_neg z1, if_neg z2] at hR
        refine sm_signOf hF1 (by omega) g42 ⟨hF1, fun y => nofail ?_, fun y => ?_⟩
        · unfold sgI at y
          by_cases y2 : sgn k = 99
          · rw [if_pos y2] at hR; exact hR.symm
          · rw [if_neg y2, i_eq, nI_T (by have := sgn_in k; omega)] at y
            have : (-1 : Int32).toInt = -1 := rfl
            omega
        · unfold sgI at y ⊢
          by_cases y2 : sgn k = 99
          · rw [if_pos y2] at y; exact absurd rfl y
          · rw [if_neg y2] at hR ⊢
            have hsg := (sgn_in k).resolve_left y2
            have hk00 : k ≠ 0 := fun z => by subst z; exact y2 rfl
            obtain ⟨q, a40, aTL⟩ := g40 hk00
            have ub := un_len (l := btL (sgn k)) H
            have ob := opnN_un (l := btL (sgn k)) H
            refine sm_between hF0 hT h14 hsg hH (by omega) e1 (fun y3 M2 f2 k2 => ⟨f2.1.fm hF0 (by simp), (fun z => nomatch z), fun _ => PB.mk rfl (HN s M2 ?_ f2 ?_ hs)⟩) (fun y3 M2 e2 k2 => ⟨e2.1.1.fm hF0 (by simp), fun _ => ?_, (fun z => nomatch z)⟩)
            · rw [if_pos y3] at hR; exact hR.symm
            · rw [k2 41 (by omega)]; exact g41
            · rw [if_neg y3] at hR
              have go : ∀ mn2 : Bool, mn2 = decide (sgn k ≤ 12) → Ex (d + 5) m_MM_eRead bc bs 14 [some (.ref 78), some (.int (bI true)), some (.int (bI mn2)), none] [] M2 (PB K) := fun mn2 hm => by
                subst hm
                refine ih tl true _ (sgn k :: unH (btL (sgn k)) H) _ q M2 (by omega) (hH.un.cons (by omega)) ?_ ?_ e2 (by rw [k2 40 (by omega)]; exact a40) aTL hR
                · show opnN _ + _ ≤ 5
                  rw [if_neg (by omega)]; omega
                · rw [List.length_cons, List.length_append]; omega
              rw [nI_ltI (by decide) (by omega)]
              exact ⟨fun z => go false (by rw [decide_eq_false (by omega)]), fun z => go true (by rw [decide_eq_true (by omega)])⟩
      · obtain ⟨q, a40, aTL⟩ := g40 (by omega)
        rw [if_neg z1, if_pos z2] at hR
        refine sm_unwinds hF0 hT h14 (by decide) hH (by omega) e1 (fun M2 e2 k2 => ⟨e2.1.1.fm hF0 (by simp), ?_⟩)
        have hF2 := e2.1.1.fm hF0 (by simp)
        have hHu := hH.un (l := 1)
        have htp := unH_top (l := 1) H
        cases hu : unH 1 H with
        | nil =>
          rw [if_pos hu] at hR
          have h46 := e2.2.1.1
          rw [hu] at h46
          rw [h46]
          exact ⟨fun z => absurd rfl z, fun _ => PB.mk rfl (HN s M2 hR.symm e2.1 (by rw [k2 41 (by omega)]; exact g41) hs)⟩
        | cons c G =>
          rw [if_neg (by rw [hu]; exact List.cons_ne_nil _ _), hu] at hR
          rw [hu] at e2 hHu htp u1 o1
          rw [List.length_cons] at u1
          have h46 := e2.2.1.1
          rw [List.length_cons] at h46
          have hc0 : c = 0 := by
            have h0 := htp c rfl
            by_cases z : c = 0
            · exact z
            · exfalso
              have : ¬ rnk c < 1 := by
                unfold rnk
                rw [if_neg z]
                repeat' split
                all_goals omega
              exact this h0
          subst hc0
          have eo : opnN (0 :: G) = opnN G + 1 := rfl
          have h47 := e2.2.2.1
          rw [eo] at h47 o1
          rw [h46, h47, nI_sub1 (by omega), Nat.add_sub_cancel, nI_sub1 (by omega), Nat.add_sub_cancel]
          refine ⟨fun _ => ?_, fun z => absurd z (by rw [i_eq, i_0, nI_T (by omega)]; omega)⟩
          have e3 : EM T G (W ++ unO 1 H) M0 (wi (wi M2 78 46 (nI G.length)) 78 47 (nI (opnN G))) := ⟨(e2.1.w (by unfold c4; omega)).w (by unfold c4; omega), e2.2.1.pop (by rw [wi_f (by decide), wi_e]) (by rw [mi_n (by decide), mi_n (by decide)]), wi_e, by rw [wi_f (by decide), wi_f (by decide)]; exact e2.2.2.2.1, fun i b hi => by rw [mi_n (by decide), mi_n (by decide)]; exact e2.2.2.2.2 i b hi⟩
          have uG := un_len (l := 7) G
          have oG := opnN_un (l := 7) G
          refine sm_unwinds hF0 hT h14 (by decide) hHu.tl (by rw [List.length_append]; omega) e3 (fun M3 e4 k4 => ⟨e4.1.1.fm hF0 (by simp), ?_⟩)
          refine ih tl false mn (unH 7 G) _ q M3 (by omega) hHu.tl.un (by omega) ?_ e4 (by rw [k4 40 (by omega), wi_f (by decide), wi_f (by decide), k2 40 (by omega)]; exact a40) aTL hR
          rw [List.length_append, List.length_append]; omega
      · obtain ⟨q, a40, aTL⟩ := g40 (by omega)
        rw [if_pos z1] at hR
        refine sm_unwinds hF0 hT h14 (by decide) hH (by omega) e1 (fun M2 e2 k2 => ⟨e2.1.1.fm hF0 (by simp), ?_⟩)
        have h46 := e2.2.1.1
        have e0 : (mi M2 78 46 = 0) ↔ unH 1 H = [] := by
          rw [h46, i_eq, i_0, nI_T (by omega), ← List.length_eq_zero_iff]; omega
        rw [e0]
        refine ⟨fun z => PB.mk rfl (HN s M2 ?_ e2.1 (by rw [k2 41 (by omega)]; exact g41) hs), fun z => PB.mk rfl (HY (W ++ unO 1 H) tl q M2 ?_ e2.1 e2.2.2.2 (by rw [k2 40 (by omega)]; exact a40) aTL)⟩
        · rw [if_neg z] at hR; exact hR.symm
        · rw [if_pos z] at hR; exact hR.symm
theorem sm_eRead {ts : List Tok} {W : List Int32} {p : Nat} {M : Mem} (h160 : tp.length ≤ 160) (hb : ∀ i, byt tp i < 256) (hF0 : Fm M0) (ht : TBm tp M0) (hWd : WDm M0) (hT : T < 6) (h14 : mi M0 78 14 = nI T) (hlen : W.length + ts.length < 190) (hf : FRm T M0 M) (hO : OutM T W M) (h40 : mi M 78 40 = nI p) (hTL : TL tp p ts)
    (HN : ∀ f M2, mR ts true true [] W = .inl f → FRm T M0 M2 → mi M2 78 41 = nI f → f ≤ tp.length → K false M2)
    (HY : ∀ W2 ts2 q M2, mR ts true true [] W = .inr (W2, ts2) → FRm T M0 M2 → OutM T W2 M2 → mi M2 78 40 = nI q → TL tp q ts2 → K true M2) : Con (d + 5) m_MM_eRead 0 0 [.ref 78] M (PB K) := by
  have hF := hf.1.fm hF0 (by simp)
  refine Con.ent (k := 3) F_MM_eRead.1 rfl (Nat.le_of_ble_eq_true rfl) (k_MM_eRead_0 hF ?_)
  exact erd14 h160 hb hF0 ht hWd hT h14 HN HY ts.length ts true true [] W p _ rfl (fun c hc => by cases hc) (Nat.zero_le _) (by rw [List.length_nil]; omega) ⟨(hf.w (by unfold c4; omega)).w (by unfold c4; omega), ⟨by rw [wi_f (by decide), wi_e]; rfl, fun i c hi => by cases hi⟩, wi_e, by rw [wi_f (by decide), wi_f (by decide)]; exact hO.1, fun i c hi => by rw [mi_n (by decide), mi_n (by decide)]; exact hO.2 i c hi⟩ (by rw [wi_f (by decide), wi_f (by decide)]; exact h40) hTL rfl
end ERL
