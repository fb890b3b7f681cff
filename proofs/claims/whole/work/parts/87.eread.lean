/-! TEXT: an E, as m reads it -/
def c4 (k : Nat) : Prop := (40 ≤ k ∧ k ≤ 43) ∨ (46 ≤ k ∧ k ≤ 48)
def FRm (T : Nat) (M0 M : Mem) : Prop := FrG [78, 87, 105] [] M0 M ∧ (∀ k, ¬ c4 k → mi M 78 k = mi M0 78 k) ∧ ∀ i, i < 200 * T → mi M 87 i = mi M0 87 i
theorem FRm.rf (T : Nat) (M : Mem) : FRm T M M := ⟨FrG.rf _ _, fun _ _ => rfl, fun _ _ => rfl⟩
theorem FRm.w {T : Nat} {M0 M : Mem} {k : Nat} {v : Int32} (h : FRm T M0 M) (hk : c4 k) : FRm T M0 (wi M 78 k v) := ⟨h.1.fwi (by simp), fun j hj => by
  rw [wi_f (show j ≠ k from fun e => hj (by rw [e]; exact hk))]; exact h.2.1 j hj, fun i hi => by rw [mi_n (by decide)]; exact h.2.2 i hi⟩
theorem FRm.n {T : Nat} {M0 M M2 : Mem} (hF : Fm M0) (h : FRm T M0 M) (g : FNm M M2) : FRm T M0 M2 := ⟨h.1.tr (g.1.wk (by simp) (by simp)), fun k hk => (g.2 k (fun z => hk (.inl z))).trans (h.2.1 k hk), fun i hi => by
  rw [g.1.row (j := 87) (by have := (h.1.fm hF (by simp)).len; omega) (by decide)]; exact h.2.2 i hi⟩
theorem FRm.tb {T : Nat} {tp : List Nat} {M0 M : Mem} (h : FRm T M0 M) (hF : Fm M0) (t : TBm tp M0) : TBm tp M := ⟨by rw [h.2.1 11 (by unfold c4; omega)]; exact t.1, fun i hi => by rw [h.1.row (by have := hF.len; omega) (by decide)]; exact t.2 i hi⟩
theorem FRm.wd {T : Nat} {M0 M : Mem} (h : FRm T M0 M) (hF : Fm M0) (t : WDm M0) : WDm M := fun k w q => by rw [h.1.lrow (by have := hF.len; omega)]; exact t k w q
def HldM (H : List Nat) (M : Mem) : Prop := mi M 78 46 = nI H.length ∧ ∀ i c, H.reverse[i]? = some c → mi M 105 i = nI c
def OutM (T : Nat) (W : List Int32) (M : Mem) : Prop := mi M 78 48 = nI W.length ∧ ∀ i c, W[i]? = some c → mi M 87 (200 * T + i) = c
def EM (T : Nat) (H : List Nat) (W : List Int32) (M0 M : Mem) : Prop := FRm T M0 M ∧ HldM H M ∧ mi M 78 47 = nI (opnN H) ∧ OutM T W M
theorem HldM.top {c : Nat} {H : List Nat} {M : Mem} (h : HldM (c :: H) M) : mi M 105 H.length = nI c := h.2 _ _ (by rw [List.reverse_cons, List.getElem?_append_right (by rw [List.length_reverse]; exact Nat.le_refl _), List.length_reverse, Nat.sub_self]; rfl)
theorem HldM.pop {c : Nat} {H : List Nat} {M M2 : Mem} (h : HldM (c :: H) M) (e : mi M2 78 46 = nI H.length) (e2 : mi M2 105 = mi M 105) : HldM H M2 := ⟨e, fun i b hi => by
  rw [e2]
  refine h.2 i b ?_
  rw [List.reverse_cons, List.getElem?_append_left (List.getElem?_eq_some_iff.mp hi).1]
  exact hi⟩
theorem HldM.push {c : Nat} {H : List Nat} {M M2 : Mem} (h : HldM H M) (e : mi M2 78 46 = nI (H.length + 1)) (e2 : mi M2 105 = u1 (mi M 105) H.length (nI c)) : HldM (c :: H) M2 := ⟨e, fun i b hi => by
  rw [List.reverse_cons] at hi
  rw [e2]
  rcases ap1 hi with ⟨y, y2⟩ | ⟨y, y2⟩
  · rw [List.length_reverse] at y
    rw [u1_n (by omega)]; exact h.2 i b y2
  · rw [List.length_reverse] at y
    rw [y, u1_s, y2]⟩
theorem OutM.put {T : Nat} {W : List Int32} {c : Int32} {M M2 : Mem} (h : OutM T W M) (e : mi M2 78 48 = nI (W.length + 1)) (e2 : mi M2 87 = u1 (mi M 87) (200 * T + W.length) c) : OutM T (W ++ [c]) M2 := ⟨by rw [e, List.length_append]; rfl, fun i b hi => by
  rw [e2]
  rcases ap1 hi with ⟨y, y2⟩ | ⟨y, y2⟩
  · rw [u1_n (by omega)]; exact h.2 i b y2
  · rw [y, u1_s, y2]⟩
def HH (H : List Nat) : Prop := ∀ c ∈ H, c = 0 ∨ (11 ≤ c ∧ c ≤ 19)
theorem HH.un {l : Nat} : ∀ {H : List Nat}, HH H → HH (unH l H)
  | [], h => h
  | c :: H, h => by
    unfold unH
    by_cases q : l ≤ rnk c
    · rw [if_pos q]; exact HH.un (fun x hx => h x (List.mem_cons_of_mem _ hx))
    · rw [if_neg q]; exact h
theorem HH.tl {c : Nat} {H : List Nat} (h : HH (c :: H)) : HH H := fun x hx => h x (List.mem_cons_of_mem _ hx)
theorem HH.cons {c : Nat} {H : List Nat} (h : HH H) (hc : c = 0 ∨ (11 ≤ c ∧ c ≤ 19)) : HH (c :: H) := fun x hx => by
  rcases List.mem_cons.mp hx with e | e
  · rw [e]; exact hc
  · exact h x e
theorem mtk_eq {k c : Nat} (hk : k < 2 ^ 31) (hc : c < 2 ^ 31) (h7 : c ≠ 7) : mtk k = nI c ↔ k = c := by
  unfold mtk
  by_cases q : k = 7
  · rw [if_pos q, i_eq, nI_T hc]
    have : (-1 : Int32).toInt = -1 := rfl
    rw [this]
    omega
  · rw [if_neg q, nI_eq hk hc]
section ERD
variable {d bc bs T : Nat} {tp : List Nat} {M0 : Mem}
theorem sm_rank {c : Nat} {M : Mem} {K : Int32 → Mem → Prop} (hF : Fm M) (hc : c < 2 ^ 31) (h : K (nI (rnk c)) M) : Con (d + 1) m_MM_rank 0 0 [.int (nI c)] M (PI K) := by
  refine Con.of (lo := [some (.int (nI c))]) F_MM_rank.1 rfl (Nat.le_of_ble_eq_true rfl) (k_MM_rank_0 hF ?_)
  have e0 : nI c = 0 ↔ c = 0 := nI_eq hc (show 0 < 2 ^ 31 by decide)
  unfold rnk at h
  rw [e0, nI_eq hc (by decide), nI_eq hc (by decide), nI_eq hc (by decide), nI_eq hc (by decide), nI_ltI (by decide) hc, nI_ltI (by decide) hc]
  refine ⟨fun q0 => ⟨fun q1 => ⟨fun q2 => ⟨fun q3 => ⟨fun q4 => ⟨fun q5 => ⟨fun q6 => ?_, fun q6 => ?_⟩, fun q5 => ?_⟩, fun q4 => ?_⟩, fun q3 => ?_⟩, fun q2 => ?_⟩, fun q1 => ?_⟩, fun q0 => ?_⟩
  · rw [if_neg q0, if_neg q1, if_neg q2, if_neg q3, if_neg (by omega), if_neg (by omega), if_neg q6] at h; exact PI.mk rfl h
  · rw [if_neg q0, if_neg q1, if_neg q2, if_neg q3, if_neg (by omega), if_neg (by omega), if_pos q6] at h; exact PI.mk rfl h
  · rw [if_neg q0, if_neg q1, if_neg q2, if_neg q3, if_neg (by omega), if_pos (by omega)] at h; exact PI.mk rfl h
  · rw [if_neg q0, if_neg q1, if_neg q2, if_neg q3, if_pos (by omega)] at h; exact PI.mk rfl h
  · rw [if_neg q0, if_neg q1, if_neg q2, if_pos q3] at h; exact PI.mk rfl h
  · rw [if_neg q0, if_neg q1, if_pos q2] at h; exact PI.mk rfl h
  · rw [if_neg q0, if_pos q1] at h; exact PI.mk rfl h
  · rw [if_pos q0] at h; exact PI.mk rfl h
theorem sm_puts {W : List Int32} {H : List Nat} {c : Int32} {M : Mem} {K : Mem → Prop} (hF0 : Fm M0) (hT : T < 6) (h14 : mi M0 78 14 = nI T) (hW : W.length < 200) (hf : FRm T M0 M) (hh : HldM H M) (ho : mi M 78 47 = nI (opnN H)) (hw : OutM T W M) (h : ∀ M2, EM T H (W ++ [c]) M0 M2 → (∀ k, k ≠ 48 → mi M2 78 k = mi M 78 k) → K M2) : Con (d + 1) m_MM_puts 0 0 [.ref 78, .int c] M (PV K) := by
  have hF := hf.1.fm hF0 (by simp)
  refine Con.of (lo := [some (.ref 78), some (.int c)]) F_MM_puts.1 rfl (Nat.le_of_ble_eq_true rfl) (k_MM_puts_0 hF ?_)
  rw [hf.2.1 14 (by unfold c4; omega), h14, hw.1, pk_mul, nI_add, nI_add, nI_clamp (by omega)]
  refine ⟨vN (by omega) (by decide), rfl, h _ ⟨⟨(hf.1.fwi (by simp)).fwi (by simp), fun k hk => ?_, fun i hi => ?_⟩, ⟨?_, fun i b hi => ?_⟩, ?_, hw.put wi_e (by rw [mi_n (by decide), mi_w])⟩ (fun k hk => by rw [wi_f hk, mi_n (by decide)])⟩
  · rw [wi_f (by unfold c4 at hk; omega), mi_n (by decide)]; exact hf.2.1 k hk
  · rw [mi_n (by decide), wi_f (by omega)]; exact hf.2.2 i hi
  · rw [wi_f (by decide), mi_n (by decide)]; exact hh.1
  · rw [mi_n (by decide), mi_n (by decide)]; exact hh.2 i b hi
  · rw [wi_f (by decide), mi_n (by decide)]; exact ho
theorem unw0 {l : Nat} {K : Mem → Prop} (hF0 : Fm M0) (hT : T < 6) (h14 : mi M0 78 14 = nI T) (hl : 1 ≤ l ∧ l < 100) : ∀ (H : List Nat) (W : List Int32) (M : Mem), HH H → W.length + H.length < 200 → EM T H W M0 M → (∀ M2, EM T (unH l H) (W ++ unO l H) M0 M2 → (∀ k, ¬ (46 ≤ k ∧ k ≤ 48) → mi M2 78 k = mi M 78 k) → K M2) → Ex (d + 2) m_MM_unwinds bc bs 0 [some (.ref 78), some (.int (nI l)), none] [] M (PV K)
  | [], W, M, hH, hw, h0, h => by
    have hF := h0.1.1.fm hF0 (by simp)
    refine k_MM_unwinds_0 hF ⟨fun _ => ⟨rfl, h M ?_ (fun _ _ => rfl)⟩, fun q => absurd ?_ q⟩
    · show EM T [] (W ++ []) M0 M
      rw [List.append_nil]; exact h0
    · rw [h0.2.1.1]; exact nI_le (a := 0) (b := 0) (Nat.le_refl _) (by decide)
  | c :: H, W, M, hH, hw, h0, h => by
    have hF := h0.1.1.fm hF0 (by simp)
    obtain ⟨f, hh, ho, hO⟩ := id h0
    rw [List.length_cons] at hw
    have hc := hH c List.mem_cons_self
    have e46 := hh.1
    rw [List.length_cons] at e46
    refine k_MM_unwinds_0 hF ?_
    rw [e46, nI_sub1 (by omega), Nat.add_sub_cancel, nI_clamp (by omega), hh.top]
    refine ⟨fun q => absurd q (by rw [i_le, nI_T (by omega), i_0]; omega), fun _ => ⟨vN (by omega) (by decide), sm_rank hF (by omega) ⟨hF, fun q => ⟨rfl, h M ?_ (fun _ _ => rfl)⟩, fun q => ⟨by rw [e46, nI_sub1 (by omega), Nat.add_sub_cancel]; exact vN (by omega) (by decide), ?_⟩⟩⟩⟩
    · rw [nI_ltI (by unfold rnk; repeat' split
                     all_goals omega) (by omega)] at q
      unfold unH unO
      rw [if_neg (by omega), if_neg (by omega), List.append_nil]
      exact h0
    · have hrk : rnk c < 2 ^ 31 := by
        unfold rnk
        repeat' split
        all_goals omega
      rw [nI_ltI hrk (by omega)] at q
      unfold unH unO at h
      rw [if_pos (by omega), if_pos (by omega)] at h
      have hc0 : c ≠ 0 := fun z => by
        subst z
        exact q (by show 0 < l; omega)
      have go : ∀ v : Int32, v = nI (opnN H) → Con (d + 1) m_MM_puts 0 0 [.ref 78, .int (nI c)] (wi (wi M 78 46 (nI H.length)) 78 47 v) (PV fun M2 => Fm M2 ∧ Ex (d + 2) m_MM_unwinds bc bs 0 [some (.ref 78), some (.int (nI l)), none] [] M2 (PV K)) := by
        intro v hv
        refine sm_puts (W := W) (H := H) hF0 hT h14 (by omega) ((f.w (by unfold c4; omega)).w (by unfold c4; omega)) (hh.pop (by rw [wi_f (by decide), wi_e]) (by rw [mi_n (by decide), mi_n (by decide)])) (by rw [wi_e, hv]) ⟨by rw [wi_f (by decide), wi_f (by decide)]; exact hO.1, fun i b hi => by rw [mi_n (by decide), mi_n (by decide)]; exact hO.2 i b hi⟩ (fun M2 e2 k2 => ⟨e2.1.1.fm hF0 (by simp), ?_⟩)
        refine unw0 hF0 hT h14 hl H (W ++ [nI c]) M2 hH.tl (by rw [List.length_append, List.length_singleton]; omega) e2 (fun M3 e3 k3 => h M3 ?_ (fun k hk => ?_))
        · rw [List.append_assoc] at e3; exact e3
        · rw [k3 k hk, k2 k (by omega), wi_f (by omega), wi_f (by omega)]
      have e47 : mi (wi M 78 46 (nI H.length)) 78 47 = mi M 78 47 := wi_f (by decide)
      have eo : opnN (c :: H) = opnN H + (if c = 0 ∨ c = 13 ∨ c = 19 then 1 else 0) := rfl
      rw [e46, nI_sub1 (by omega), Nat.add_sub_cancel, nI_clamp (by omega), hh.top, ho, nI_eq (by omega) (by decide), nI_eq (by omega) (by decide)]
      refine ⟨fun z => go _ ?_, fun z => ⟨fun z2 => go _ ?_, fun z2 => go _ ?_⟩⟩
      · rw [eo, if_pos (by omega), nI_sub1 (by omega), Nat.add_sub_cancel]
      · rw [eo, if_neg (by omega), Nat.add_zero]
        exact Int32.sub_zero _
      · rw [eo, if_pos (by omega), nI_sub1 (by omega), Nat.add_sub_cancel]
theorem sm_unwinds {l : Nat} {H : List Nat} {W : List Int32} {M : Mem} {K : Mem → Prop} (hF0 : Fm M0) (hT : T < 6) (h14 : mi M0 78 14 = nI T) (hl : 1 ≤ l ∧ l < 100) (hH : HH H) (hw : W.length + H.length < 200) (h0 : EM T H W M0 M) (h : ∀ M2, EM T (unH l H) (W ++ unO l H) M0 M2 → (∀ k, ¬ (46 ≤ k ∧ k ≤ 48) → mi M2 78 k = mi M 78 k) → K M2) : Con (d + 2) m_MM_unwinds 0 0 [.ref 78, .int (nI l)] M (PV K) :=
  Con.ent (k := 1) F_MM_unwinds.1 rfl (Nat.le_of_ble_eq_true rfl) (unw0 hF0 hT h14 hl H W M hH hw h0 h)
theorem sm_holds {c : Nat} {H : List Nat} {W : List Int32} {M : Mem} {K : Mem → Prop} (hF0 : Fm M0) (hlen : H.length < 200) (hf : FRm T M0 M) (hh : HldM H M) (ho : mi M 78 47 = nI (opnN (c :: H))) (hO : OutM T W M) (h : ∀ M2, EM T (c :: H) W M0 M2 → (∀ k, k ≠ 46 → mi M2 78 k = mi M 78 k) → K M2) : Con (d + 1) m_MM_holds 0 0 [.ref 78, .int (nI c)] M (PV K) := by
  have hF := hf.1.fm hF0 (by simp)
  refine Con.of (lo := [some (.ref 78), some (.int (nI c))]) F_MM_holds.1 rfl (Nat.le_of_ble_eq_true rfl) (k_MM_holds_0 hF ?_)
  rw [hh.1, nI_add, nI_clamp (by omega)]
  refine ⟨vN hlen (by decide), rfl, h _ ⟨⟨(hf.1.fwi (by simp)).fwi (by simp), fun k hk => ?_, fun i hi => ?_⟩, hh.push wi_e (by rw [mi_n (by decide), mi_w]), ?_, ⟨?_, fun i b hi => ?_⟩⟩ (fun k hk => by rw [wi_f hk, mi_n (by decide)])⟩
  · rw [wi_f (by unfold c4 at hk; omega), mi_n (by decide)]; exact hf.2.1 k hk
  · rw [mi_n (by decide), mi_n (by decide)]; exact hf.2.2 i hi
  · rw [wi_f (by decide), mi_n (by decide)]; exact ho
  · rw [wi_f (by decide), mi_n (by decide)]; exact hO.1
  · rw [mi_n (by decide), mi_n (by decide)]; exact hO.2 i b hi
theorem sm_opensOne {c : Nat} {H : List Nat} {W : List Int32} {M : Mem} {K : Bool → Mem → Prop} (hF0 : Fm M0) (hc : c = 0 ∨ c = 13 ∨ c = 19) (hlen : H.length < 200) (hop : opnN H ≤ 5) (h0 : EM T H W M0 M) (hn : opnN H = 5 → K false M) (hy : ¬ opnN H = 5 → ∀ M2, EM T (c :: H) W M0 M2 → (∀ k, ¬ (46 ≤ k ∧ k ≤ 48) → mi M2 78 k = mi M 78 k) → K true M2) : Con (d + 2) m_MM_opensOne 0 0 [.ref 78, .int (nI c)] M (PB K) := by
  obtain ⟨f, hh, ho, hO⟩ := h0
  have hF := f.1.fm hF0 (by simp)
  refine Con.of (lo := [some (.ref 78), some (.int (nI c))]) F_MM_opensOne.1 rfl (Nat.le_of_ble_eq_true rfl) (k_MM_opensOne_0 hF ?_)
  rw [ho, nI_eq (by omega) (by decide)]
  refine ⟨fun q => ?_, fun q => PB.mk rfl (hn q)⟩
  refine sm_holds (H := H) hF0 hlen (f.w (by unfold c4; omega)) ⟨by rw [wi_f (by decide)]; exact hh.1, fun i b hi => by rw [mi_n (by decide)]; exact hh.2 i b hi⟩ (by rw [wi_e, nI_add]; show nI (opnN H + 1) = nI (opnN H + _); rw [if_pos hc]) ⟨by rw [wi_f (by decide)]; exact hO.1, fun i b hi => by rw [mi_n (by decide)]; exact hO.2 i b hi⟩ (fun M2 e2 k2 => ⟨e2.1.1.fm hF0 (by simp), PB.mk rfl (hy q M2 e2 (fun k hk => by rw [k2 k (by omega), wi_f (by omega)]))⟩)
theorem rnk_lt (c : Nat) : rnk c < 8 := by
  unfold rnk
  repeat' split
  all_goals omega
theorem sm_between {c : Nat} {H : List Nat} {W : List Int32} {M : Mem} {K : Bool → Mem → Prop} (hF0 : Fm M0) (hT : T < 6) (h14 : mi M0 78 14 = nI T) (hc : c = 11 ∨ c = 12 ∨ c = 14 ∨ c = 15 ∨ c = 16 ∨ c = 17 ∨ c = 18) (hH : HH H) (hw : W.length + H.length < 199) (h0 : EM T H W M0 M)
    (hn : (rnk c = 4 ∧ hd4 (unH (btL c) H) = true) → ∀ M2, FRm T M0 M2 → (∀ k, ¬ (46 ≤ k ∧ k ≤ 48) → mi M2 78 k = mi M 78 k) → K false M2)
    (hy : ¬ (rnk c = 4 ∧ hd4 (unH (btL c) H) = true) → ∀ M2, EM T (c :: unH (btL c) H) (W ++ unO (btL c) H) M0 M2 → (∀ k, ¬ (46 ≤ k ∧ k ≤ 48) → mi M2 78 k = mi M 78 k) → K true M2) : Con (d + 3) m_MM_between 0 0 [.ref 78, .int (nI c)] M (PB K) := by
  have hF := h0.1.1.fm hF0 (by simp)
  have hr := rnk_lt c
  have hl := un_len (l := btL c) H
  have hHu := hH.un (l := btL c)
  have hbt : 1 ≤ btL c ∧ btL c < 100 := by
    rcases hc with e | e | e | e | e | e | e <;> subst e <;> decide
  have hop : opnN (c :: unH (btL c) H) = opnN (unH (btL c) H) := by
    show opnN (unH (btL c) H) + _ = _
    rw [if_neg (by omega), Nat.add_zero]
  have e55 : ∀ M2, EM T (unH (btL c) H) (W ++ unO (btL c) H) M0 M2 → (∀ k, ¬ (46 ≤ k ∧ k ≤ 48) → mi M2 78 k = mi M 78 k) → ¬ (rnk c = 4 ∧ hd4 (unH (btL c) H) = true) → Ex (d + 3) m_MM_between 0 0 55 [some (.ref 78), some (.int (nI c))] [] M2 (PB K) := by
    intro M2 e2 k2 hno
    refine k_MM_between_55 (e2.1.1.fm hF0 (by simp)) ?_
    refine sm_holds hF0 (by omega) e2.1 e2.2.1 (by rw [hop]; exact e2.2.2.1) e2.2.2.2 (fun M3 e3 k3 => ⟨e3.1.1.fm hF0 (by simp), PB.mk rfl (hy hno M3 e3 (fun k hk => by rw [k3 k (by omega), k2 k hk]))⟩)
  refine Con.of (lo := [some (.ref 78), some (.int (nI c))]) F_MM_between.1 rfl (Nat.le_of_ble_eq_true rfl) (k_MM_between_0 hF ?_)
  refine sm_rank hF (by omega) ⟨hF, fun q => ?_, fun q => ?_⟩ <;> rw [nI_eq (by omega) (by decide)] at q
  · have eb : btL c = rnk c := if_neg q
    refine sm_rank hF (by omega) ⟨hF, ?_⟩
    rw [← eb]
    refine sm_unwinds hF0 hT h14 hbt hH (by omega) h0 (fun M2 e2 k2 => ⟨e2.1.1.fm hF0 (by simp), ?_⟩)
    refine sm_rank (e2.1.1.fm hF0 (by simp)) (by omega) ⟨e2.1.1.fm hF0 (by simp), fun _ => e55 M2 e2 k2 (fun z => q z.1), fun z => absurd ((nI_eq (by omega) (by decide)).mp z) q⟩
  · have eb : btL c = 5 := if_pos q
    rw [show nI 5 = nI (btL c) by rw [eb]]
    refine sm_unwinds hF0 hT h14 hbt hH (by omega) h0 (fun M2 e2 k2 => ⟨e2.1.1.fm hF0 (by simp), ?_⟩)
    have hF2 := e2.1.1.fm hF0 (by simp)
    refine sm_rank hF2 (by omega) ⟨hF2, fun z => absurd (by rw [q]) z, fun _ => ?_⟩
    have h46 := e2.2.1.1
    cases hu : unH (btL c) H with
    | nil =>
      rw [hu] at h46
      rw [h46]
      exact ⟨fun _ => e55 M2 e2 k2 (fun z => by rw [hu] at z; exact absurd z.2 (by decide)), fun z => absurd (nI_le (a := 0) (b := 0) (Nat.le_refl _) (by decide)) z⟩
    | cons b G =>
      have htp := e2.2.1
      rw [hu] at htp h46 hHu hl
      rw [List.length_cons] at h46 hl
      have hb := hHu b List.mem_cons_self
      have hrb := rnk_lt b
      rw [h46, nI_sub1 (by omega), Nat.add_sub_cancel, nI_clamp (by omega), htp.top]
      refine ⟨fun z => absurd z (by rw [i_le, nI_T (by omega), i_0]; omega), fun _ => ⟨vN (by omega) (by decide), sm_rank hF2 (by omega) ⟨hF2, fun z => e55 M2 e2 k2 (fun y => ?_), fun z => PB.mk rfl (hn ⟨q, ?_⟩ M2 e2.1 k2)⟩⟩⟩
      · rw [hu] at y
        exact z (by rw [show rnk b = 4 from of_decide_eq_true y.2])
      · rw [hu]
        show decide (rnk b = 4) = true
        rw [nI_eq (by omega) (by decide)] at z
        rw [z]; rfl
def sgI (k : Nat) : Int32 := if sgn k = 99 then -1 else nI (sgn k)
theorem sm_signOf {k : Nat} {M : Mem} {K : Int32 → Mem → Prop} (hF : Fm M) (hk : k < 2 ^ 31) (h42 : mi M 78 42 = mtk k) (h : K (sgI k) M) : Con (d + 1) m_MM_signOf 0 0 [.ref 78] M (PI K) := by
  refine Con.of (lo := [some (.ref 78)]) F_MM_signOf.1 rfl (Nat.le_of_ble_eq_true rfl) (k_MM_signOf_0 hF ?_)
  rw [h42, mtk_eq hk (by decide) (by decide), mtk_eq hk (by decide) (by decide), mtk_eq hk (by decide) (by decide), mtk_eq hk (by decide) (by decide), mtk_eq hk (by decide) (by decide), mtk_eq hk (by decide) (by decide), mtk_eq hk (by decide) (by decide)]
  refine ⟨fun q1 => ⟨fun q2 => ⟨fun q3 => ⟨fun q4 => ⟨fun q5 => ⟨fun q6 => ⟨fun q7 => PI.mk ?_ h, fun q => PI.mk ?_ h⟩, fun q => PI.mk ?_ h⟩, fun q => PI.mk ?_ h⟩, fun q => PI.mk ?_ h⟩, fun q => PI.mk ?_ h⟩, fun q => PI.mk ?_ h⟩, fun q => PI.mk ?_ h⟩
  · unfold sgI sgn
    rw [if_neg q1, if_neg q2, if_neg q3, if_neg q4, if_neg q5, if_neg q6, if_neg q7, if_pos rfl]
  all_goals subst q; rfl
end ERD
