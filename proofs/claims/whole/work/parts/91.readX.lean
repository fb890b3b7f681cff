/-! TEXT: x's readers, against how it is read purely: what they share -/
theorem xtk_c {k v : Nat} (h : k = 0 ∨ kOK k v) : (k = 0 ∧ (xtk k v).toInt = 256) ∨ (k = 1 ∧ v < 10000 ∧ (xtk k v).toInt = 258) ∨ (k = 2 ∧ v < 6 ∧ (xtk k v).toInt = -1 - (v : Int)) ∨ (k = 3 ∧ v < 2 ∧ (xtk k v).toInt = 259 + (v : Int)) ∨ (k = 4 ∧ (xtk k v).toInt = -7) ∨ (k = 5 ∧ (xtk k v).toInt = -8) ∨ (k = 6 ∧ (xtk k v).toInt = -14) ∨ (k = 7 ∧ (xtk k v).toInt = 257) ∨ (40 ≤ k ∧ k < 62 ∧ (xtk k v).toInt = k) := by
  unfold kOK at h
  rcases h with e | ⟨e, e2⟩ | ⟨e, e2⟩ | ⟨e, e2⟩ | e | e | e | e | ⟨e, e2⟩
  · subst e; exact .inl ⟨rfl, rfl⟩
  · subst e; exact .inr (.inl ⟨rfl, e2, rfl⟩)
  · subst e
    refine .inr (.inr (.inl ⟨rfl, e2, ?_⟩))
    revert v; decide
  · subst e
    refine .inr (.inr (.inr (.inl ⟨rfl, e2, ?_⟩)))
    revert v; decide
  · subst e; exact .inr (.inr (.inr (.inr (.inl ⟨rfl, rfl⟩))))
  · subst e; exact .inr (.inr (.inr (.inr (.inr (.inl ⟨rfl, rfl⟩)))))
  · subst e; exact .inr (.inr (.inr (.inr (.inr (.inr (.inl ⟨rfl, rfl⟩))))))
  · subst e; exact .inr (.inr (.inr (.inr (.inr (.inr (.inr (.inl ⟨rfl, rfl⟩)))))))
  · refine .inr (.inr (.inr (.inr (.inr (.inr (.inr (.inr ⟨e, e2, ?_⟩)))))))
    unfold xtk
    rw [if_neg (by omega), if_neg (by omega), if_neg (by omega), if_neg (by omega), if_neg (by omega), if_neg (by omega), if_neg (by omega), if_neg (by omega), nI_T (by omega)]
def cx (k : Nat) : Prop := k = 2 ∨ (3 ≤ k ∧ k ≤ 7) ∨ k = 9
def FPx (M0 M : Mem) : Prop := FrG [43, 45] [] M0 M ∧ ∀ k, ¬ cx k → mi M 43 k = mi M0 43 k
theorem FPx.w {M0 M : Mem} {k : Nat} {v : Int32} (h : FPx M0 M) (hk : cx k) : FPx M0 (wi M 43 k v) := ⟨h.1.fwi (by simp), fun j hj => by rw [wi_f (show j ≠ k from fun e => hj (by rw [e]; exact hk))]; exact h.2 j hj⟩
theorem FPx.a {M0 M M2 : Mem} (h : FPx M0 M) (g : FAx M M2) : FPx M0 M2 := ⟨h.1.tr (g.1.wk (by simp) (by simp)), fun k hk => (g.2 k (fun z => hk (.inr (.inl ⟨z.1, by omega⟩)))).trans (h.2 k hk)⟩
theorem FPx.tb {tp : List Nat} {M0 M : Mem} (h : FPx M0 M) (hF : Fx M0) (t : TBx tp M0) : TBx tp M := ⟨by rw [h.2 1 (by unfold cx; omega)]; exact t.1, fun i hi => by rw [h.1.row (by have := hF.len; omega) (by decide)]; exact t.2 i hi⟩
def Wr (W : List Int32) (M : Mem) : Prop := mi M 43 9 = nI W.length ∧ ∀ i c, W[i]? = some c → mi M 45 i = xc c
def KT (ts : List Tok) : Prop := ∀ t ∈ ts, t.2.1 = 0 ∨ kOK t.2.1 t.2.2
/-- no fault yet -/
def GX (tp : List Nat) (ts : List Tok) (H : List Nat) (W : List Int32) (M0 M : Mem) : Prop := FPx M0 M ∧ CurX tp ts M ∧ mi M 43 7 = nI (opnN H) ∧ Wr W M ∧ mi M 43 2 = -1 ∧ KT ts
/-- behind a fault -/
def XF (f : Nat) (M0 M : Mem) : Prop := FPx M0 M ∧ mi M 43 2 = nI f ∧ f ≤ 160 ∧ mi M 43 5 = nI 257 ∧ ∃ w, w ≤ 160 ∧ mi M 43 9 = nI w
theorem XF.w {f : Nat} {M0 M : Mem} {v : Int32} (h : XF f M0 M) : XF f M0 (wi M 43 7 v) := by
  obtain ⟨a, b, c, e, w, w1, w2⟩ := h
  exact ⟨a.w (by unfold cx; omega), by rw [wi_f (by decide)]; exact b, c, by rw [wi_f (by decide)]; exact e, w, w1, by rw [wi_f (by decide)]; exact w2⟩
section PRX
variable {d : Nat} {tp : List Nat} {M0 : Mem} {K : Mem → Prop}
theorem ne257 {c : Int32} (h : nI 257 = c) (hc : ¬ c = nI 257) : False := hc h.symm
/-- faults -/
theorem sx_failG {ts : List Tok} {H : List Nat} {W : List Int32} {M : Mem} {s k v : Nat} {tl : List Tok} (hF0 : Fx M0) (h160 : tp.length ≤ 160) (hW : W.length ≤ 160) (hg : GX tp ts H W M0 M) (e : ts = (s, k, v) :: tl) (h : ∀ M2, XF s M0 M2 → K M2) : Con (d + 1) m_Tape_fail 0 0 [.ref 43] M (PV K) := by
  obtain ⟨f, ⟨s1, k1, v1, tl1, e1, g4, g5, g6, g3, hs⟩, ho, hw, h2, hk⟩ := hg
  rw [e] at e1
  injection e1 with e2 e3
  injection e2 with e2 e4
  subst e2
  refine Con.of (lo := [some (.ref 43)]) F_Tape_fail.1 rfl (Nat.le_of_ble_eq_true rfl) (k_Tape_fail_0 (f.1.fx hF0) ⟨fun q => absurd h2 q, fun _ => ⟨rfl, h _ ⟨(f.w (by unfold cx; omega)).w (by unfold cx; omega), ?_, by omega, wi_e, W.length, hW, ?_⟩⟩⟩)
  · rw [wi_f (by decide), wi_e]; exact g4
  · rw [wi_f (by decide), wi_f (by decide)]; exact hw.1
theorem sx_failB {f : Nat} {M : Mem} (hF0 : Fx M0) (hx : XF f M0 M) (h : ∀ M2, XF f M0 M2 → K M2) : Con (d + 1) m_Tape_fail 0 0 [.ref 43] M (PV K) := by
  obtain ⟨a, b, c, e, w, w1, w2⟩ := hx
  refine Con.of (lo := [some (.ref 43)]) F_Tape_fail.1 rfl (Nat.le_of_ble_eq_true rfl) (k_Tape_fail_0 (a.1.fx hF0) ⟨fun _ => ⟨rfl, h _ ⟨a.w (by unfold cx; omega), by rw [wi_f (by decide)]; exact b, c, wi_e, w, w1, by rw [wi_f (by decide)]; exact w2⟩⟩, fun q => absurd q ?_⟩)
  rw [b, i_eq, nI_T (by omega)]
  have : (-1 : Int32).toInt = -1 := rfl
  omega
theorem sx_writeG {ts : List Tok} {H : List Nat} {W : List Int32} {c v : Int32} {M : Mem} (hF0 : Fx M0) (hW : W.length < 160) (hg : GX tp ts H W M0 M) (hv : v = xc c) (h : ∀ M2, GX tp ts H (W ++ [c]) M0 M2 → K M2) : Con (d + 1) m_Tape_write 0 0 [.ref 43, .int v] M (PV K) := by
  obtain ⟨f, ⟨s1, k1, v1, tl1, e1, g4, g5, g6, g3, hs⟩, ho, hw, h2, hk⟩ := hg
  refine Con.of (lo := [some (.ref 43), some (.int v)]) F_Tape_write.1 rfl (Nat.le_of_ble_eq_true rfl) (k_Tape_write_0 (f.1.fx hF0) ?_)
  rw [hw.1, nI_add, nI_clamp (by omega)]
  have r : ∀ k, k ≠ 9 → mi (wi (wi M 45 W.length v) 43 9 (nI (W.length + 1))) 43 k = mi M 43 k := fun k hk => by rw [wi_f hk, mi_n (by decide)]
  refine ⟨fun q => absurd q (by rw [nI_leI (by omega) (by omega)]; omega), fun _ => ⟨vN hW (by decide), rfl, h _ ⟨⟨(f.1.fwi (by simp)).fwi (by simp), fun k hk => ?_⟩, ⟨s1, k1, v1, tl1, e1, by rw [r 4 (by decide)]; exact g4, by rw [r 5 (by decide)]; exact g5, fun z => by rw [r 6 (by decide)]; exact g6 z, fun z => by rw [r 3 (by decide)]; exact g3 z, hs⟩, by rw [r 7 (by decide)]; exact ho, ⟨?_, fun i b hi => ?_⟩, by rw [r 2 (by decide)]; exact h2, hk⟩⟩⟩
  · rw [r k (by unfold cx at hk; omega)]; exact f.2 k hk
  · rw [wi_e, List.length_append]; rfl
  · rw [mi_n (by decide), mi_w]
    rcases ap1 hi with ⟨y, y2⟩ | ⟨y, y2⟩
    · rw [u1_n (by omega)]; exact hw.2 i b y2
    · rw [y, u1_s, hv, y2]
theorem sx_writeB {f : Nat} {v : Int32} {M : Mem} (hF0 : Fx M0) (hx : XF f M0 M) (h : ∀ M2, XF f M0 M2 → K M2) : Con (d + 1) m_Tape_write 0 0 [.ref 43, .int v] M (PV K) := by
  obtain ⟨a, b, c, e, w, w1, w2⟩ := id hx
  refine Con.of (lo := [some (.ref 43), some (.int v)]) F_Tape_write.1 rfl (Nat.le_of_ble_eq_true rfl) (k_Tape_write_0 (a.1.fx hF0) ?_)
  rw [w2, nI_add, nI_leI (by omega) (by omega), nI_clamp (by omega)]
  refine ⟨fun _ => ⟨rfl, h M hx⟩, fun q => ⟨vN (by omega) (by decide), rfl, h _ ⟨⟨(a.1.fwi (by simp)).fwi (by simp), fun k hk => ?_⟩, ?_, c, ?_, w + 1, by omega, wi_e⟩⟩⟩
  · rw [wi_f (by unfold cx at hk; omega), mi_n (by decide)]; exact a.2 k hk
  · rw [wi_f (by decide), mi_n (by decide)]; exact b
  · rw [wi_f (by decide), mi_n (by decide)]; exact e
theorem sx_advG {ts : List Tok} {H : List Nat} {W : List Int32} {M : Mem} {s k v : Nat} {tl : List Tok} (hF0 : Fx M0) (ht : TBx tp M0) (hb : ∀ i, byt tp i < 256) (h160 : tp.length ≤ 160) (hg : GX tp ts H W M0 M) (e : ts = (s, k, v) :: tl) (hk0 : k ≠ 0) (h : ∀ M2, GX tp tl H W M0 M2 → K M2) : Con (d + 7) m_Tape_advance 0 0 [.ref 43] M (PV K) := by
  obtain ⟨f, ⟨s1, k1, v1, tl1, e1, g4, g5, g6, g3, hs⟩, ho, hw, h2, hk⟩ := hg
  rw [e] at e1
  injection e1 with e2 e3
  injection e2 with e2 e4
  injection e4 with e4 e5
  subst e2 e3 e4 e5
  obtain ⟨q, a3, aT⟩ := g3 hk0
  have hF := f.1.fx hF0
  refine sx_advance hb hF (f.tb hF0 ht) h160 a3 aT (fun M2 f2 c2 => h M2 ⟨f.a f2, c2, by rw [f2.2 7 (by omega)]; exact ho, ⟨by rw [f2.2 9 (by omega)]; exact hw.1, fun i b hi => by rw [f2.1.row (by have := hF.len; omega) (by decide)]; exact hw.2 i b hi⟩, by rw [f2.2 2 (by omega)]; exact h2, fun t ht => hk t (by rw [e]; exact List.mem_cons_of_mem _ ht)⟩)
theorem sx_opensG {ts : List Tok} {H : List Nat} {W : List Int32} {c : Nat} {M : Mem} {s k v : Nat} {tl : List Tok} {K : Bool → Mem → Prop} (hF0 : Fx M0) (h160 : tp.length ≤ 160) (hW : W.length ≤ 160) (hop : opnN H ≤ 5) (hc : c = 0 ∨ c = 13 ∨ c = 19) (hg : GX tp ts H W M0 M) (e : ts = (s, k, v) :: tl) (hn : opnN H = 5 → ∀ M2, XF s M0 M2 → K false M2) (hy : ¬ opnN H = 5 → ∀ M2, GX tp ts (c :: H) W M0 M2 → K true M2) : Con (d + 2) m_Tape_opens 0 0 [.ref 43] M (PB K) := by
  obtain ⟨f, ⟨s1, k1, v1, tl1, e1, g4, g5, g6, g3, hs⟩, ho, hw, h2, hk⟩ := id hg
  refine Con.of (lo := [some (.ref 43)]) F_Tape_opens.1 rfl (Nat.le_of_ble_eq_true rfl) (k_Tape_opens_0 (f.1.fx hF0) ?_)
  rw [ho, nI_ltI (by omega) (by decide), nI_add]
  refine ⟨fun q => PB.mk rfl (hy (by omega) _ ⟨f.w (by unfold cx; omega), ⟨s1, k1, v1, tl1, e1, by rw [wi_f (by decide)]; exact g4, by rw [wi_f (by decide)]; exact g5, fun z => by rw [wi_f (by decide)]; exact g6 z, fun z => by rw [wi_f (by decide)]; exact g3 z, hs⟩, ?_, ⟨by rw [wi_f (by decide)]; exact hw.1, fun i b hi => by rw [mi_n (by decide)]; exact hw.2 i b hi⟩, by rw [wi_f (by decide)]; exact h2, hk⟩), fun q => sx_failG hF0 h160 hW hg e (fun M2 x2 => ⟨x2.1.1.fx hF0, PB.mk rfl (hn (by omega) M2 x2)⟩)⟩
  rw [wi_e]
  show nI (opnN H + 1) = nI (opnN H + _)
  rw [if_pos hc]
theorem sx_closeG {ts : List Tok} {H : List Nat} {W : List Int32} {c : Nat} {M : Mem} (hc : c = 0 ∨ c = 13 ∨ c = 19) (hop : opnN H ≤ 5) (hg : GX tp ts (c :: H) W M0 M) : GX tp ts H W M0 (wi M 43 7 (mi M 43 7 - nI 1)) := by
  obtain ⟨f, ⟨s1, k1, v1, tl1, e1, g4, g5, g6, g3, hs⟩, ho, hw, h2, hk⟩ := hg
  have eo : opnN (c :: H) = opnN H + 1 := by
    show opnN H + _ = _
    rw [if_pos hc]
  refine ⟨f.w (by unfold cx; omega), ⟨s1, k1, v1, tl1, e1, by rw [wi_f (by decide)]; exact g4, by rw [wi_f (by decide)]; exact g5, fun z => by rw [wi_f (by decide)]; exact g6 z, fun z => by rw [wi_f (by decide)]; exact g3 z, hs⟩, by rw [wi_e, ho, eo, nI_sub1 (by omega), Nat.add_sub_cancel], ⟨by rw [wi_f (by decide)]; exact hw.1, fun i b hi => by rw [mi_n (by decide)]; exact hw.2 i b hi⟩, by rw [wi_f (by decide)]; exact h2, hk⟩
/-- what is expected -/
theorem sx_expectB {f : Nat} {c : Int32} {M : Mem} (hF0 : Fx M0) (hc : ¬ nI 257 = c) (hx : XF f M0 M) (h : ∀ M2, XF f M0 M2 → K M2) : Con (d + 2) m_Tape_expect 0 0 [.ref 43, .int c] M (PV K) := by
  have e := hx.2.2.2.1
  refine Con.of (lo := [some (.ref 43), some (.int c)]) F_Tape_expect.1 rfl (Nat.le_of_ble_eq_true rfl) (k_Tape_expect_0 (hx.1.1.fx hF0) ?_)
  rw [e]
  exact ⟨fun _ => sx_failB hF0 hx (fun M2 x2 => ⟨x2.1.1.fx hF0, rfl, h M2 x2⟩), fun q => absurd q hc⟩
theorem sx_expectG {ts : List Tok} {H : List Nat} {W : List Int32} {c : Int32} {M : Mem} {s k v : Nat} {tl : List Tok} (hF0 : Fx M0) (ht : TBx tp M0) (hb : ∀ i, byt tp i < 256) (h160 : tp.length ≤ 160) (hW : W.length ≤ 160) (hc : xtk k v = c → k ≠ 0) (hg : GX tp ts H W M0 M) (e : ts = (s, k, v) :: tl) (hn : ¬ xtk k v = c → ∀ M2, XF s M0 M2 → K M2) (hy : xtk k v = c → ∀ M2, GX tp tl H W M0 M2 → K M2) : Con (d + 8) m_Tape_expect 0 0 [.ref 43, .int c] M (PV K) := by
  obtain ⟨f, ⟨s1, k1, v1, tl1, e1, g4, g5, g6, g3, hs⟩, ho, hw, h2, hk⟩ := id hg
  have ee := e
  rw [e] at e1
  injection e1 with e2 e3
  injection e2 with e2 e4
  injection e4 with e4 e5
  subst e2 e3 e4 e5
  refine Con.of (lo := [some (.ref 43), some (.int c)]) F_Tape_expect.1 rfl (Nat.le_of_ble_eq_true rfl) (k_Tape_expect_0 (f.1.fx hF0) ?_)
  rw [g5]
  exact ⟨fun q => sx_failG hF0 h160 hW hg ee (fun M2 x2 => ⟨x2.1.1.fx hF0, rfl, hn q M2 x2⟩), fun q => sx_advG hF0 ht hb h160 hg ee (hc q) (fun M2 g2 => ⟨g2.1.1.fx hF0, rfl, hy q M2 g2⟩)⟩
/-- readers behind a fault -/
theorem oneB {f : Nat} {M : Mem} (hF0 : Fx M0) (hx : XF f M0 M) (h : ∀ M2, XF f M0 M2 → K M2) : Con (d + 2) m_Tape_readOne 0 0 [.ref 43] M (PV K) := by
  have e := hx.2.2.2.1
  have hF := hx.1.1.fx hF0
  refine Con.of (lo := [some (.ref 43)]) F_Tape_readOne.1 rfl (Nat.le_of_ble_eq_true rfl) (k_Tape_readOne_0 hF ?_)
  rw [e]
  refine ⟨fun _ => ⟨fun _ => k_Tape_readOne_57 hF ?_, fun q => absurd (show (-1 : Int32) < nI 257 by decide) q⟩, fun q => absurd q (by decide)⟩
  rw [e]
  refine ⟨fun _ => k_Tape_readOne_100 hF ?_, fun q => absurd q (by decide)⟩
  rw [e]
  exact ⟨fun _ => k_Tape_readOne_143 hF (sx_failB hF0 hx (fun M2 x2 => ⟨x2.1.1.fx hF0, rfl, h M2 x2⟩)), fun q => absurd q (by decide)⟩
theorem termB6 {bc bs f : Nat} {M : Mem} {i : Int32} (hF0 : Fx M0) (hx : XF f M0 M) (h : ∀ M2, XF f M0 M2 → K M2) : Ex (d + 1) m_Tape_readTerm bc bs 6 [some (.ref 43), some (.int i)] [] M (PV K) := by
  refine k_Tape_readTerm_6 (hx.1.1.fx hF0) ?_
  rw [hx.2.2.2.1]
  exact ⟨fun _ => ⟨rfl, h M hx⟩, fun _ => ⟨fun _ => ⟨rfl, h M hx⟩, fun q => absurd q (by decide)⟩⟩
theorem termB {f : Nat} {M : Mem} (hF0 : Fx M0) (hx : XF f M0 M) (h : ∀ M2, XF f M0 M2 → K M2) : Con (d + 3) m_Tape_readTerm 0 0 [.ref 43] M (PV K) :=
  Con.ent (k := 1) F_Tape_readTerm.1 rfl (Nat.le_of_ble_eq_true rfl) (k_Tape_readTerm_0 (hx.1.1.fx hF0) (oneB hF0 hx (fun M2 x2 => ⟨x2.1.1.fx hF0, termB6 hF0 x2 h⟩)))
theorem sumB6 {bc bs f : Nat} {M : Mem} {i : Int32} (hF0 : Fx M0) (hx : XF f M0 M) (h : ∀ M2, XF f M0 M2 → K M2) : Ex (d + 1) m_Tape_readSum bc bs 6 [some (.ref 43), some (.int i), none] [] M (PV K) := by
  refine k_Tape_readSum_6 (hx.1.1.fx hF0) ?_
  rw [hx.2.2.2.1]
  exact ⟨fun _ => ⟨rfl, h M hx⟩, fun _ => ⟨fun q => absurd q (by decide), fun _ => ⟨fun _ => ⟨rfl, h M hx⟩, fun q => absurd q (by decide)⟩⟩⟩
theorem sumB {f : Nat} {M : Mem} (hF0 : Fx M0) (hx : XF f M0 M) (h : ∀ M2, XF f M0 M2 → K M2) : Con (d + 4) m_Tape_readSum 0 0 [.ref 43] M (PV K) :=
  Con.ent (k := 2) F_Tape_readSum.1 rfl (Nat.le_of_ble_eq_true rfl) (k_Tape_readSum_0 (hx.1.1.fx hF0) (termB hF0 hx (fun M2 x2 => ⟨x2.1.1.fx hF0, sumB6 hF0 x2 h⟩)))
theorem notB {f : Nat} {M : Mem} (hF0 : Fx M0) (hx : XF f M0 M) (h : ∀ M2, XF f M0 M2 → K M2) : Con (d + 5) m_Tape_readNot 0 0 [.ref 43] M (PV K) := by
  refine Con.ent (k := 1) F_Tape_readNot.1 rfl (Nat.le_of_ble_eq_true rfl) (k_Tape_readNot_0 (hx.1.1.fx hF0) ?_)
  rw [hx.2.2.2.1]
  refine ⟨fun _ => sumB hF0 hx (fun M2 x2 => ⟨x2.1.1.fx hF0, ?_⟩), fun q => absurd q (by decide)⟩
  rw [x2.2.2.2.1]
  exact ⟨fun q => absurd q (by decide), fun _ => ⟨fun _ => ⟨rfl, h M2 x2⟩, fun q => absurd q (by decide)⟩⟩
theorem bothB6 {bc bs f : Nat} {M : Mem} {i : Int32} (hF0 : Fx M0) (hx : XF f M0 M) (h : ∀ M2, XF f M0 M2 → K M2) : Ex (d + 1) m_Tape_readBoth bc bs 6 [some (.ref 43), some (.int i)] [] M (PV K) := by
  refine k_Tape_readBoth_6 (hx.1.1.fx hF0) ?_
  rw [hx.2.2.2.1]
  exact ⟨fun _ => ⟨rfl, h M hx⟩, fun _ => ⟨fun _ => ⟨rfl, h M hx⟩, fun q => absurd q (by decide)⟩⟩
theorem bothB {f : Nat} {M : Mem} (hF0 : Fx M0) (hx : XF f M0 M) (h : ∀ M2, XF f M0 M2 → K M2) : Con (d + 6) m_Tape_readBoth 0 0 [.ref 43] M (PV K) :=
  Con.ent (k := 1) F_Tape_readBoth.1 rfl (Nat.le_of_ble_eq_true rfl) (k_Tape_readBoth_0 (hx.1.1.fx hF0) (notB hF0 hx (fun M2 x2 => ⟨x2.1.1.fx hF0, bothB6 hF0 x2 h⟩)))
theorem eithB6 {bc bs f : Nat} {M : Mem} {i : Int32} (hF0 : Fx M0) (hx : XF f M0 M) (h : ∀ M2, XF f M0 M2 → K M2) : Ex (d + 1) m_Tape_readEither bc bs 6 [some (.ref 43), some (.int i)] [] M (PV K) := by
  refine k_Tape_readEither_6 (hx.1.1.fx hF0) ?_
  rw [hx.2.2.2.1]
  exact ⟨fun _ => ⟨rfl, h M hx⟩, fun _ => ⟨fun _ => ⟨rfl, h M hx⟩, fun q => absurd q (by decide)⟩⟩
theorem eithB {f : Nat} {M : Mem} (hF0 : Fx M0) (hx : XF f M0 M) (h : ∀ M2, XF f M0 M2 → K M2) : Con (d + 7) m_Tape_readEither 0 0 [.ref 43] M (PV K) :=
  Con.ent (k := 1) F_Tape_readEither.1 rfl (Nat.le_of_ble_eq_true rfl) (k_Tape_readEither_0 (hx.1.1.fx hF0) (bothB hF0 hx (fun M2 x2 => ⟨x2.1.1.fx hF0, eithB6 hF0 x2 h⟩)))
end PRX
