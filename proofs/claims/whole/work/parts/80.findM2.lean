/-! find: m's side, the ways -/
def LFm : List Nat := [78, 92, 103, 106, 107, 108, 109, 110, 111]
def LEm : List Nat := [78, 92, 106, 107, 110, 111]
def c78 (M0 M : Mem) : Prop := ∀ k, k ≠ 20 → k ≠ 21 → mi M 78 k = mi M0 78 k
theorem FM.k {σ : St} {f : Nat → Nat} {M M2 : Mem} (h : FM σ f M) (g : FrG LEm [] M M2) (c : c78 M M2) : FM σ f M2 := by
  obtain ⟨h1, h2, h3, h4, h5⟩ := h
  have hl := h1.len
  have n : ∀ j, 79 ≤ j → j < 110 → j ≠ 92 → j ≠ 106 → j ≠ 107 → mi M2 j = mi M j := fun j a b c d e => g.row (by omega) (by unfold LEm; simp; omega)
  refine ⟨g.fm h1 (by simp), h2.cg (fun k hk => c k (by omega) (by omega)) (fun j a b => n j (by omega) (by omega) (by omega) (by omega) (by omega)), h3.cg (c 14 (by decide) (by decide)) (n 87 (by decide) (by decide) (by decide) (by decide) (by decide)) (n 88 (by decide) (by decide) (by decide) (by decide) (by decide)), ?_, ?_⟩
  · unfold MkAt; rw [n 109 (by decide) (by decide) (by decide) (by decide) (by decide)]; exact h4
  · unfold G108; rw [n 108 (by decide) (by decide) (by decide) (by decide) (by decide)]; exact h5
theorem ItM.k {σ : St} {m : Nat} {L : List (List (Nat × Nat))} {M M2 : Mem} (h : ItM σ m L M) (g : FrG LEm [] M M2) (c : c78 M M2) : ItM σ m L M2 := by
  obtain ⟨D, f, h1, h2⟩ := h
  exact ⟨D, f, h1.k g c, h2⟩
def FdM (σ : St) (B : Bst) (M : Mem) : Prop := match B with
  | none => mi M 78 20 = 0
  | some (_, w) => mi M 78 20 = nI 1 ∧ mi M 78 21 = nI (oT σ) ∧ ∀ t, t < oT σ → mi M 92 t = nI (dyF w t)
def bmV (aims : Int32) : Bst → Int32
  | none => nI 0
  | some (b, _) => if aims = nI 1 then nI 1 else if aims = nI 2 then b else -b
section KPS
variable {d bc bs : Nat} {σ : St} {D : Nat → Nat} {M0 : Mem}
theorem kps15 {K : Mem → Prop} (hw : WF σ) (h0 : GM σ M0) (hD : Wy σ D M0) (H : ∀ M2, FrG [78, 92] [] M0 M2 → c78 M0 M2 → mi M2 78 20 = nI 1 → mi M2 78 21 = nI (oT σ) → (∀ t, t < oT σ → mi M2 92 t = nI (D t)) → K M2) : ∀ (n t : Nat) (M : Mem), t + n = oT σ → Fm M → FrG [78, 92] [] M0 M → c78 M0 M → mi M 78 20 = nI 1 → mi M 78 21 = nI (oT σ) → (∀ o, o < t → mi M 92 o = nI (D o)) → Ex (d + 2) m_MM_keeps bc bs 15 [some (.ref 78), some (.int (nI t))] [] M (PV K) := by
  have h6 := hw.T6
  have hW := hw.W
  have hl := h0.1.len
  intro n
  induction n with
  | zero =>
    intro t M ht hF hfr hc a1 a2 hg
    obtain rfl : t = oT σ := by omega
    refine k_MM_keeps_15 hF ?_
    rw [hc 0 (by decide) (by decide), h0.2.1.1]
    exact ⟨fun _ => ⟨rfl, H M hfr hc a1 a2 hg⟩, fun q => absurd (nI_le (Nat.le_refl _) (by omega)) q⟩
  | succ n ih =>
    intro t M ht hF hfr hc a1 a2 hg
    obtain ⟨d1, d2⟩ := hD t (by omega)
    refine k_MM_keeps_15 hF ?_
    rw [hc 0 (by decide) (by decide), h0.2.1.1, nI_clamp (show t < 2 ^ 31 by omega), hfr.row (j := 109) (by omega) (by decide), d1, nI_add]
    refine ⟨fun q => absurd q (by rw [nI_leI (by omega) (by omega)]; omega), fun _ => ⟨vN (by omega) (by decide), sm_dayIn hF (by omega) ⟨hF, vN (by omega) (by decide), ?_⟩⟩⟩
    refine ih (t + 1) _ (by omega) hF.fwi (hfr.fwi (by decide)) (fun k q1 q2 => by rw [mi_n (by decide)]; exact hc k q1 q2) (by rw [mi_n (by decide)]; exact a1) (by rw [mi_n (by decide)]; exact a2) (fun o ho => ?_)
    rw [mi_w]
    by_cases y : o = t
    · subst y; rw [u1_s]
    · rw [u1_n y]; exact hg o (by omega)
theorem sm_keeps {K : Mem → Prop} (hw : WF σ) (h0 : GM σ M0) (hD : Wy σ D M0) (H : ∀ M2, FrG [78, 92] [] M0 M2 → c78 M0 M2 → mi M2 78 20 = nI 1 → mi M2 78 21 = nI (oT σ) → (∀ t, t < oT σ → mi M2 92 t = nI (D t)) → K M2) : Con (d + 2) m_MM_keeps 0 0 [.ref 78] M0 (PV K) := by
  refine Con.ent (k := 1) F_MM_keeps.1 rfl (Nat.le_of_ble_eq_true rfl) (k_MM_keeps_0 h0.1 ?_)
  rw [h0.2.1.1]
  exact kps15 hw h0 hD H (oT σ) 0 _ (by omega) h0.1.fwi.fwi (((FrG.rf _ _).fwi (by decide)).fwi (by decide)) (fun k q1 q2 => by rw [wi_f q2, wi_f q1]) (by rw [wi_f (by decide), wi_e]) wi_e (fun o ho => absurd ho (Nat.not_lt_zero _))
end KPS
/-- between two ways -/
def FI (σ : St) (aims : Int32) (L : List (List (Nat × Nat))) (M0 M : Mem) : Prop := ItM σ (2 ^ oT σ - 1) L M ∧ FrG LFm [] M0 M ∧ c78 M0 M ∧ (aims = nI 2 → F103 σ M ∧ CW σ M)
theorem FI.k {σ : St} {aims : Int32} {L : List (List (Nat × Nat))} {M0 M M2 : Mem} (h : FI σ aims L M0 M) (g : FrG LEm [] M M2) (c : c78 M M2) (h2 : aims = nI 2 → CW σ M2) : FI σ aims L M0 M2 := by
  obtain ⟨h1, f, c0, q⟩ := h
  have hl := h1.g.1.len
  refine ⟨h1.k g c, f.tr (g.wk (by unfold LEm LFm; simp) (by simp)), fun k a b => (c k a b).trans (c0 k a b), fun e => ⟨?_, h2 e⟩⟩
  unfold F103
  rw [g.row (by omega) (by decide)]
  exact (q e).1
theorem Wy.of {σ : St} {D f : Nat → Nat} {w : List (Nat × Nat)} {M : Mem} (h6 : oT σ ≤ 6) (e : w = pM (2 ^ oT σ - 1) D (oT σ)) (h1 : FM σ f M) (h2 : Sh σ (2 ^ oT σ - 1) D (oT σ) f) : Wy σ D M ∧ ∀ t, t < oT σ → dyF w t = D t := by
  have tb : ∀ t, t < oT σ → (2 ^ oT σ - 1).testBit t = true := fun t ht => by
    rw [Nat.testBit_two_pow_sub_one, decide_eq_true ht]
  refine ⟨fun t ht => ⟨?_, h2.2 t ht (tb t ht)⟩, fun t ht => ?_⟩
  · rw [h1.2.2.2.1 t ht, h2.1 t ht, if_pos ⟨ht, tb t ht⟩]
  · rw [e]
    unfold pM
    rw [(memT_63 (oT σ) (by omega)).2]
    exact dyF_r ht
theorem Wy.k {σ : St} {D : Nat → Nat} {M M2 : Mem} (h : Wy σ D M) (e : mi M2 109 = mi M 109) : Wy σ D M2 := fun t ht => by rw [e]; exact h t ht
theorem FdM.k {σ : St} {B : Bst} {M M2 : Mem} (h : FdM σ B M) (e : mi M2 78 = mi M 78) (e2 : mi M2 92 = mi M 92) : FdM σ B M2 := by
  unfold FdM at h ⊢
  rw [e, e2]
  exact h
/-- the giving of aims 3 -/
def GvB (σ : St) (g : Int32) (l : List Nat) (aims : Int32) (M : Mem) : Prop := aims = nI 3 → ∃ i gv, g = nI i ∧ i < 12 ∧ l = gv.2 ∧ GivM M i gv ∧ GivW (oT σ) gv
theorem GvB.k {σ : St} {g aims : Int32} {l : List Nat} {M M2 : Mem} (hF : Fm M) (h : GvB σ g l aims M) (f : FrG LFm [] M M2) : GvB σ g l aims M2 := fun q => by
  obtain ⟨i, gv, a, b, c, e, k⟩ := h q
  have hl := hF.len
  refine ⟨i, gv, a, b, c, ?_, k⟩
  unfold GivM
  rw [f.row (j := 89) (by omega) (by decide), f.row (j := 90) (by omega) (by decide), f.row (j := 91) (by omega) (by decide)]
  exact e
theorem nn_I (v : Int32) : -(-v) = v := Int32.neg_neg
theorem neg_lt {a b : Int32} (h1 : -1000000 ≤ a.toInt) (h2 : a.toInt ≤ 1000000) (h3 : -1000000 ≤ b.toInt) (h4 : b.toInt ≤ 1000000) : a < b ↔ ¬ -a ≤ -b := by
  rw [i_lt, i_le, Int32.toInt_neg, Int32.toInt_neg, bm32 (by omega) (by omega), bm32 (by omega) (by omega)]
  omega
def SmB (B : Bst) : Prop := ∀ b w, B = some (b, w) → -1000000 ≤ b.toInt ∧ b.toInt ≤ 1000000
section FND
variable {d bc bs : Nat} {σ : St} {l : List Nat} {aims g : Int32} {B : Bst} {M0 : Mem} {K : Int64 → Mem → Prop}
theorem scD_s {D : Nat → Nat} (hw : WF σ) : -1000000 ≤ (scD σ aims l D).toInt ∧ (scD σ aims l D).toInt ≤ 1000000 := by
  have h6 := hw.T6
  unfold scD
  split
  · obtain ⟨a, b⟩ := sum_b (g := fun t => worthV σ t (D t) (hwV σ D t) (owV σ D t)) (fun i => worth_r) (oT σ) h6
    unfold wwV
    constructor <;> omega
  · split
    · have := otN_le (σ := σ) (l := l) (D := D)
      rw [neg_T (by omega)]; constructor <;> omega
    · have e0 : (nI 0).toInt = 0 := rfl
      rw [e0]; constructor <;> omega
theorem fnd0 {M : Mem} {l3 : Int32} (hF : Fm M) (hA : FdM σ B M) (h3 : l3 = bmV aims B) (H : K (rsB aims B) M) : Ex (d + 1) m_MM_find bc bs 75 [some (.ref 78), some (.int aims), some (.int g), some (.int l3), some (.int (nI 0)), none] [] M (PL K) := by
  subst h3
  refine k_MM_find_75 hF ⟨fun _ => ⟨fun q => ?_, fun q => ?_⟩, fun q => absurd rfl q⟩
  · cases B with
    | none => exact PL.mk rfl H
    | some x =>
      obtain ⟨b, w⟩ := x
      rw [hA.1] at q
      exact absurd q (by decide)
  · cases B with
    | none => exact absurd hA q
    | some x =>
      obtain ⟨b, w⟩ := x
      refine PL.mk ?_ H
      unfold bmV rsB
      by_cases q1 : aims = nI 1
      · simp only [if_pos q1]; rfl
      · by_cases q2 : aims = nI 2
        · simp only [if_neg q1, if_pos q2]
        · simp only [if_neg q1, if_neg q2]
def HE (σ : St) (aims : Int32) (B : Bst) (M0 : Mem) (K : Int64 → Mem → Prop) : Prop := ∀ M2, Fm M2 → FrG LFm [] M0 M2 → c78 M0 M2 → FdM σ B M2 → K (rsB aims B) M2
def IH (d bc bs : Nat) (σ : St) (l : List Nat) (aims g : Int32) (B : Bst) (M0 : Mem) (K : Int64 → Mem → Prop) (L : List (List (Nat × Nat))) : Prop := ∀ w L2, L = w :: L2 → ∀ (A : Bst) (D : Nat → Nat) (M : Mem), FI σ aims L2 M0 M → FdM σ A M → SmB A → GvB σ g l aims M → Wy σ D M → (∀ t, t < oT σ → dyF w t = D t) → bstF (scV σ aims l) L A = B → Ex (d + 6) m_MM_find bc bs 75 [some (.ref 78), some (.int aims), some (.int g), some (.int (bmV aims A)), some (.int (nI 1)), none] [] M (PL K)
theorem fnd144 (hw : WF σ) (H : HE σ aims B M0 K) {L : List (List (Nat × Nat))} {A : Bst} {M : Mem} {l5 : Int32} (ha : ¬ aims = nI 1) (ih : IH d bc bs σ l aims g B M0 K L) (h0 : FI σ aims L M0 M) (hA : FdM σ A M) (hs : SmB A) (hg : GvB σ g l aims M) (hB : bstF (scV σ aims l) L A = B) : Ex (d + 6) m_MM_find bc bs 144 [some (.ref 78), some (.int aims), some (.int g), some (.int (bmV aims A)), some (.int (nI 1)), some (.int l5)] [] M (PL K) := by
  have h6 := hw.T6
  have hG := h0.1.g
  have hl := hG.1.len
  obtain ⟨i1, f1, c1, q1⟩ := id h0
  refine k_MM_find_144 hG.1 ⟨fun q => absurd q ha, fun _ => ?_⟩
  refine sm_all hw hG.1 hG.2.1 ⟨hG.1, ?_⟩
  refine sm_nextC hw (pa_lt h6) i1 (fun hL M2 g2 f2 => ⟨g2.1, fun _ => ?_, (fun z => nomatch z)⟩) (fun w L2 M2 D hL i2 f2 ew hfs => ⟨i2.g.1, (fun z => nomatch z), fun _ => ?_⟩)
  · subst hL
    rw [bst_0] at hB
    subst hB
    refine fnd0 g2.1 (hA.k (f2.row (by omega) (by decide)) (f2.row (by omega) (by decide))) rfl (H M2 g2.1 (f1.tr (f2.wk (by unfold LFm; simp) (by simp))) (fun k a b => ?_) (hA.k (f2.row (by omega) (by decide)) (f2.row (by omega) (by decide))))
    rw [f2.row (j := 78) (by omega) (by decide)]; exact c1 k a b
  · obtain ⟨f, hf1, hf2⟩ := hfs
    obtain ⟨hy, hd⟩ := Wy.of h6 ew hf1 hf2
    refine ih w L2 hL A D M2 ⟨i2, f1.tr (f2.wk (by unfold LFm; simp) (by simp)), fun k a b => ?_, fun e => ⟨?_, ?_⟩⟩ (hA.k (f2.row (by omega) (by decide)) (f2.row (by omega) (by decide))) hs (hg.k hG.1 (f2.wk (by unfold LFm; simp) (by simp))) hy hd hB
    · rw [f2.row (j := 78) (by omega) (by decide)]; exact c1 k a b
    · unfold F103; rw [f2.row (by omega) (by decide)]; exact (q1 e).1
    · unfold CW; rw [f2.row (j := 110) (by omega) (by decide), f2.row (j := 111) (by omega) (by decide)]; exact (q1 e).2
/-- keep the way, then on -/
theorem kpFI {L : List (List (Nat × Nat))} {D : Nat → Nat} {w : List (Nat × Nat)} {s : Int32} {M M2 : Mem} (h0 : FI σ aims L M0 M) (hg : GvB σ g l aims M) (f : FrG [78, 92] [] M M2) (c : c78 M M2) (a1 : mi M2 78 20 = nI 1) (a2 : mi M2 78 21 = nI (oT σ)) (a3 : ∀ t, t < oT σ → mi M2 92 t = nI (D t)) (hd : ∀ t, t < oT σ → dyF w t = D t) : FI σ aims L M0 M2 ∧ FdM σ (some (s, w)) M2 ∧ GvB σ g l aims M2 := by
  have hF := h0.1.g.1
  have hl := hF.len
  refine ⟨h0.k (f.wk (by unfold LEm; simp) (by simp)) c (fun e => ?_), ⟨a1, a2, fun t ht => by rw [hd t ht]; exact a3 t ht⟩, hg.k hF (f.wk (by unfold LFm; simp) (by simp))⟩
  unfold CW
  rw [f.row (j := 110) (by omega) (by decide), f.row (j := 111) (by omega) (by decide)]
  exact (h0.2.2.2 e).2
theorem fnd137 (hw : WF σ) (H : HE σ aims B M0 K) {L : List (List (Nat × Nat))} {D : Nat → Nat} {w : List (Nat × Nat)} {M : Mem} {l3 s : Int32} (ha : ¬ aims = nI 1) (ih : IH d bc bs σ l aims g B M0 K L) (h0 : FI σ aims L M0 M) (hg : GvB σ g l aims M) (hD : Wy σ D M) (hd : ∀ t, t < oT σ → dyF w t = D t) (hs : -1000000 ≤ s.toInt ∧ s.toInt ≤ 1000000) (hB : bstF (scV σ aims l) L (some (s, w)) = B) : Ex (d + 6) m_MM_find bc bs 137 [some (.ref 78), some (.int aims), some (.int g), some (.int l3), some (.int (nI 1)), some (.int (bmV aims (some (s, w))))] [] M (PL K) := by
  refine k_MM_find_137 h0.1.g.1 ?_
  refine sm_keeps hw h0.1.g hD (fun M2 f2 c2 a1 a2 a3 => ?_)
  obtain ⟨x1, x2, x3⟩ := kpFI (w := w) (s := s) h0 hg f2 c2 a1 a2 a3 hd
  exact ⟨x1.1.g.1, fnd144 hw H ha ih x1 x2 (fun b v q => by injection q with q; injection q with q1 q2; rw [← q1]; exact hs) x3 hB⟩
theorem fndC (hw : WF σ) (H : HE σ aims B M0 K) {L : List (List (Nat × Nat))} {A : Bst} {D : Nat → Nat} {w : List (Nat × Nat)} {M : Mem} {r : Int32} (ha : aims = nI 2 ∨ aims = nI 3) (ih : IH d bc bs σ l aims g B M0 K L) (h0 : FI σ aims L M0 M) (hA : FdM σ A M) (hsA : SmB A) (hg : GvB σ g l aims M) (hD : Wy σ D M) (hd : ∀ t, t < oT σ → dyF w t = D t) (hr : r = bmV aims (some (scV σ aims l w, w))) (hB : bstF (scV σ aims l) (w :: L) A = B) :
    (mi M 78 20 = 0 → Ex (d + 6) m_MM_find bc bs 137 [some (.ref 78), some (.int aims), some (.int g), some (.int (bmV aims A)), some (.int (nI 1)), some (.int r)] [] M (PL K)) ∧ (¬ mi M 78 20 = 0 → (¬ aims = nI 2 → Ex (d + 6) m_MM_find bc bs 126 [some (.ref 78), some (.int aims), some (.int g), some (.int (bmV aims A)), some (.int (nI 1)), some (.int r)] [] M (PL K)) ∧ (aims = nI 2 → (bmV aims A < r → Ex (d + 6) m_MM_find bc bs 137 [some (.ref 78), some (.int aims), some (.int g), some (.int (bmV aims A)), some (.int (nI 1)), some (.int r)] [] M (PL K)) ∧ (¬ bmV aims A < r → Ex (d + 6) m_MM_find bc bs 126 [some (.ref 78), some (.int aims), some (.int g), some (.int (bmV aims A)), some (.int (nI 1)), some (.int r)] [] M (PL K)))) := by
  have h1 : ¬ aims = nI 1 := by
    rcases ha with e | e <;> rw [e] <;> decide
  have hs : -1000000 ≤ (scV σ aims l w).toInt ∧ (scV σ aims l w).toInt ≤ 1000000 := by
    rw [sc_D (D := dyF w) (fun t _ => rfl)]
    exact scD_s hw
  have keep : bstF (scV σ aims l) L (some (scV σ aims l w, w)) = B → Ex (d + 6) m_MM_find bc bs 137 [some (.ref 78), some (.int aims), some (.int g), some (.int (bmV aims A)), some (.int (nI 1)), some (.int r)] [] M (PL K) := fun q => by
    rw [hr]
    exact fnd137 hw H h1 ih h0 hg hD hd hs q
  cases A with
  | none =>
    rw [bst_n] at hB
    exact ⟨fun _ => keep hB, fun q => absurd hA q⟩
  | some x =>
    obtain ⟨b0, v0⟩ := x
    have on : ∀ l5, ¬ b0 < scV σ aims l w → Ex (d + 6) m_MM_find bc bs 144 [some (.ref 78), some (.int aims), some (.int g), some (.int (bmV aims (some (b0, v0)))), some (.int (nI 1)), some (.int l5)] [] M (PL K) := fun l5 q => by
      rw [bst_s, if_neg q] at hB
      exact fnd144 hw H h1 ih h0 hA hsA hg hB
    have hs0 := hsA b0 v0 rfl
    refine ⟨fun q => absurd (show nI 1 = 0 from hA.1 ▸ q) (by decide), fun _ => ⟨fun q2 => ?_, fun q2 => ?_⟩⟩
    · have q3 : aims = nI 3 := ha.resolve_left q2
      refine k_MM_find_126 h0.1.g.1 ⟨fun q => absurd q3 q, fun _ => ?_⟩
      rw [hr]
      unfold bmV
      simp only [if_neg h1, if_neg q2]
      have key := neg_lt hs0.1 hs0.2 hs.1 hs.2
      refine ⟨fun z => ?_, fun z => ?_⟩
      · have := on (-(scV σ aims l w)) (fun y => key.mp y z)
        unfold bmV at this
        simp only [if_neg h1, if_neg q2] at this
        exact this
      · rw [bst_s, if_pos (key.mpr z)] at hB
        have := keep hB
        rw [hr] at this
        unfold bmV at this
        simp only [if_neg h1, if_neg q2] at this
        exact this
    · have e : ∀ s v, bmV aims (some (s, v)) = s := fun s v => by unfold bmV; simp only [if_neg h1, if_pos q2]
      have er : r = scV σ aims l w := by rw [hr, e]
      rw [e, er]
      rw [er, e] at keep
      refine ⟨fun z => ?_, fun z => ?_⟩
      · rw [bst_s, if_pos z] at hB
        exact keep hB
      · refine k_MM_find_126 h0.1.g.1 ⟨fun _ => ?_, fun q => absurd (q2.symm.trans q) (by decide)⟩
        have := on (scV σ aims l w) z
        rw [e] at this
        exact this
theorem fnd75 (hw : WF σ) (H : HE σ aims B M0 K) (ha : aims = nI 2 ∨ aims = nI 3) : ∀ (L : List (List (Nat × Nat))), IH d bc bs σ l aims g B M0 K L := by
  have h1 : ¬ aims = nI 1 := by
    rcases ha with e | e <;> rw [e] <;> decide
  intro L
  induction L with
  | nil => intro w L2 hL; cases hL
  | cons w L ih =>
    intro w2 L2 hL A D M h0 hA hsA hg hD hd hB
    injection hL with e1 e2
    subst e1 e2
    have hG := h0.1.g
    have hl := hG.1.len
    refine k_MM_find_75 hG.1 ⟨fun q => absurd q (by decide), fun _ => ⟨fun _ => ⟨fun q2 => ?_, fun q2 => ?_⟩, fun q => absurd q h1⟩⟩
    · have q3 := ha.resolve_left q2
      obtain ⟨i, gv, eg, hi, el, hgm, hgw⟩ := hg q3
      have hr : nI (otN σ gv.2 D) = bmV aims (some (scV σ aims l w, w)) := by
        unfold bmV
        simp only [if_neg h1, if_neg q2]
        rw [sc_D hd]
        unfold scD
        rw [if_neg q2, if_pos q3, nn_I, el]
      have := fndC hw H ha ih h0 hA hsA hg hD hd hr hB
      rw [eg] at this ⊢
      exact sm_others hw hG.1 hG.2.1 hgm hi hgw hD ⟨hG.1, this⟩
    · obtain ⟨r3, cw⟩ := h0.2.2.2 q2
      refine sm_worthWay hw ⟨hG.1, hG.2.1, hG.2.2.1, r3, cw, hD⟩ (fun M2 p2 f2 => ⟨p2.1, ?_⟩)
      have hr : wwV σ D = bmV aims (some (scV σ aims l w, w)) := by
        unfold bmV
        simp only [if_neg h1, if_pos q2]
        rw [sc_D hd]
        unfold scD
        rw [if_pos q2]
      have e78 : mi M2 78 = mi M 78 := f2.row (by omega) (by decide)
      exact fndC hw H ha ih (h0.k (f2.wk (by unfold LK LEm; simp) (by simp)) (fun k _ _ => by rw [e78]) (fun _ => p2.2.2.2.2.1)) (hA.k e78 (f2.row (by omega) (by decide))) hsA (hg.k hG.1 (f2.wk (by unfold LK LFm; simp) (by simp))) p2.2.2.2.2.2 hd hr hB
end FND
