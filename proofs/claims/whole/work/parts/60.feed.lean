/-! each piece of m's state by its rows; the tape alone changes; feed, both sides -/
section MCG
variable {σ : St} {M M2 : Mem}
theorem MLand.cg (c : ∀ k, k = 0 ∨ k = 6 ∨ k = 7 ∨ k = 15 → mi M2 78 k = mi M 78 k) (r : ∀ j, 79 ≤ j → j < 86 → mi M2 j = mi M j) (h : MLand σ M) : MLand σ M2 := by
  unfold MLand at h ⊢
  rw [c 0 (by decide), c 6 (by decide), c 7 (by decide), c 15 (by decide), r 79 (by decide) (by decide), r 80 (by decide) (by decide), r 81 (by decide) (by decide), r 82 (by decide) (by decide), r 83 (by decide) (by decide), r 84 (by decide) (by decide), r 85 (by decide) (by decide)]
  exact h
theorem MKept.cg (c : ∀ k, 25 ≤ k → k < 30 → mi M2 78 k = mi M 78 k) (r : ∀ j, 94 ≤ j → j < 100 → mi M2 j = mi M j) (h : MKept σ M) : MKept σ M2 := by
  unfold MKept at h ⊢
  rw [c 25 (by decide) (by decide), c 26 (by decide) (by decide), c 27 (by decide) (by decide), c 28 (by decide) (by decide), c 29 (by decide) (by decide), r 94 (by decide) (by decide), r 95 (by decide) (by decide), r 96 (by decide) (by decide), r 97 (by decide) (by decide), r 98 (by decide) (by decide), r 99 (by decide) (by decide)]
  exact h
theorem MTape.cg (c : mi M2 78 11 = mi M 78 11) (r : mi M2 86 = mi M 86) (h : MTape σ M) : MTape σ M2 := by
  unfold MTape at h ⊢
  rw [c, r]
  exact h
theorem MText.cg (c : mi M2 78 14 = mi M 78 14) (r1 : mi M2 87 = mi M 87) (r2 : mi M2 88 = mi M 88) (h : MText σ M) : MText σ M2 := by
  unfold MText at h ⊢
  rw [c, r1, r2]
  exact h
theorem MGiv.cg (c : mi M2 78 16 = mi M 78 16) (r1 : mi M2 89 = mi M 89) (r2 : mi M2 90 = mi M 90) (r3 : mi M2 91 = mi M 91) (h : MGiv σ M) : MGiv σ M2 := by
  unfold MGiv at h ⊢
  rw [c, r1, r2, r3]
  exact h
theorem MFound.cg (c : mi M2 78 20 = mi M 78 20) (c2 : mi M2 78 21 = mi M 78 21) (r1 : mi M2 92 = mi M 92) (h : MFound σ M) : MFound σ M2 := by
  unfold MFound at h ⊢
  rw [c, c2, r1]
  exact h
theorem MRound.cg (c : mi M2 78 23 = mi M 78 23) (r1 : mi M2 93 = mi M 93) (h : MRound σ M) : MRound σ M2 := by
  unfold MRound at h ⊢
  rw [c, r1]
  exact h
theorem MSheet.cg (r1 : mi M2 100 = mi M 100) (r2 : mi M2 101 = mi M 101) (r3 : mi M2 102 = mi M 102) (h : MSheet σ M) : MSheet σ M2 := by
  unfold MSheet at h ⊢
  rw [r1, r2, r3]
  exact h
end MCG
theorem FrG.hi {L R : List Nat} {M M2 : Mem} (f : FrG L R M M2) (hL : L.all (fun j => decide (j < 75 ∨ 78 ≤ j ∧ j < 113)) = true) (hR : R.all (fun j => decide (j < 75 ∨ 78 ≤ j ∧ j < 113)) = true) : HiSame M M2 := ⟨fun j kn h => f.shp h, fun j hj hi => ⟨f.row hj (fun hm => by have := List.all_eq_true.mp hL j hm; simp only [decide_eq_true_eq] at this; omega), f.rrow hj (fun hm => by have := List.all_eq_true.mp hR j hm; simp only [decide_eq_true_eq] at this; omega)⟩⟩
def TpA (c k r : Nat) (l : List Nat) (M : Mem) : Prop := mi M c k = nI l.length ∧ ∀ i b, l[i]? = some b → mi M r i = nI b
theorem ap1 {α : Type} {l : List α} {b c : α} {i : Nat} (h : (l ++ [b])[i]? = some c) : (i < l.length ∧ l[i]? = some c) ∨ (i = l.length ∧ c = b) := by
  rcases Nat.lt_trichotomy i l.length with q | q | q
  · rw [List.getElem?_append_left q] at h
    exact .inl ⟨q, h⟩
  · subst q
    rw [List.getElem?_append_right (Nat.le_refl _), Nat.sub_self] at h
    exact .inr ⟨rfl, (Option.some.inj h).symm⟩
  · rw [List.getElem?_eq_none (by rw [List.length_append]; simp; omega)] at h
    cases h
theorem TpA.push {c k r b : Nat} {l : List Nat} {M : Mem} (h : TpA c k r l M) (hrc : r ≠ c) : TpA c k r (l ++ [b]) (wi (wi M r l.length (nI b)) c k (nI (l.length + 1))) := by
  refine ⟨by rw [wi_e, List.length_append]; rfl, fun i d hi => ?_⟩
  rw [mi_n hrc, mi_w]
  rcases ap1 hi with ⟨q, q2⟩ | ⟨q, q2⟩
  · rw [u1_n (by omega)]; exact h.2 i d q2
  · rw [q, q2, u1_s]
theorem XA.tapeS {σ : St} {l : List Nat} {M M2 : Mem} (hw : WF σ) (hx : XA σ M) (f : FrG [43, 44] [] M M2) (ht : TpA 43 1 44 l M2) : SX (sTp σ l) M M2 := by
  obtain ⟨hF, h1, h2, h3, h4, h5, h6, h7, h8⟩ := hx
  have hlen := hF.len
  have n : ∀ j, j < 75 → j ≠ 43 → j ≠ 44 → mi M2 j = mi M j := fun j a b c => f.row (by omega) (by simp; omega)
  have rr : ∀ i, i < 75 → mr M2 i = mr M i := fun i hi => f.rrow (by omega) (by simp)
  have hs := f.hi rfl rfl
  exact ⟨⟨f.fx hF, h1.cg (fun j a b => n j (by omega) (by omega) (by omega)) hw.T6, h2.cg (by rw [n 0 (by omega) (by omega) (by omega)]) (fun j a b => n j (by omega) (by omega) (by omega)), ht, h4.cg hs (by rw [n 46 (by omega) (by omega) (by omega)]) (rr 47 (by omega)), h5.cg hs (by rw [n 0 (by omega) (by omega) (by omega)]) (rr 50 (by omega)), h6.cg (by rw [n 53 (by omega) (by omega) (by omega)]) (n 54 (by omega) (by omega) (by omega)), h7.cg (by rw [n 63 (by omega) (by omega) (by omega)]) (n 64 (by omega) (by omega) (by omega)), h8.cg (fun j a b => n j (by omega) (by omega) (by omega))⟩, fun _ hm => XA.keepM f rfl rfl hm⟩
theorem MA.tapeS {σ : St} {l : List Nat} {M M2 : Mem} (hm : MA σ M) (f : FrG [78, 86] [] M M2) (c : ∀ k, k ≠ 11 → mi M2 78 k = mi M 78 k) (ht : TpA 78 11 86 l M2) : SM (sTp σ l) M M2 := by
  obtain ⟨hF, h0, h1, h2, h3, h4, h5, h6, h7, h8⟩ := hm
  have hlen := hF.len
  have n : ∀ j, 79 ≤ j → j < 113 → j ≠ 86 → mi M2 j = mi M j := fun j a b c => f.row (by omega) (by simp; omega)
  exact ⟨⟨f.fm hF (by simp), by rw [f.lrow (j := 104) (by omega)]; exact h0, h1.cg (fun k hk => c k (by omega)) (fun j a b => n j (by omega) (by omega) (by omega)), h2.cg (fun k a b => c k (by omega)) (fun j a b => n j (by omega) (by omega) (by omega)), ht, h4.cg (c 14 (by decide)) (n 87 (by omega) (by omega) (by omega)) (n 88 (by omega) (by omega) (by omega)), h5.cg (c 16 (by decide)) (n 89 (by omega) (by omega) (by omega)) (n 90 (by omega) (by omega) (by omega)) (n 91 (by omega) (by omega) (by omega)), h6.cg (c 20 (by decide)) (c 21 (by decide)) (n 92 (by omega) (by omega) (by omega)), h7.cg (c 23 (by decide)) (n 93 (by omega) (by omega) (by omega)), h8.cg (n 100 (by omega) (by omega) (by omega)) (n 101 (by omega) (by omega) (by omega)) (n 102 (by omega) (by omega) (by omega))⟩, fun _ h6 hx => MA.keepX f rfl h6 hx⟩
def byV (w : Int64) (i : Nat) : Nat := ((w >>> ((nI (8 * i)).toInt64 &&& 63)).toInt32 &&& nI 255).toNatClampNeg
theorem byV_s (w : Int64) (i : Nat) : (w >>> ((nI (8 * i)).toInt64 &&& 63)).toInt32 &&& nI 255 = nI (byV w i) ∧ byV w i < 256 := by
  obtain ⟨j, hj, e⟩ := pk_andE ((w >>> ((nI (8 * i)).toInt64 &&& 63)).toInt32) (m := nI 255) 8 (by decide)
  unfold byV
  rw [e, nI_clamp (by omega)]
  exact ⟨rfl, hj⟩
def byL (w : Int64) : Nat → List Nat
  | 0 => []
  | n + 1 => byV w n :: byL w n
theorem byL_len (w : Int64) : ∀ n, (byL w n).length = n
  | 0 => rfl
  | n + 1 => by rw [byL, List.length_cons, byL_len w n]
theorem byL_256 (w : Int64) : ∀ n, ∀ b ∈ byL w n, b < 256
  | 0, b, h => by cases h
  | n + 1, b, h => by
    rw [byL, List.mem_cons] at h
    rcases h with rfl | h
    · exact (byV_s w n).2
    · exact byL_256 w n b h
def pFeed (σ : St) (n : Int32) : Int32 := if isB 1 8 n = true then (if (oTp σ).length + n.toNatClampNeg ≤ 160 then nI ((oTp σ).length + n.toNatClampNeg) else -4) else -2
def tFeed (σ : St) (w : Int64) (n : Int32) : St := if isB 1 8 n = true then (if (oTp σ).length + n.toNatClampNeg ≤ 160 then sTp σ (oTp σ ++ byL w n.toNatClampNeg) else σ) else σ
theorem WF.sTp {σ : St} (h : WF σ) {l : List Nat} (h1 : l.length ≤ 160) (h2 : ∀ b ∈ l, b < 256) : WF (sTp σ l) := by
  obtain ⟨x0, b, c, x, tp, tx, gv, fo, ro, im, ss⟩ := h
  exact ⟨x0, b, c, x, ⟨h1, h2⟩, tx, gv, fo, ro, im, ss⟩
theorem WF.tp {σ : St} (h : WF σ) : (oTp σ).length ≤ 160 ∧ ∀ b ∈ oTp σ, b < 256 := h.2.2.2.2.1
theorem WF.feed {σ : St} (h : WF σ) (w : Int64) (n : Int32) : WF (tFeed σ w n) := by
  unfold tFeed
  split
  · split
    · refine h.sTp (by rw [List.length_append, byL_len]; assumption) (fun b hb => ?_)
      rw [List.mem_append] at hb
      rcases hb with hb | hb
      · exact h.tp.2 b hb
      · exact byL_256 _ _ _ hb
    · exact h
  · exact h
theorem sx_put {d b : Nat} {l : List Nat} {M : Mem} {K : Mem → Prop} (hF : Fx M) (ht : TpA 43 1 44 l M) (hl : l.length < 160) (h : K (wi (wi M 44 l.length (nI b)) 43 1 (nI (l.length + 1)))) : Con (d + 1) m_Tape_put 0 0 [.ref 43, .int (nI b)] M (PV K) := by
  refine Con.of (lo := [some (.ref 43), some (.int (nI b))]) F_Tape_put.1 rfl (Nat.le_of_ble_eq_true rfl) (k_Tape_put_0 hF ?_)
  rw [ht.1, nI_add, nI_clamp (by omega)]
  exact ⟨fun q => absurd q (by rw [nI_leI (by omega) (by omega)]; omega), fun _ => ⟨vN hl (by decide), rfl, h⟩⟩
theorem m1_sub (x : Int32) : x + -1 = x - nI 1 := (Int32.sub_eq_add_neg x (nI 1)).symm
theorem nlt0 {n : Nat} (h : n < 2 ^ 30) : (nI n - nI 1 < 0) ↔ n = 0 := by
  rw [i_lt, i_0, pk_sub_toInt h (by decide)]
  omega
theorem fdx37 {d bc bs : Nat} {w : Int64} {l3 : Int32} {M0 : Mem} {Φ : Option Value → Mem → Prop} : ∀ (n : Nat) (l : List Nat) (M : Mem), n ≤ 8 → l.length + n ≤ 160 → Fx M → FrG [43, 44] [] M0 M → TpA 43 1 44 l M → (∀ M2, Fx M2 → FrG [43, 44] [] M0 M2 → TpA 43 1 44 (l ++ byL w n) M2 → Φ (some (.int (nI (l.length + n)))) M2) → Ex (d + 2) m_MD_feed bc bs 37 [some (.ref 0), some (.long w), none, some (.int l3), some (.int (nI n - nI 1))] [] M Φ := by
  intro n
  induction n with
  | zero =>
    intro l M hn hl hF hfr ht H
    refine k_MD_feed_37 hF ⟨fun _ => ?_, fun q => absurd ((nlt0 (by decide)).mpr rfl) q⟩
    rw [ht.1]
    exact H M hF hfr (by rw [byL, List.append_nil]; exact ht)
  | succ n ih =>
    intro l M hn hl hF hfr ht H
    refine k_MD_feed_37 hF ⟨fun q => absurd ((nlt0 (by omega)).mp q) (by omega), fun _ => ?_⟩
    rw [nI_sub1 (by omega), Nat.add_sub_cancel, pk_mul, (byV_s w n).1, m1_sub]
    refine sx_put hF ht (by omega) ⟨hF.fwi.fwi, ?_⟩
    refine ih (l ++ [byV w n]) _ (by omega) (by rw [List.length_append]; simp; omega) hF.fwi.fwi ((hfr.fwi (by simp)).fwi (by simp)) (ht.push (by decide)) (fun M2 hF2 f2 t2 => ?_)
    have := H M2 hF2 f2 (by rw [byL]; rw [List.append_assoc] at t2; exact t2)
    rw [List.length_append]
    rw [show l.length + [byV w n].length + n = l.length + (n + 1) by simp; omega]
    exact this
theorem sX_feed {d : Nat} {σ : St} {w : Int64} {n : Int32} {M : Mem} {K : Int32 → Mem → Prop} (hw : WF σ) (hx : XA σ M) (h : ∀ M2, SX (tFeed σ w n) M M2 → K (pFeed σ n) M2) : Con (d + 2) m_MD_feed 0 0 [.ref 0, .long w, .int n] M (PI K) := by
  obtain ⟨hF, -, -, hT, -⟩ := id hx
  have hl := hw.tp.1
  unfold tFeed pFeed at h
  have no : ¬ isB 1 8 n = true → K (-2) M := fun q => by
    have := h M (by rw [if_neg q]; exact SX.rf hx)
    rwa [if_neg q] at this
  have e1 : (nI 1).toInt = 1 := rfl
  have e8 : (nI 8).toInt = 8 := rfl
  refine Con.ent (k := 1) F_MD_feed.1 rfl (Nat.le_of_ble_eq_true rfl) (k_MD_feed_0 hF ⟨fun z => PI.mk rfl (no ?_), fun z => ⟨fun z2 => ?_, fun z2 => PI.mk rfl (no ?_)⟩⟩)
  · rw [isB_t]; rw [i_lt, e1] at z; omega
  · rw [i_lt, e1] at z; rw [i_le, e8] at z2
    obtain ⟨m, hm, rfl⟩ : ∃ m, m < 9 ∧ n = nI m := i_of (by omega) (by omega) (by omega)
    have hb : isB 1 8 (nI m) = true := isB_t.mpr (by omega)
    rw [if_pos hb, if_pos hb, nI_clamp (by omega)] at h
    rw [hT.1, nI_add]
    refine ⟨fun z3 => ?_, fun z3 => PI.mk rfl ?_⟩
    · rw [nI_leI (by omega) (by omega)] at z3
      rw [if_pos z3, if_pos z3] at h
      exact fdx37 m (oTp σ) M (by omega) z3 hF (FrG.rf _ _) hT (fun M2 hF2 f2 t2 => PI.mk rfl (h M2 (hx.tapeS hw f2 t2)))
    · rw [nI_leI (by omega) (by omega)] at z3
      have := h M (by rw [if_neg z3]; exact SX.rf hx)
      rwa [if_neg z3] at this
  · rw [isB_t]; rw [i_le, e8] at z2; omega
theorem fdm33 {d bc bs : Nat} {w : Int64} {l3 : Int32} {M0 : Mem} {Φ : Option Value → Mem → Prop} : ∀ (n : Nat) (l : List Nat) (M : Mem), n ≤ 8 → l.length + n ≤ 160 → Fm M → FrG [78, 86] [] M0 M → (∀ k, k ≠ 11 → mi M 78 k = mi M0 78 k) → TpA 78 11 86 l M → (∀ M2, Fm M2 → FrG [78, 86] [] M0 M2 → (∀ k, k ≠ 11 → mi M2 78 k = mi M0 78 k) → TpA 78 11 86 (l ++ byL w n) M2 → Φ (some (.int (nI (l.length + n)))) M2) → Ex (d + 1) m_MM_feed bc bs 33 [some (.ref 78), some (.long w), none, some (.int l3), some (.int (nI n - nI 1))] [] M Φ := by
  intro n
  induction n with
  | zero =>
    intro l M hn hl hF hfr hc ht H
    refine k_MM_feed_33 hF ⟨fun _ => ?_, fun q => absurd ((nlt0 (by decide)).mpr rfl) q⟩
    rw [ht.1]
    exact H M hF hfr hc (by rw [byL, List.append_nil]; exact ht)
  | succ n ih =>
    intro l M hn hl hF hfr hc ht H
    refine k_MM_feed_33 hF ⟨fun q => absurd ((nlt0 (by omega)).mp q) (by omega), fun _ => ?_⟩
    rw [nI_sub1 (by omega), Nat.add_sub_cancel, pk_mul, Int64.toInt32_and, show (255 : Int64).toInt32 = nI 255 from rfl, (byV_s w n).1, m1_sub, ht.1, nI_add, nI_clamp (by omega)]
    refine ⟨vN (by omega) (by decide), ?_⟩
    refine ih (l ++ [byV w n]) _ (by omega) (by rw [List.length_append]; simp; omega) hF.fwi.fwi ((hfr.fwi (by simp)).fwi (by simp)) (fun k hk => ?_) (ht.push (by decide)) (fun M2 hF2 f2 c2 t2 => ?_)
    · rw [wi_f hk, mi_n (by decide)]; exact hc k hk
    have := H M2 hF2 f2 c2 (by rw [byL]; rw [List.append_assoc] at t2; exact t2)
    rw [List.length_append]
    rw [show l.length + [byV w n].length + n = l.length + (n + 1) by simp; omega]
    exact this
theorem sM_feed {d : Nat} {σ : St} {w : Int64} {n : Int32} {M : Mem} {K : Int32 → Mem → Prop} (hw : WF σ) (hm : MA σ M) (h : ∀ M2, SM (tFeed σ w n) M M2 → K (pFeed σ n) M2) : Con (d + 2) m_MM_feed 0 0 [.ref 78, .long w, .int n] M (PI K) := by
  obtain ⟨hF, -, -, -, hT, -⟩ := id hm
  have hl := hw.tp.1
  unfold tFeed pFeed at h
  refine Con.ent (k := 1) F_MM_feed.1 rfl (Nat.le_of_ble_eq_true rfl) (k_MM_feed_0 hF ?_)
  refine sm_in hF ?_
  rw [show (nI 1).toInt = 1 from rfl, show (nI 8).toInt = 8 from rfl]
  refine ⟨hF, fun q => ?_, fun q => PI.mk rfl ?_⟩
  · have q2 := isB_t.mp q
    obtain ⟨m, hm2, rfl⟩ : ∃ m, m < 9 ∧ n = nI m := i_of (by omega) (by omega) (by omega)
    rw [if_pos q, if_pos q, nI_clamp (by omega)] at h
    rw [hT.1, nI_add]
    refine ⟨fun z3 => ?_, fun z3 => PI.mk rfl ?_⟩
    · rw [nI_leI (by omega) (by omega)] at z3
      rw [if_pos z3, if_pos z3] at h
      exact fdm33 m (oTp σ) M (by omega) z3 hF (FrG.rf _ _) (fun _ _ => rfl) hT (fun M2 hF2 f2 c2 t2 => PI.mk rfl (h M2 (hm.tapeS f2 c2 t2)))
    · rw [nI_leI (by omega) (by omega)] at z3
      have := h M (by rw [if_neg z3]; exact SM.rf hm)
      rwa [if_neg z3] at this
  · have := h M (by rw [q]; exact SM.rf hm)
    rwa [q] at this
