/-! image and back, both sides -/
def imgV (σ : St) : Img := (oT σ, oW σ, oMy σ, oWi σ, oBe σ, oRd σ, oFe σ, oRu σ)
def tImage (σ : St) : St := sIm σ (some (imgV σ))
def bkS (σ : St) (g : Img) : St := (oT σ, iW g, oSz σ, (fun t => if t < iT g then iMy g t else oMy σ t), (fun t => if t < iT g then iWi g t else oWi σ t), (fun t => if t < iT g then iBe g t else oBe σ t), mrg (iT g) (iRd g) (oRd σ), iFe g, oTp σ, oTx σ, iRu g, oGv σ, oFo σ, oRo σ, oIm σ, oSo σ, oSs σ, oSc σ)
def tBack (σ : St) : St := match oIm σ with
  | none => σ
  | some g => bkS σ g
def pBack (σ : St) : Int32 := match oIm σ with
  | none => -3
  | some _ => nI (oT σ)
theorem WF.image {σ : St} (h : WF σ) : WF (tImage σ) := by
  obtain ⟨x0, b, c, x, tp, tx, gv, fo, ro, im, ss⟩ := h
  refine ⟨x0, b, c, x, tp, tx, gv, fo, ro, fun g hg => ?_, ss⟩
  have hg : some (imgV σ) = some g := hg
  injection hg with e
  subst e
  exact ⟨Nat.le_refl _, b, tx.2.2.1, x⟩
theorem WF.im {σ : St} (h : WF σ) {g : Img} (hg : oIm σ = some g) : iT g ≤ oT σ ∧ (2 ≤ iW g ∧ iW g ≤ 7) ∧ iRu g < (oTx σ).length ∧ WFx (iT g) (iMy g) (iWi g) (iBe g) (iRd g) (iFe g) := h.2.2.2.2.2.2.2.2.2.1 g hg
theorem rd_0 {T : Nat} {r : Nat → Nat → Nat} (x2 : ∀ a b, r a b ≤ 50 ∧ r a b = r b a ∧ r a a = 0 ∧ (T ≤ a → r a b = 0)) {a b : Nat} (h : T ≤ a ∨ T ≤ b) : r a b = 0 := by
  rcases h with h | h
  · exact (x2 a b).2.2.2 h
  · rw [(x2 a b).2.1]; exact (x2 b a).2.2.2 h
theorem WF.bkS {σ : St} (h : WF σ) {g : Img} (hg : oIm σ = some g) : WF (bkS σ g) := by
  obtain ⟨i1, i2, i3, y1, y2, y3, y4⟩ := h.im hg
  obtain ⟨x0, b, c, ⟨x1, x2, x3, x4⟩, tp, ⟨t1, t2, t3, t4⟩, gv, fo, ro, im, ss⟩ := h
  refine ⟨x0, i2, c, ⟨fun t ht => ?_, fun a b => ?_, y3, y4⟩, tp, ⟨t1, t2, i3, t4⟩, gv, fo, ro, im, ss⟩
  · show (if t < iT g then iMy g t else oMy σ t) ≤ 127 ∧ ((if t < iT g then iWi g t else oWi σ t) = -1 ∨ ∃ k, k ≤ 6 ∧ (if t < iT g then iWi g t else oWi σ t) = nI k) ∧ ((if t < iT g then iBe g t else oBe σ t) = -1 ∨ ∃ k, k < oT σ ∧ k ≠ t ∧ (if t < iT g then iBe g t else oBe σ t) = nI k)
    by_cases q : t < iT g
    · rw [if_pos q, if_pos q, if_pos q]
      obtain ⟨z1, z2, z3⟩ := y1 t q
      refine ⟨z1, z2, z3.imp id (fun ⟨k, a, b, c⟩ => ⟨k, by omega, b, c⟩)⟩
    · rw [if_neg q, if_neg q, if_neg q]
      exact x1 t ht
  · show mrg (iT g) (iRd g) (oRd σ) a b ≤ 50 ∧ mrg (iT g) (iRd g) (oRd σ) a b = mrg (iT g) (iRd g) (oRd σ) b a ∧ mrg (iT g) (iRd g) (oRd σ) a a = 0 ∧ (oT σ ≤ a → mrg (iT g) (iRd g) (oRd σ) a b = 0)
    unfold mrg
    refine ⟨?_, ?_, ?_, fun ha => ?_⟩
    · split
      · exact (y2 a b).1
      · exact (x2 a b).1
    · by_cases q : a < iT g ∨ b < iT g
      · rw [if_pos q, if_pos q.symm]; exact (y2 a b).2.1
      · rw [if_neg q, if_neg (fun w => q w.symm)]; exact (x2 a b).2.1
    · split
      · exact (y2 a a).2.2.1
      · exact (x2 a a).2.2.1
    · split
      · exact (y2 a b).2.2.2 (by omega)
      · exact (x2 a b).2.2.2 ha
theorem WF.back {σ : St} (h : WF σ) : WF (tBack σ) := by
  unfold tBack
  cases hg : oIm σ with
  | none => exact h
  | some g => exact h.bkS hg
theorem XKept.img {σ : St} {M : Mem} (hw : WF σ) (h : XKept σ M) : ∃ (T1 : Nat) (r1 : Nat → Nat → Nat), T1 ≤ oT σ ∧ mi M 22 8 = nI T1 ∧ (∀ a b, a < 6 → b < 6 → mi M (28 + a) b = nI (r1 a b)) ∧ (∀ a b, r1 a b ≤ 50) ∧ (∀ a b, T1 ≤ a → r1 a b = 0) := by
  unfold XKept at h
  cases hI : oIm σ with
  | none =>
    rw [hI] at h
    obtain ⟨h1, h2, h3⟩ := h
    exact ⟨0, fun _ _ => 0, Nat.zero_le _, h2, h3, fun _ _ => Nat.zero_le _, fun _ _ _ => rfl⟩
  | some g =>
    rw [hI] at h
    obtain ⟨i1, i2, i3, y1, y2, y3, y4⟩ := hw.im hI
    obtain ⟨h1, h2, h3, h4, h5, h6, h7, h8⟩ := h
    exact ⟨iT g, iRd g, i1, h2, h7, fun a b => (y2 a b).1, fun a b => (y2 a b).2.2.2⟩
theorem LFk_in : ∀ j ∈ LF_k, 22 ≤ j ∧ j < 43 := by decide
theorem LFb_in : ∀ j ∈ LF_b, 1 ≤ j ∧ j < 22 := by decide
theorem XA.imgS {σ : St} {g : Option Img} {M M2 : Mem} (hw : WF σ) (hx : XA σ M) (f : FrG (0 :: LF_k) [] M M2) (c : ∀ k, k ≠ 2 → mi M2 0 k = mi M 0 k) (hk : XKept (sIm σ g) M2) : SX (sIm σ g) M M2 := by
  obtain ⟨hF, h1, h2, h3, h4, h5, h6, h7, h8⟩ := hx
  have hlen := hF.len
  have n : ∀ j, j < 75 → j ≠ 0 → ¬ (22 ≤ j ∧ j < 43) → mi M2 j = mi M j := fun j a b c => f.row (by omega) (fun hm => by
    rcases List.mem_cons.mp hm with hm | hm
    · exact b hm
    · exact c (LFk_in j hm))
  have rr : ∀ i, i < 75 → mr M2 i = mr M i := fun i hi => f.rrow (by omega) (by simp)
  have hs := f.hi (by decide) rfl
  exact ⟨⟨f.fx hF, h1.cg (fun j a b => n j (by omega) (by omega) (by omega)) hw.T6, hk, h3.cg (by rw [n 43 (by omega) (by omega) (by omega)]) (n 44 (by omega) (by omega) (by omega)), h4.cg hs (by rw [n 46 (by omega) (by omega) (by omega)]) (rr 47 (by omega)), h5.cg hs (c 6 (by decide)) (rr 50 (by omega)), h6.cg (by rw [n 53 (by omega) (by omega) (by omega)]) (n 54 (by omega) (by omega) (by omega)), h7.cg (by rw [n 63 (by omega) (by omega) (by omega)]) (n 64 (by omega) (by omega) (by omega)), h8.cg (fun j a b => n j (by omega) (by omega) (by omega))⟩, fun _ hm => XA.keepM f (by decide) rfl hm⟩
theorem sX_image {d : Nat} {σ : St} {M : Mem} {K : Int32 → Mem → Prop} (hw : WF σ) (hx : XA σ M) (h : ∀ M2, SX (tImage σ) M M2 → K (nI (oT σ)) M2) : Con (d + 3) m_MD_image 0 0 [.ref 0] M (PI K) := by
  obtain ⟨hF, ⟨g1, g2, g3, g4, g5, g6, g7, g8⟩, hK, hx2⟩ := id hx
  have h6 := hw.T6
  obtain ⟨x1, x2, x3, x4⟩ := hw.x
  have hlen := hF.len
  obtain ⟨T1, r1, e1, e2, e3, e4, e5⟩ := hK.img hw
  refine Con.of (lo := [some (.ref 0)]) F_MD_image.1 rfl (Nat.le_of_ble_eq_true rfl) (k_MD_image_0 hF ?_)
  refine sx_bec_k hF g1 h6 e2 (by omega) g3 x3 g6 e3 (fun a b => ⟨(x2 a b).2.1, (x2 a b).2.2.2⟩) (fun a b => (x2 a b).1) e4 (fun M2 hF2 f2 ⟨c8, c9, c10, c11⟩ b3 b4 b5 b7 br bf => ⟨hF2, PI.mk ?_ (h _ ?_)⟩)
  · rw [f2.row (j := 1) (by omega) (by decide)]; exact g1
  rw [Nat.max_eq_left e1] at c8
  refine hx.imgS hw ((f2.wk (fun j hj => List.mem_cons_of_mem _ hj) (by simp)).fwi (by simp)) (fun k hk => by rw [wi_f hk, f2.row (j := 0) (by omega) (by decide)]) ?_
  have nw : ∀ j, j ≠ 0 → mi (wi M2 0 2 (nI 1)) j = mi M2 j := fun j hj => mi_n hj
  show mi (wi M2 0 2 (nI 1)) 0 2 = 1 ∧ mi (wi M2 0 2 (nI 1)) 22 8 = nI (oT σ) ∧ mi (wi M2 0 2 (nI 1)) 22 9 = nI (oW σ) ∧ mi (wi M2 0 2 (nI 1)) 22 10 = nI (oFe σ).length ∧ mi (wi M2 0 2 (nI 1)) 22 11 = nI (oRu σ) ∧ (∀ t, t < oT σ → mi (wi M2 0 2 (nI 1)) 24 t = nI (oMy σ t) ∧ mi (wi M2 0 2 (nI 1)) 25 t = oWi σ t ∧ mi (wi M2 0 2 (nI 1)) 26 t = oBe σ t) ∧ (∀ a b, a < 6 → b < 6 → mi (wi M2 0 2 (nI 1)) (28 + a) b = nI (oRd σ a b)) ∧ (∀ i w d, (oFe σ)[i]? = some (w, d) → mi (wi M2 0 2 (nI 1)) 41 i = nI w ∧ mi (wi M2 0 2 (nI 1)) 42 i = nI d)
  rw [nw 22 (by decide), nw 24 (by decide), nw 25 (by decide), nw 26 (by decide), nw 41 (by decide), nw 42 (by decide), c8, c9, c10, c11]
  refine ⟨wi_e, rfl, g2, g3, g4, fun t ht => ?_, fun a b ha hb => ?_, fun i w d hi => ?_⟩
  · rw [b3 t, b4 t, b5 t, if_pos ht, if_pos ht, if_pos ht]
    exact (g5 t ht).2
  · rw [nw (28 + a) (by omega), b7 a b ha hb]
    unfold mrg
    by_cases q : a < oT σ ∨ b < oT σ
    · rw [if_pos q]
    · rw [if_neg q, e5 a b (by omega), rd_0 x2 (a := a) (b := b) (by omega)]
  · have l1 := (List.getElem?_eq_some_iff.mp hi).1
    rw [(bf i l1).1, (bf i l1).2]
    exact g8 i w d hi
theorem sX_back {d : Nat} {σ : St} {M : Mem} {K : Int32 → Mem → Prop} (hw : WF σ) (hx : XA σ M) (h : ∀ M2, SX (tBack σ) M M2 → K (pBack σ) M2) : Con (d + 3) m_MD_back 0 0 [.ref 0] M (PI K) := by
  obtain ⟨hF, ⟨g1, g2, g3, g4, g5, g6, g7, g8⟩, hK, hx2⟩ := id hx
  have h6 := hw.T6
  obtain ⟨x1, x2, x3, x4⟩ := hw.x
  have hlen := hF.len
  unfold tBack pBack at h
  unfold XKept at hK
  refine Con.of (lo := [some (.ref 0)]) F_MD_back.1 rfl (Nat.le_of_ble_eq_true rfl) (k_MD_back_0 hF ?_)
  cases hI : oIm σ with
  | none =>
    rw [hI] at h hK
    rw [hK.1]
    exact ⟨fun q => absurd rfl q, fun _ => PI.mk rfl (h M (SX.rf hx))⟩
  | some g =>
    rw [hI] at h hK
    obtain ⟨i1, i2, i3, y1, y2, y3, y4⟩ := hw.im hI
    obtain ⟨k1, k2, k3, k4, k5, k6, k7, k8⟩ := hK
    rw [k1]
    refine ⟨fun _ => ?_, fun q => absurd q (by decide)⟩
    refine sx_bec_b hF k2 (by omega) g1 h6 k4 y3 k7 g6 (fun a b => ⟨(y2 a b).2.1, (y2 a b).2.2.2⟩) (fun a b => (y2 a b).1) (fun a b => (x2 a b).1) (fun M2 hF2 f2 ⟨c8, c9, c10, c11⟩ b3 b4 b5 b7 br bf => ⟨hF2, ?_⟩)
    rw [Nat.max_eq_right i1] at c8 br
    refine PI.mk c8 (h _ ?_)
    refine hx.landS f2 (by decide) rfl ?_
    refine ⟨c8, c9.trans k3, c10.trans k4, c11.trans k5, fun t ht => ?_, b7, br, fun i w d hi => ?_⟩
    · obtain ⟨z1, z2, z3, z4⟩ := g5 t ht
      show mi M2 2 t = nI (oSz σ t) ∧ mi M2 3 t = nI (if t < iT g then iMy g t else oMy σ t) ∧ mi M2 4 t = (if t < iT g then iWi g t else oWi σ t) ∧ mi M2 5 t = (if t < iT g then iBe g t else oBe σ t)
      rw [f2.row (j := 2) (by omega) (by decide), b3 t, b4 t, b5 t]
      refine ⟨z1, ?_⟩
      by_cases q : t < iT g
      · rw [if_pos q, if_pos q, if_pos q, if_pos q, if_pos q, if_pos q]; exact k6 t q
      · rw [if_neg q, if_neg q, if_neg q, if_neg q, if_neg q, if_neg q]; exact ⟨z2, z3, z4⟩
    · have l1 := (List.getElem?_eq_some_iff.mp (show (iFe g)[i]? = some (w, d) from hi)).1
      rw [(bf i l1).1, (bf i l1).2]
      exact k8 i w d hi
section IMM
variable {d bc bs : Nat} {M0 : Mem} {Φ : Option Value → Mem → Prop}
theorem imm39 (hF0 : Fm M0) (H : ∀ M2, Fm M2 → FrG [94, 95, 96] [] M0 M2 → (∀ q, q < 6 → mi M2 94 q = mi M0 80 q ∧ mi M2 95 q = mi M0 81 q ∧ mi M2 96 q = mi M0 82 q) → Ex (d + 1) m_MM_image bc bs 89 [some (.ref 78), some (.int (nI 0))] [] M2 Φ) : ∀ (n t : Nat) (M : Mem), t + n = 6 → Fm M → FrG [94, 95, 96] [] M0 M → (∀ q, q < t → mi M 94 q = mi M0 80 q ∧ mi M 95 q = mi M0 81 q ∧ mi M 96 q = mi M0 82 q) → Ex (d + 1) m_MM_image bc bs 39 [some (.ref 78), some (.int (nI t))] [] M Φ := by
  have hl := hF0.len
  intro n
  induction n with
  | zero =>
    intro t M ht hF hfr hg
    obtain rfl : t = 6 := by omega
    exact k_MM_image_39 hF ⟨fun _ => H M hF hfr hg, fun q => absurd (nI_le (Nat.le_refl _) (by omega)) q⟩
  | succ n ih =>
    intro t M ht hF hfr hg
    have vt := vN (show t < 6 by omega) (by decide)
    refine k_MM_image_39 hF ?_
    rw [nI_clamp (by omega), nI_add, hfr.row (j := 80) (by omega) (by simp), hfr.row (j := 81) (by omega) (by simp), hfr.row (j := 82) (by omega) (by simp)]
    refine ⟨fun q => absurd q (by rw [nI_leI (by omega) (by omega)]; omega), fun _ => ⟨vt, vt, vt, vt, vt, vt, ih (t + 1) _ (by omega) hF.fwi.fwi.fwi (((hfr.fwi (by simp)).fwi (by simp)).fwi (by simp)) (fun q hq => ?_)⟩⟩
    rw [mi_n (i := 94) (j := 96) (by decide), mi_n (i := 94) (j := 95) (by decide), mi_w, mi_n (i := 95) (j := 96) (by decide), mi_w, mi_n (i := 95) (j := 94) (by decide), mi_w, mi_n (i := 96) (j := 95) (by decide), mi_n (i := 96) (j := 94) (by decide)]
    by_cases y : q = t
    · subst y; rw [u1_s, u1_s, u1_s]; exact ⟨rfl, rfl, rfl⟩
    · rw [u1_n y, u1_n y, u1_n y]; exact hg q (by omega)
theorem imm89 (hF0 : Fm M0) (H : ∀ M2, Fm M2 → FrG [97] [] M0 M2 → (∀ q, q < 36 → mi M2 97 q = mi M0 83 q) → Ex (d + 1) m_MM_image bc bs 115 [some (.ref 78), some (.int (nI 0))] [] M2 Φ) : ∀ (n t : Nat) (M : Mem), t + n = 36 → Fm M → FrG [97] [] M0 M → (∀ q, q < t → mi M 97 q = mi M0 83 q) → Ex (d + 1) m_MM_image bc bs 89 [some (.ref 78), some (.int (nI t))] [] M Φ := by
  have hl := hF0.len
  intro n
  induction n with
  | zero =>
    intro t M ht hF hfr hg
    obtain rfl : t = 36 := by omega
    exact k_MM_image_89 hF ⟨fun _ => H M hF hfr hg, fun q => absurd (nI_le (Nat.le_refl _) (by omega)) q⟩
  | succ n ih =>
    intro t M ht hF hfr hg
    have vt := vN (show t < 36 by omega) (by decide)
    refine k_MM_image_89 hF ?_
    rw [nI_clamp (by omega), nI_add, hfr.row (j := 83) (by omega) (by simp)]
    refine ⟨fun q => absurd q (by rw [nI_leI (by omega) (by omega)]; omega), fun _ => ⟨vt, vt, ih (t + 1) _ (by omega) hF.fwi (hfr.fwi (by simp)) (fun q hq => ?_)⟩⟩
    rw [mi_w]
    by_cases y : q = t
    · subst y; rw [u1_s]
    · rw [u1_n y]; exact hg q (by omega)
theorem imm115 (hF0 : Fm M0) (H : ∀ M2, Fm M2 → FrG [98, 99] [] M0 M2 → (∀ q, q < 10 → mi M2 98 q = mi M0 84 q ∧ mi M2 99 q = mi M0 85 q) → Φ (some (.int (mi M0 78 0))) M2) : ∀ (n t : Nat) (M : Mem), t + n = 10 → Fm M → FrG [98, 99] [] M0 M → (∀ q, q < t → mi M 98 q = mi M0 84 q ∧ mi M 99 q = mi M0 85 q) → Ex (d + 1) m_MM_image bc bs 115 [some (.ref 78), some (.int (nI t))] [] M Φ := by
  have hl := hF0.len
  intro n
  induction n with
  | zero =>
    intro t M ht hF hfr hg
    obtain rfl : t = 10 := by omega
    refine k_MM_image_115 hF ?_
    rw [hfr.row (j := 78) (by omega) (by simp)]
    exact ⟨fun _ => H M hF hfr hg, fun q => absurd (nI_le (Nat.le_refl _) (by omega)) q⟩
  | succ n ih =>
    intro t M ht hF hfr hg
    have vt := vN (show t < 10 by omega) (by decide)
    refine k_MM_image_115 hF ?_
    rw [nI_clamp (by omega), nI_add, hfr.row (j := 84) (by omega) (by simp), hfr.row (j := 85) (by omega) (by simp)]
    refine ⟨fun q => absurd q (by rw [nI_leI (by omega) (by omega)]; omega), fun _ => ⟨vt, vt, vt, vt, ih (t + 1) _ (by omega) hF.fwi.fwi ((hfr.fwi (by simp)).fwi (by simp)) (fun q hq => ?_)⟩⟩
    rw [mi_n (i := 98) (j := 99) (by decide), mi_w, mi_w, mi_n (i := 99) (j := 98) (by decide)]
    by_cases y : q = t
    · subst y; rw [u1_s, u1_s]; exact ⟨rfl, rfl⟩
    · rw [u1_n y, u1_n y]; exact hg q (by omega)
end IMM
theorem MA.imgS {σ : St} {g : Option Img} {M M2 : Mem} (hm : MA σ M) (f : FrG [78, 94, 95, 96, 97, 98, 99] [] M M2) (c : ∀ k, ¬ (25 ≤ k ∧ k < 30) → mi M2 78 k = mi M 78 k) (hk : MKept (sIm σ g) M2) : SM (sIm σ g) M M2 := by
  obtain ⟨hF, h0, h1, h2, h3, h4, h5, h6, h7, h8⟩ := hm
  have hlen := hF.len
  have n : ∀ j, 79 ≤ j → j < 113 → ¬ (94 ≤ j ∧ j < 100) → mi M2 j = mi M j := fun j a b c => f.row (by omega) (by simp; omega)
  exact ⟨⟨f.fm hF (by simp), by rw [f.lrow (j := 104) (by omega)]; exact h0, h1.cg (fun k hk => c k (by omega)) (fun j a b => n j (by omega) (by omega) (by omega)), hk, h3.cg (c 11 (by decide)) (n 86 (by omega) (by omega) (by omega)), h4.cg (c 14 (by decide)) (n 87 (by omega) (by omega) (by omega)) (n 88 (by omega) (by omega) (by omega)), h5.cg (c 16 (by decide)) (n 89 (by omega) (by omega) (by omega)) (n 90 (by omega) (by omega) (by omega)) (n 91 (by omega) (by omega) (by omega)), h6.cg (c 20 (by decide)) (c 21 (by decide)) (n 92 (by omega) (by omega) (by omega)), h7.cg (c 23 (by decide)) (n 93 (by omega) (by omega) (by omega)), h8.cg (n 100 (by omega) (by omega) (by omega)) (n 101 (by omega) (by omega) (by omega)) (n 102 (by omega) (by omega) (by omega))⟩, fun _ h6 hx => MA.keepX f rfl h6 hx⟩
theorem sM_image {d : Nat} {σ : St} {M : Mem} {K : Int32 → Mem → Prop} (hw : WF σ) (hm : MA σ M) (h : ∀ M2, SM (tImage σ) M M2 → K (nI (oT σ)) M2) : Con (d + 1) m_MM_image 0 0 [.ref 78] M (PI K) := by
  obtain ⟨hF, -, ⟨g1, g2, g3, g4, g5, g6, g7⟩, -⟩ := id hm
  have h6 := hw.T6
  have hlen := hF.len
  refine Con.ent (k := 1) F_MM_image.1 rfl (Nat.le_of_ble_eq_true rfl) (k_MM_image_0 hF ?_)
  rw [g1, g2, g3, g4]
  have fa : FrG [78, 94, 95, 96, 97, 98, 99] [] M (wi (wi (wi (wi (wi M 78 25 (nI 1)) 78 26 (nI (oT σ))) 78 27 (nI (oW σ))) 78 28 (nI (oFe σ).length)) 78 29 (nI (oRu σ))) := (((((FrG.rf _ _).fwi (by simp)).fwi (by simp)).fwi (by simp)).fwi (by simp)).fwi (by simp)
  have na : ∀ j, j ≠ 78 → mi (wi (wi (wi (wi (wi M 78 25 (nI 1)) 78 26 (nI (oT σ))) 78 27 (nI (oW σ))) 78 28 (nI (oFe σ).length)) 78 29 (nI (oRu σ))) j = mi M j := fun j hj => by rw [mi_n hj, mi_n hj, mi_n hj, mi_n hj, mi_n hj]
  refine imm39 hF.fwi.fwi.fwi.fwi.fwi (fun M2 hF2 f2 a2 => ?_) 6 0 _ rfl hF.fwi.fwi.fwi.fwi.fwi (FrG.rf _ _) (fun q hq => absurd hq (Nat.not_lt_zero _))
  have l2 := hF2.len
  refine imm89 hF2 (fun M3 hF3 f3 a3 => ?_) 36 0 M2 rfl hF2 (FrG.rf _ _) (fun q hq => absurd hq (Nat.not_lt_zero _))
  have l3 := hF3.len
  refine imm115 hF3 (fun M4 hF4 f4 a4 => ?_) 10 0 M3 rfl hF3 (FrG.rf _ _) (fun q hq => absurd hq (Nat.not_lt_zero _))
  have r4 : ∀ j, j < 113 → j ≠ 98 → j ≠ 99 → mi M4 j = mi M3 j := fun j a b c => f4.row (by omega) (by simp; omega)
  have r3 : ∀ j, j < 113 → j ≠ 97 → mi M3 j = mi M2 j := fun j a b => f3.row (by omega) (by simp; omega)
  have r2 : ∀ j, j < 113 → ¬ (94 ≤ j ∧ j < 97) → mi M2 j = mi (wi (wi (wi (wi (wi M 78 25 (nI 1)) 78 26 (nI (oT σ))) 78 27 (nI (oW σ))) 78 28 (nI (oFe σ).length)) 78 29 (nI (oRu σ))) j := fun j a b => f2.row (show j < (sh M).length by omega) (by simp; omega)
  have e78 : mi M4 78 = mi (wi (wi (wi (wi (wi M 78 25 (nI 1)) 78 26 (nI (oT σ))) 78 27 (nI (oW σ))) 78 28 (nI (oFe σ).length)) 78 29 (nI (oRu σ))) 78 := by rw [r4 78 (by decide) (by decide) (by decide), r3 78 (by decide) (by decide), r2 78 (by decide) (by decide)]
  refine PI.mk ?_ (h M4 ?_)
  · rw [r3 78 (by decide) (by decide), r2 78 (by decide) (by decide), wi_f (by decide), wi_f (by decide), wi_f (by decide), wi_f (by decide), wi_f (by decide)]; exact g1
  refine hm.imgS (((fa.tr (f2.wk (by simp) (by simp))).tr (f3.wk (by simp) (by simp))).tr (f4.wk (by simp) (by simp))) (fun k hk => ?_) ?_
  · rw [e78, wi_f (by omega), wi_f (by omega), wi_f (by omega), wi_f (by omega), wi_f (by omega)]
  show mi M4 78 25 = 1 ∧ mi M4 78 26 = nI (oT σ) ∧ mi M4 78 27 = nI (oW σ) ∧ mi M4 78 28 = nI (oFe σ).length ∧ mi M4 78 29 = nI (oRu σ) ∧ (∀ t, t < oT σ → mi M4 94 t = nI (oMy σ t) ∧ mi M4 95 t = oWi σ t ∧ mi M4 96 t = oBe σ t) ∧ (∀ a b, a < 6 → b < 6 → mi M4 97 (6 * a + b) = nI (oRd σ a b)) ∧ (∀ i w d, (oFe σ)[i]? = some (w, d) → mi M4 98 i = nI w ∧ mi M4 99 i = nI d)
  rw [e78]
  refine ⟨by rw [wi_f (by decide), wi_f (by decide), wi_f (by decide), wi_f (by decide), wi_e]; rfl, by rw [wi_f (by decide), wi_f (by decide), wi_f (by decide), wi_e], by rw [wi_f (by decide), wi_f (by decide), wi_e], by rw [wi_f (by decide), wi_e], wi_e, fun t ht => ?_, fun a b ha hb => ?_, fun i w d hi => ?_⟩
  · rw [r4 94 (by decide) (by decide) (by decide), r4 95 (by decide) (by decide) (by decide), r4 96 (by decide) (by decide) (by decide), r3 94 (by decide) (by decide), r3 95 (by decide) (by decide), r3 96 (by decide) (by decide)]
    obtain ⟨z1, z2, z3⟩ := a2 t (by omega)
    rw [z1, z2, z3, na 80 (by decide), na 81 (by decide), na 82 (by decide)]
    exact (g5 t ht).2
  · rw [r4 97 (by decide) (by decide) (by decide), a3 (6 * a + b) (by omega), r2 83 (by decide) (by decide), na 83 (by decide)]
    exact g6 a b ha hb
  · have l1 := (List.getElem?_eq_some_iff.mp hi).1
    have := hw.x.2.2.1
    obtain ⟨z1, z2⟩ := a4 i (by omega)
    rw [z1, z2, r3 84 (by decide) (by decide), r3 85 (by decide) (by decide), r2 84 (by decide) (by decide), r2 85 (by decide) (by decide), na 84 (by decide), na 85 (by decide)]
    exact g7 i w d hi
section BKM
variable {d bc bs : Nat} {M0 : Mem} {Φ : Option Value → Mem → Prop}
theorem bkm36 {T0 : Nat} (hF0 : Fm M0) (hT : mi M0 78 26 = nI T0) (h6 : T0 ≤ 6) (H : ∀ M2, Fm M2 → FrG [80, 81, 82] [] M0 M2 → (∀ q, mi M2 80 q = if q < T0 then mi M0 94 q else mi M0 80 q) → (∀ q, mi M2 81 q = if q < T0 then mi M0 95 q else mi M0 81 q) → (∀ q, mi M2 82 q = if q < T0 then mi M0 96 q else mi M0 82 q) → Ex (d + 1) m_MM_back bc bs 88 [some (.ref 78), some (.int (nI 0)), none] [] M2 Φ) : ∀ (n t : Nat) (M : Mem), t + n = T0 → Fm M → FrG [80, 81, 82] [] M0 M → (∀ q, mi M 80 q = if q < t then mi M0 94 q else mi M0 80 q) → (∀ q, mi M 81 q = if q < t then mi M0 95 q else mi M0 81 q) → (∀ q, mi M 82 q = if q < t then mi M0 96 q else mi M0 82 q) → Ex (d + 1) m_MM_back bc bs 36 [some (.ref 78), some (.int (nI t)), none] [] M Φ := by
  have hl := hF0.len
  intro n
  induction n with
  | zero =>
    intro t M ht hF hfr a b c
    obtain rfl : t = T0 := by omega
    refine k_MM_back_36 hF ?_
    rw [hfr.row (j := 78) (by omega) (by simp), hT]
    exact ⟨fun _ => H M hF hfr a b c, fun q => absurd (nI_le (Nat.le_refl _) (by omega)) q⟩
  | succ n ih =>
    intro t M ht hF hfr a b c
    have vt := vN (show t < 6 by omega) (by decide)
    refine k_MM_back_36 hF ?_
    rw [hfr.row (j := 78) (by omega) (by simp), hT, nI_clamp (by omega), nI_add, hfr.row (j := 94) (by omega) (by simp), hfr.row (j := 95) (by omega) (by simp), hfr.row (j := 96) (by omega) (by simp)]
    refine ⟨fun q => absurd q (by rw [nI_leI (by omega) (by omega)]; omega), fun _ => ⟨vt, vt, vt, vt, vt, vt, ih (t + 1) _ (by omega) hF.fwi.fwi.fwi (((hfr.fwi (by simp)).fwi (by simp)).fwi (by simp)) (fun q => ?_) (fun q => ?_) (fun q => ?_)⟩⟩
    · rw [mi_n (i := 80) (j := 82) (by decide), mi_n (i := 80) (j := 81) (by decide), mi_w]
      by_cases y : q = t
      · subst y; rw [u1_s, if_pos (by omega)]
      · rw [u1_n y, a q]
        by_cases z : q < t
        · rw [if_pos z, if_pos (by omega)]
        · rw [if_neg z, if_neg (by omega)]
    · rw [mi_n (i := 81) (j := 82) (by decide), mi_w]
      by_cases y : q = t
      · subst y; rw [u1_s, if_pos (by omega)]
      · rw [u1_n y, mi_n (i := 81) (j := 80) (by decide), b q]
        by_cases z : q < t
        · rw [if_pos z, if_pos (by omega)]
        · rw [if_neg z, if_neg (by omega)]
    · rw [mi_w]
      by_cases y : q = t
      · subst y; rw [u1_s, if_pos (by omega)]
      · rw [u1_n y, mi_n (i := 82) (j := 81) (by decide), mi_n (i := 82) (j := 80) (by decide), c q]
        by_cases z : q < t
        · rw [if_pos z, if_pos (by omega)]
        · rw [if_neg z, if_neg (by omega)]
theorem n00a : ¬ nI 0 + nI 0 = nI 2 := by decide
theorem n00b : ¬ nI 0 + nI 0 = nI 1 := by decide
theorem n01a : ¬ nI 0 + nI 1 = nI 2 := by decide
theorem n01b : nI 0 + nI 1 = nI 1 := by decide
theorem n10a : ¬ nI 1 + nI 0 = nI 2 := by decide
theorem n10b : nI 1 + nI 0 = nI 1 := by decide
theorem n11a : nI 1 + nI 1 = nI 2 := by decide
theorem bkm88 {T0 : Nat} {r0 r1 : Nat → Nat → Nat} (hF0 : Fm M0) (hT : mi M0 78 26 = nI T0) (h6 : T0 ≤ 6) (hr0 : ∀ a b, a < 6 → b < 6 → mi M0 97 (6 * a + b) = nI (r0 a b)) (hz : ∀ a b, T0 ≤ a ∨ T0 ≤ b → r0 a b = 0) (H : ∀ M2, Fm M2 → FrG [83] [] M0 M2 → (∀ a b, a < 6 → b < 6 → mi M2 83 (6 * a + b) = nI (mrg T0 r0 r1 a b)) → Ex (d + 1) m_MM_back bc bs 171 [some (.ref 78), some (.int (nI 0)), none] [] M2 Φ) : ∀ (n k : Nat) (M : Mem), k + n = 36 → Fm M → FrG [83] [] M0 M → (∀ a b, a < 6 → b < 6 → mi M 83 (6 * a + b) = nI (if 6 * a + b < k then mrg T0 r0 r1 a b else r1 a b)) → Ex (d + 1) m_MM_back bc bs 88 [some (.ref 78), some (.int (nI k)), none] [] M Φ := by
  have hl := hF0.len
  intro n
  induction n with
  | zero =>
    intro k M hk hF hfr hg
    obtain rfl : k = 36 := by omega
    exact k_MM_back_88 hF ⟨fun _ => H M hF hfr (fun a b ha hb => by rw [hg a b ha hb, if_pos (by omega)]), fun q => absurd (nI_le (Nat.le_refl _) (by omega)) q⟩
  | succ n ih =>
    intro k M hk hF hfr hg
    have vk := vN (show k < 36 by omega) (by decide)
    have k6 : k / 6 < 6 := by omega
    have km : k % 6 < 6 := by omega
    have ek : 6 * (k / 6) + k % 6 = k := by omega
    have go : ∀ v, v = nI (mrg T0 r0 r1 (k / 6) (k % 6)) → Ex (d + 1) m_MM_back bc bs 88 [some (.ref 78), some (.int (nI (k + 1))), none] [] (wi M 83 k v) Φ := by
      intro v hv
      refine ih (k + 1) _ (by omega) hF.fwi (hfr.fwi (by simp)) (fun a b ha hb => ?_)
      rw [mi_w]
      by_cases y : 6 * a + b = k
      · obtain ⟨e1, e2⟩ : a = k / 6 ∧ b = k % 6 := ⟨by omega, by omega⟩
        rw [y, u1_s, if_pos (by omega), hv, e1, e2]
      · rw [u1_n y, hg a b ha hb]
        by_cases z : 6 * a + b < k
        · rw [if_pos z, if_pos (by omega)]
        · rw [if_neg z, if_neg (by omega)]
    refine k_MM_back_88 hF ?_
    rw [hfr.row (j := 78) (by omega) (by simp), hT, div_N (by omega) (by omega) (by omega), rem_N (by omega) (by omega) (by omega), nI_clamp (by omega), nI_add k 1]
    refine ⟨fun q => absurd q (by rw [nI_leI (by omega) (by omega)]; omega), fun _ => ⟨fun q => ⟨fun q2 => ⟨fun _ => ⟨fun _ => ⟨vk, vk, go _ ?_⟩, fun w => absurd w n00b⟩, fun w => absurd w n00a⟩, fun q2 => ⟨fun _ => ⟨fun w => absurd n01b w, fun _ => ⟨vk, go _ ?_⟩⟩, fun w => absurd w n01a⟩⟩, fun q => ⟨fun q2 => ⟨fun _ => ⟨fun w => absurd n10b w, fun _ => ⟨vk, go _ ?_⟩⟩, fun w => absurd w n10a⟩, fun q2 => ⟨fun w => absurd n11a w, fun _ => ⟨vk, vk, go _ ?_⟩⟩⟩⟩⟩ <;> rw [nI_leI (by omega) (by omega)] at q q2
    · have := hg (k / 6) (k % 6) k6 km
      rw [ek, if_neg (by omega)] at this
      rw [this]
      unfold mrg
      rw [if_neg (by omega)]
    · unfold mrg
      rw [if_pos (by omega), hz _ _ (.inl q)]
    · unfold mrg
      rw [if_pos (by omega), hz _ _ (.inr q2)]
    · have := hr0 (k / 6) (k % 6) k6 km
      rw [ek] at this
      rw [hfr.row (j := 97) (by omega) (by simp), this]
      unfold mrg
      rw [if_pos (by omega)]
theorem bkm171 (hF0 : Fm M0) (H : ∀ M2, Fm M2 → FrG [84, 85] [] M0 M2 → (∀ q, q < 10 → mi M2 84 q = mi M0 98 q ∧ mi M2 85 q = mi M0 99 q) → Φ (some (.int (mi M0 78 0))) M2) : ∀ (n t : Nat) (M : Mem), t + n = 10 → Fm M → FrG [84, 85] [] M0 M → (∀ q, q < t → mi M 84 q = mi M0 98 q ∧ mi M 85 q = mi M0 99 q) → Ex (d + 1) m_MM_back bc bs 171 [some (.ref 78), some (.int (nI t)), none] [] M Φ := by
  have hl := hF0.len
  intro n
  induction n with
  | zero =>
    intro t M ht hF hfr hg
    obtain rfl : t = 10 := by omega
    refine k_MM_back_171 hF ?_
    rw [hfr.row (j := 78) (by omega) (by simp)]
    exact ⟨fun _ => H M hF hfr hg, fun q => absurd (nI_le (Nat.le_refl _) (by omega)) q⟩
  | succ n ih =>
    intro t M ht hF hfr hg
    have vt := vN (show t < 10 by omega) (by decide)
    refine k_MM_back_171 hF ?_
    rw [nI_clamp (by omega), nI_add, hfr.row (j := 98) (by omega) (by simp), hfr.row (j := 99) (by omega) (by simp)]
    refine ⟨fun q => absurd q (by rw [nI_leI (by omega) (by omega)]; omega), fun _ => ⟨vt, vt, vt, vt, ih (t + 1) _ (by omega) hF.fwi.fwi ((hfr.fwi (by simp)).fwi (by simp)) (fun q hq => ?_)⟩⟩
    rw [mi_n (i := 84) (j := 85) (by decide), mi_w, mi_w, mi_n (i := 85) (j := 84) (by decide)]
    by_cases y : q = t
    · subst y; rw [u1_s, u1_s]; exact ⟨rfl, rfl⟩
    · rw [u1_n y, u1_n y]; exact hg q (by omega)
end BKM
theorem sM_back {d : Nat} {σ : St} {M : Mem} {K : Int32 → Mem → Prop} (hw : WF σ) (hm : MA σ M) (h : ∀ M2, SM (tBack σ) M M2 → K (pBack σ) M2) : Con (d + 1) m_MM_back 0 0 [.ref 78] M (PI K) := by
  obtain ⟨hF, -, ⟨g1, g2, g3, g4, g5, g6, g7⟩, hK, -⟩ := id hm
  have h6 := hw.T6
  have hlen := hF.len
  unfold tBack pBack at h
  unfold MKept at hK
  refine Con.ent (k := 2) F_MM_back.1 rfl (Nat.le_of_ble_eq_true rfl) (k_MM_back_0 hF ?_)
  cases hI : oIm σ with
  | none =>
    rw [hI] at h hK
    rw [hK]
    exact ⟨fun q => absurd rfl q, fun _ => PI.mk rfl (h M (SM.rf hm))⟩
  | some g =>
    rw [hI] at h hK
    obtain ⟨i1, i2, i3, y1, y2, y3, y4⟩ := hw.im hI
    obtain ⟨k1, k2, k3, k4, k5, k6, k7, k8⟩ := hK
    rw [k1, k3, k4, k5]
    refine ⟨fun _ => ?_, fun q => absurd q (by decide)⟩
    have fa : FrG [78, 80, 81, 82, 83, 84, 85] [] M (wi (wi (wi M 78 6 (nI (iW g))) 78 7 (nI (iFe g).length)) 78 15 (nI (iRu g))) := (((FrG.rf _ _).fwi (by simp)).fwi (by simp)).fwi (by simp)
    have na : ∀ j, j ≠ 78 → mi (wi (wi (wi M 78 6 (nI (iW g))) 78 7 (nI (iFe g).length)) 78 15 (nI (iRu g))) j = mi M j := fun j hj => by rw [mi_n hj, mi_n hj, mi_n hj]
    have n26 : mi (wi (wi (wi M 78 6 (nI (iW g))) 78 7 (nI (iFe g).length)) 78 15 (nI (iRu g))) 78 26 = nI (iT g) := by rw [wi_f (by decide), wi_f (by decide), wi_f (by decide)]; exact k2
    refine bkm36 hF.fwi.fwi.fwi n26 (by omega) (fun M2 hF2 f2 a1 a2 a3 => ?_) (iT g) 0 _ (by omega) hF.fwi.fwi.fwi (FrG.rf _ _) (fun q => by rw [if_neg (by omega)]) (fun q => by rw [if_neg (by omega)]) (fun q => by rw [if_neg (by omega)])
    have l2 := hF2.len
    have r2 : ∀ j, j < 113 → ¬ (80 ≤ j ∧ j < 83) → mi M2 j = mi (wi (wi (wi M 78 6 (nI (iW g))) 78 7 (nI (iFe g).length)) 78 15 (nI (iRu g))) j := fun j a b => f2.row (show j < (sh M).length by omega) (by simp; omega)
    refine bkm88 (r0 := iRd g) (r1 := oRd σ) hF2 (by rw [r2 78 (by decide) (by decide)]; exact n26) (by omega) (fun a b ha hb => by rw [r2 97 (by decide) (by decide), na 97 (by decide)]; exact k7 a b ha hb) (fun a b q => rd_0 y2 q) (fun M3 hF3 f3 b3 => ?_) 36 0 M2 rfl hF2 (FrG.rf _ _) (fun a b ha hb => by rw [r2 83 (by decide) (by decide), na 83 (by decide), if_neg (by omega)]; exact g6 a b ha hb)
    have l3 := hF3.len
    refine bkm171 hF3 (fun M4 hF4 f4 a4 => ?_) 10 0 M3 rfl hF3 (FrG.rf _ _) (fun q hq => absurd hq (Nat.not_lt_zero _))
    have r4 : ∀ j, j < 113 → j ≠ 84 → j ≠ 85 → mi M4 j = mi M3 j := fun j a b c => f4.row (by omega) (by simp; omega)
    have r3 : ∀ j, j < 113 → j ≠ 83 → mi M3 j = mi M2 j := fun j a b => f3.row (by omega) (by simp; omega)
    have e78 : mi M4 78 = mi (wi (wi (wi M 78 6 (nI (iW g))) 78 7 (nI (iFe g).length)) 78 15 (nI (iRu g))) 78 := by rw [r4 78 (by decide) (by decide) (by decide), r3 78 (by decide) (by decide), r2 78 (by decide) (by decide)]
    refine PI.mk ?_ (h M4 ?_)
    · rw [r3 78 (by decide) (by decide), r2 78 (by decide) (by decide), wi_f (by decide), wi_f (by decide), wi_f (by decide)]; exact g1
    refine hm.landS (L := [78, 80, 81, 82, 83, 84, 85]) (((fa.tr (f2.wk (by simp) (by simp))).tr (f3.wk (by simp) (by simp))).tr (f4.wk (by simp) (by simp))) rfl (fun k c0 c6 c7 c15 => by rw [e78, wi_f c15, wi_f c7, wi_f c6]) rfl ?_
    refine ⟨by rw [e78, wi_f (by decide), wi_f (by decide), wi_f (by decide)]; exact g1, by rw [e78, wi_f (by decide), wi_f (by decide), wi_e]; rfl, by rw [e78, wi_f (by decide), wi_e]; rfl, by rw [e78, wi_e]; rfl, fun t ht => ?_, fun a b ha hb => ?_, fun i w d hi => ?_⟩
    · obtain ⟨z1, z2, z3, z4⟩ := g5 t ht
      show mi M4 79 t = nI (oSz σ t) ∧ mi M4 80 t = nI (if t < iT g then iMy g t else oMy σ t) ∧ mi M4 81 t = (if t < iT g then iWi g t else oWi σ t) ∧ mi M4 82 t = (if t < iT g then iBe g t else oBe σ t)
      rw [r4 79 (by decide) (by decide) (by decide), r4 80 (by decide) (by decide) (by decide), r4 81 (by decide) (by decide) (by decide), r4 82 (by decide) (by decide) (by decide), r3 79 (by decide) (by decide), r3 80 (by decide) (by decide), r3 81 (by decide) (by decide), r3 82 (by decide) (by decide), r2 79 (by decide) (by decide), na 79 (by decide), a1 t, a2 t, a3 t, na 94 (by decide), na 95 (by decide), na 96 (by decide), na 80 (by decide), na 81 (by decide), na 82 (by decide)]
      refine ⟨z1, ?_⟩
      by_cases q : t < iT g
      · rw [if_pos q, if_pos q, if_pos q, if_pos q, if_pos q, if_pos q]; exact k6 t q
      · rw [if_neg q, if_neg q, if_neg q, if_neg q, if_neg q, if_neg q]; exact ⟨z2, z3, z4⟩
    · rw [r4 83 (by decide) (by decide) (by decide)]
      exact b3 a b ha hb
    · have l1 := (List.getElem?_eq_some_iff.mp (show (iFe g)[i]? = some (w, d) from hi)).1
      obtain ⟨z1, z2⟩ := a4 i (by omega)
      rw [z1, z2, r3 98 (by decide) (by decide), r3 99 (by decide) (by decide), r2 98 (by decide) (by decide), r2 99 (by decide) (by decide), na 98 (by decide), na 99 (by decide)]
      exact k8 i w d hi
