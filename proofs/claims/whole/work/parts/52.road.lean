/-! road -/
def rd2 (rd : Nat → Nat → Nat) (a b v : Nat) : Nat → Nat → Nat := fun x y => if x = b ∧ y = a then v else if x = a ∧ y = b then v else rd x y
def okR (σ : St) (a b v : Int32) : Bool := tB σ a && (tB σ b && (decide (¬ a = b) && isB 0 50 v))
def pRoad (σ : St) (a b v : Int32) : Int32 := if tB σ a = true then (if tB σ b = true then (if okR σ a b v = true then nI (oRd σ a.toNatClampNeg b.toNatClampNeg) else -2) else -1) else -1
def tRoad (σ : St) (a b v : Int32) : St := if okR σ a b v = true then sRd σ (rd2 (oRd σ) a.toNatClampNeg b.toNatClampNeg v.toNatClampNeg) else σ
theorem rd2_50 {rd : Nat → Nat → Nat} {a b v : Nat} (h : ∀ x y, rd x y ≤ 50) (hv : v ≤ 50) : ∀ x y, rd2 rd a b v x y ≤ 50 := fun x y => by
  unfold rd2
  split
  · exact hv
  · split
    · exact hv
    · exact h x y
theorem okR_k {σ : St} {a b v : Int32} (hw : WF σ) (h : okR σ a b v = true) : ∃ i j k, i < oT σ ∧ j < oT σ ∧ i ≠ j ∧ k ≤ 50 ∧ a = nI i ∧ b = nI j ∧ v = nI k := by
  have h6 := hw.T6
  unfold okR tB at h
  rw [Bool.and_eq_true, Bool.and_eq_true, Bool.and_eq_true, decide_eq_true_eq] at h
  obtain ⟨h1, h2, h3, h4⟩ := h
  obtain ⟨i, hi, rfl⟩ := isB_k h1 (by omega)
  obtain ⟨j, hj, rfl⟩ := isB_k h2 (by omega)
  rw [isB_t] at h4
  obtain ⟨k, hk, rfl⟩ : ∃ k, k < 51 ∧ v = nI k := i_of (by omega) (by omega) (by omega)
  exact ⟨i, j, k, hi, hj, fun e => h3 (by rw [e]), by omega, rfl, rfl, rfl⟩
theorem WF.road {σ : St} (h : WF σ) (a b v : Int32) : WF (tRoad σ a b v) := by
  unfold tRoad
  split
  · rename_i q
    have h6 := h.T6
    obtain ⟨i, j, k, hi, hj, hij, hk, rfl, rfl, rfl⟩ := okR_k h q
    obtain ⟨x0, b, c, ⟨x1, x2, x3, x4⟩, r⟩ := h
    rw [nI_clamp (by omega), nI_clamp (by omega), nI_clamp (by omega)]
    refine ⟨x0, b, c, ⟨x1, fun x y => ?_, x3, x4⟩, r⟩
    show rd2 (oRd σ) i j k x y ≤ 50 ∧ rd2 (oRd σ) i j k x y = rd2 (oRd σ) i j k y x ∧ rd2 (oRd σ) i j k x x = 0 ∧ (oT σ ≤ x → rd2 (oRd σ) i j k x y = 0)
    obtain ⟨y1, y2, y3, y4⟩ := x2 x y
    refine ⟨rd2_50 (fun x y => (x2 x y).1) hk x y, ?_, ?_, fun hx => ?_⟩
    · unfold rd2
      by_cases q1 : x = j ∧ y = i
      · rw [if_pos q1, if_neg (by omega), if_pos (by omega)]
      · rw [if_neg q1]
        by_cases q2 : x = i ∧ y = j
        · rw [if_pos q2, if_pos (by omega)]
        · rw [if_neg q2, if_neg (by omega), if_neg (by omega)]
          exact y2
    · unfold rd2
      rw [if_neg (by omega), if_neg (by omega)]
      exact y3
    · unfold rd2
      rw [if_neg (by omega), if_neg (by omega)]
      exact y4 hx
  · exact h
theorem sX_road {d : Nat} {σ : St} {a b v : Int32} {M : Mem} {K : Int32 → Mem → Prop} (hw : WF σ) (hx : XA σ M) (h : ∀ M2, SX (tRoad σ a b v) M M2 → K (pRoad σ a b v) M2) : Con (d + 3) m_MD_road 0 0 [.ref 0, .int a, .int b, .int v] M (PI K) := by
  obtain ⟨hF, hL, hx2⟩ := id hx
  have h6 := hw.T6
  have hno : okR σ a b v = false → K (pRoad σ a b v) M := fun q => h M (by unfold tRoad; rw [q]; exact SX.rf hx)
  refine Con.of (lo := [some (.ref 0), some (.int a), some (.int b), some (.int v)]) F_MD_road.1 rfl (Nat.le_of_ble_eq_true rfl) (k_MD_road_0 hF ?_)
  refine sx_townC hw hF hL (fun q => ⟨hF, fun _ => PI.mk ?_ (hno ?_), (fun z => nomatch z)⟩) (fun i hi e q => ⟨hF, (fun z => nomatch z), fun _ => ?_⟩)
  · unfold pRoad tB; rw [q]; rfl
  · unfold okR tB; rw [q]; rfl
  refine sx_townC hw hF hL (fun q2 => ⟨hF, (fun z => nomatch z), fun _ => PI.mk ?_ (hno ?_)⟩) (fun j hj e2 q2 => ⟨hF, fun _ => ⟨fun z => PI.mk ?_ (hno ?_), fun z => ⟨fun z2 => PI.mk ?_ (hno ?_), fun z2 => ⟨fun z3 => ?_, fun z3 => PI.mk ?_ (hno ?_)⟩⟩⟩, (fun z => nomatch z)⟩)
  · unfold pRoad tB; rw [q, q2]; rfl
  · unfold okR tB; rw [q2, Bool.false_and, Bool.and_false]
  · unfold pRoad okR tB; rw [q, q2, decide_eq_false (fun y => y z)]; rfl
  · unfold okR; rw [decide_eq_false (fun y => y z), Bool.false_and, Bool.and_false, Bool.and_false]
  · have : isB 0 50 v = false := by rw [isB_f]; rw [i_lt, i_0] at z2; omega
    unfold pRoad okR tB; rw [q, q2, this, Bool.and_false]; rfl
  · have : isB 0 50 v = false := by rw [isB_f]; rw [i_lt, i_0] at z2; omega
    unfold okR; rw [this, Bool.and_false, Bool.and_false, Bool.and_false]
  · rw [i_lt, i_0] at z2; rw [i_le, show (nI 50).toInt = 50 from rfl] at z3
    have hv : isB 0 50 v = true := by rw [isB_t]; omega
    obtain ⟨k, hk, rfl⟩ : ∃ k, k < 51 ∧ v = nI k := i_of (by omega) (by omega) (by omega)
    have hok : okR σ a b (nI k) = true := by unfold okR tB; rw [q, q2, hv, decide_eq_true z]; rfl
    unfold pRoad tRoad tB at h
    rw [q, q2, hok, if_pos rfl, if_pos rfl, if_pos rfl] at h
    subst e e2
    have hij : i ≠ j := fun y => z (by rw [y])
    rw [nI_clamp (by omega), nI_clamp (by omega), nI_clamp (by omega)] at h
    obtain ⟨g1, g2, g3, g4, g5, g6, g7, g8⟩ := id hL
    obtain ⟨p1, p2, p3, p4⟩ := ref7 hF (a := i) (by omega)
    obtain ⟨r1, r2, r3, r4⟩ := ref7 hF (a := j) (by omega)
    have vi := vN (show i < 6 by omega) (by decide)
    have vj := vN (show j < 6 by omega) (by decide)
    refine Con.ent (k := 1) F_Land_lay.1 rfl (Nat.le_of_ble_eq_true rfl) (k_Land_lay_0 hF ?_)
    rw [nI_clamp (by omega), nI_clamp (by omega)]
    refine ⟨vi, 7 + i, p1, 6, p3, vj, vi, 7 + i, p1, 6, p3, vj, vj, 7 + j, r1, 6, r3, vi, ?_⟩
    have f1 : FrG [1, 2, 3, 4, 5, 6, 7, 8, 9, 10, 11, 12, 13, 14, 15, 16, 17, 18, 19, 20, 21] [] M (wi (wi M (7 + i) j (nI k)) (7 + j) i (nI k)) := by
      refine ((FrG.rf _ _).fwi ?_).fwi ?_
      · rcases (show i = 0 ∨ i = 1 ∨ i = 2 ∨ i = 3 ∨ i = 4 ∨ i = 5 by omega) with rfl | rfl | rfl | rfl | rfl | rfl <;> decide
      · rcases (show j = 0 ∨ j = 1 ∨ j = 2 ∨ j = 3 ∨ j = 4 ∨ j = 5 by omega) with rfl | rfl | rfl | rfl | rfl | rfl <;> decide
    have hrd : ∀ x y, x < 6 → y < 6 → mi (wi (wi M (7 + i) j (nI k)) (7 + j) i (nI k)) (7 + x) y = nI (rd2 (oRd σ) i j k x y) := by
      intro x y hx hy
      unfold rd2
      by_cases y1 : x = j
      · subst y1
        rw [mi_w, mi_n (by omega)]
        by_cases y2 : y = i
        · subst y2; rw [u1_s, if_pos ⟨rfl, rfl⟩]
        · rw [u1_n y2, if_neg (by omega), if_neg (by omega)]
          exact g6 x y hx hy
      · rw [mi_n (by omega)]
        by_cases y3 : x = i
        · subst y3
          rw [mi_w]
          by_cases y2 : y = j
          · subst y2; rw [u1_s, if_neg (by omega), if_pos ⟨rfl, rfl⟩]
          · rw [u1_n y2, if_neg (by omega), if_neg (by omega)]
            exact g6 x y hx hy
        · rw [mi_n (by omega), if_neg (by omega), if_neg (by omega)]
          exact g6 x y hx hy
    have n1 : ∀ q, (q < 7 ∨ 13 ≤ q) → mi (wi (wi M (7 + i) j (nI k)) (7 + j) i (nI k)) q = mi M q := fun q hq => by rw [mi_n (by omega), mi_n (by omega)]
    refine sx_measure (rd := rd2 (oRd σ) i j k) hF.fwi.fwi (by rw [n1 1 (by omega)]; exact g1) h6 (rd2_50 (fun x y => hw.rd x y) (by omega)) hrd (fun M2 hF2 f2 g => ⟨hF2, ?_⟩)
    have hl : (sh M).length = (sh (wi (wi M (7 + i) j (nI k)) (7 + j) i (nI k))).length := rfl
    have hlen := hF.len
    have n2 : ∀ q, (q < 14 ∨ 20 ≤ q) → q < 75 → mi M2 q = mi (wi (wi M (7 + i) j (nI k)) (7 + j) i (nI k)) q := fun q hq h75 => f2.row (by rw [← hl]; omega) (R14_no (by omega))
    refine PI.mk (g6 i j (by omega) (by omega)) ⟨hF2, PI.mk (if_pos rfl).symm (h M2 ?_)⟩
    refine hx.landS (f1.tr (f2.wk (fun q hq => ?_) (by simp))) (by decide) rfl ?_
    · revert q; unfold R14; decide
    · refine ⟨by rw [n2 1 (by omega) (by omega), n1 1 (by omega)]; exact g1, by rw [n2 1 (by omega) (by omega), n1 1 (by omega)]; exact g2, by rw [n2 1 (by omega) (by omega), n1 1 (by omega)]; exact g3, by rw [n2 1 (by omega) (by omega), n1 1 (by omega)]; exact g4, ?_, ?_, g, ?_⟩
      · rw [n2 2 (by omega) (by omega), n2 3 (by omega) (by omega), n2 4 (by omega) (by omega), n2 5 (by omega) (by omega), n1 2 (by omega), n1 3 (by omega), n1 4 (by omega), n1 5 (by omega)]
        exact g5
      · intro x y hx hy
        rw [n2 (7 + x) (by omega) (by omega)]
        exact hrd x y hx hy
      · rw [n2 20 (by omega) (by omega), n2 21 (by omega) (by omega), n1 20 (by omega), n1 21 (by omega)]
        exact g8
  · have : isB 0 50 v = false := by rw [isB_f]; rw [i_le, show (nI 50).toInt = 50 from rfl] at z3; omega
    unfold pRoad okR tB; rw [q, q2, this, Bool.and_false]; rfl
  · have : isB 0 50 v = false := by rw [isB_f]; rw [i_le, show (nI 50).toInt = 50 from rfl] at z3; omega
    unfold okR; rw [this, Bool.and_false, Bool.and_false, Bool.and_false]
theorem sM_road {d : Nat} {σ : St} {a b v : Int32} {M : Mem} {K : Int32 → Mem → Prop} (hw : WF σ) (hm : MA σ M) (h : ∀ M2, SM (tRoad σ a b v) M M2 → K (pRoad σ a b v) M2) : Con (d + 3) m_MM_road 0 0 [.ref 78, .int a, .int b, .int v] M (PI K) := by
  obtain ⟨hF, hw0, hL, hx2⟩ := id hm
  have h6 := hw.T6
  have hno : okR σ a b v = false → K (pRoad σ a b v) M := fun q => h M (by unfold tRoad; rw [q]; exact SM.rf hm)
  refine Con.ent (k := 1) F_MM_road.1 rfl (Nat.le_of_ble_eq_true rfl) (k_MM_road_0 hF ?_)
  refine sm_townC hw hF hL (fun q => ⟨hF, fun _ => PI.mk ?_ (hno ?_), (fun z => nomatch z)⟩) (fun i hi e q => ⟨hF, (fun z => nomatch z), fun _ => ?_⟩)
  · unfold pRoad tB; rw [q]; rfl
  · unfold okR tB; rw [q]; rfl
  refine sm_townC hw hF hL (fun q2 => ⟨hF, (fun z => nomatch z), fun _ => PI.mk ?_ (hno ?_)⟩) (fun j hj e2 q2 => ⟨hF, fun _ => ⟨fun z => PI.mk ?_ (hno ?_), fun z => ?_⟩, (fun z => nomatch z)⟩)
  · unfold pRoad tB; rw [q, q2]; rfl
  · unfold okR tB; rw [q2, Bool.false_and, Bool.and_false]
  · unfold pRoad okR tB; rw [q, q2, decide_eq_false (fun y => y z)]; rfl
  · unfold okR; rw [decide_eq_false (fun y => y z), Bool.false_and, Bool.and_false, Bool.and_false]
  refine sm_inD hF (by omega) (fun q3 => ⟨hF, (fun z => nomatch z), fun _ => PI.mk ?_ (hno ?_)⟩) (fun k hk e3 q3 => ⟨hF, fun _ => ?_, (fun z => nomatch z)⟩)
  · rw [show ((50 : Nat) : Int) = 50 from rfl] at q3
    unfold pRoad okR tB; rw [q, q2, q3, Bool.and_false]; rfl
  · rw [show ((50 : Nat) : Int) = 50 from rfl] at q3
    unfold okR; rw [q3, Bool.and_false, Bool.and_false, Bool.and_false]
  · rw [show ((50 : Nat) : Int) = 50 from rfl] at q3
    have hok : okR σ a b v = true := by unfold okR tB; rw [q, q2, q3, decide_eq_true z]; rfl
    unfold pRoad tRoad tB at h
    rw [q, q2, hok, if_pos rfl, if_pos rfl, if_pos rfl] at h
    subst e e2 e3
    have hij : i ≠ j := fun y => z (by rw [y])
    rw [nI_clamp (by omega), nI_clamp (by omega), nI_clamp (by omega)] at h
    obtain ⟨g1, g2, g3, g4, g5, g6, g7⟩ := id hL
    rw [pk_mul, pk_mul, nI_add, nI_add, nI_clamp (by omega), nI_clamp (by omega), g6 i j (by omega) (by omega)]
    refine ⟨vN (by omega) (by omega), vN (by omega) (by omega), vN (by omega) (by omega), PI.mk (if_pos rfl).symm (h _ ?_)⟩
    have n1 : ∀ q, q ≠ 83 → mi (wi (wi M 83 (6 * i + j) (nI k)) 83 (6 * j + i) (nI k)) q = mi M q := fun q hq => by rw [mi_n hq, mi_n hq]
    refine hm.landS (L := [83]) (((FrG.rf _ _).fwi (by decide)).fwi (by decide)) rfl (fun q _ _ _ _ => by rw [n1 78 (by decide)]) rfl ?_
    refine ⟨by rw [n1 78 (by decide)]; exact g1, by rw [n1 78 (by decide)]; exact g2, by rw [n1 78 (by decide)]; exact g3, by rw [n1 78 (by decide)]; exact g4, ?_, ?_, ?_⟩
    · rw [n1 79 (by decide), n1 80 (by decide), n1 81 (by decide), n1 82 (by decide)]; exact g5
    · intro x y hx hy
      show _ = nI (rd2 (oRd σ) i j k x y)
      unfold rd2
      rw [mi_w, mi_w]
      by_cases y1 : x = j ∧ y = i
      · obtain ⟨rfl, rfl⟩ := y1
        rw [u1_s, if_pos ⟨rfl, rfl⟩]
      · rw [u1_n (by omega), if_neg y1]
        by_cases y2 : x = i ∧ y = j
        · obtain ⟨rfl, rfl⟩ := y2
          rw [u1_s, if_pos ⟨rfl, rfl⟩]
        · rw [u1_n (by omega), if_neg y2]
          exact g6 x y hx hy
    · rw [n1 84 (by decide), n1 85 (by decide)]; exact g7
