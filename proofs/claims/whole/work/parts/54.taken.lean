/-! taken -/
def underV (k o : Int32) : Bool := decide (o = k) || (decide (o = nI 0) || ((decide (o = nI 1) && decide (k = nI 5)) || (decide (o = nI 3) && decide (k = nI 4))))
theorem sx_isA {d : Nat} {k o : Int32} {M : Mem} {K : Bool → Mem → Prop} (hF : Fx M) (h : K (underV k o) M) : Con (d + 1) m_Giving_isA 0 0 [.int k, .int o] M (PB K) := by
  unfold underV at h
  have s19 : ¬ o = k → ¬ o = 0 → ¬ (o = nI 1 ∧ k = nI 5) → Ex (d + 1) m_Giving_isA 0 0 19 [some (.int k), some (.int o)] [] M (PB K) := by
    intro a b c
    have e : (decide (o = nI 1) && decide (k = nI 5)) = false := by rw [Bool.and_eq_false_iff, decide_eq_false_iff_not, decide_eq_false_iff_not]; exact Decidable.not_and_iff_or_not.mp c
    rw [decide_eq_false a, decide_eq_false (show ¬ o = nI 0 from b), e] at h
    refine k_Giving_isA_19 hF ⟨fun z => PB.mk ?_ h, fun z => ⟨fun y => PB.mk ?_ h, fun y => PB.mk ?_ h⟩⟩
    · rw [decide_eq_false z]; rfl
    · rw [decide_eq_false y, Bool.and_false]; rfl
    · rw [decide_eq_true z, decide_eq_true y]; rfl
  refine Con.of (lo := [some (.int k), some (.int o)]) F_Giving_isA.1 rfl (Nat.le_of_ble_eq_true rfl) (k_Giving_isA_0 hF ⟨fun z => PB.mk ?_ h, fun z => ⟨fun y => PB.mk ?_ h, fun y => ⟨fun x => s19 z y (fun q => x q.1), fun x => ⟨fun w => PB.mk ?_ h, fun w => s19 z y (fun q => w q.2)⟩⟩⟩⟩)
  · rw [decide_eq_true z]; rfl
  · rw [decide_eq_true (show o = nI 0 from y), Bool.true_or, Bool.or_true]
  · rw [decide_eq_true x, decide_eq_true w, Bool.and_true, Bool.true_or, Bool.or_true, Bool.or_true]
theorem sm_isUnder {d : Nat} {k o : Int32} {M : Mem} {K : Bool → Mem → Prop} (hF : Fm M) (h : K (underV k o) M) : Con (d + 1) m_MM_isUnder 0 0 [.int k, .int o] M (PB K) := by
  unfold underV at h
  have s19 : ¬ o = k → ¬ o = 0 → ¬ (o = nI 1 ∧ k = nI 5) → Ex (d + 1) m_MM_isUnder 0 0 19 [some (.int k), some (.int o)] [] M (PB K) := by
    intro a b c
    have e : (decide (o = nI 1) && decide (k = nI 5)) = false := by rw [Bool.and_eq_false_iff, decide_eq_false_iff_not, decide_eq_false_iff_not]; exact Decidable.not_and_iff_or_not.mp c
    rw [decide_eq_false a, decide_eq_false (show ¬ o = nI 0 from b), e] at h
    refine k_MM_isUnder_19 hF ⟨fun z => PB.mk ?_ h, fun z => ⟨fun y => PB.mk ?_ h, fun y => PB.mk ?_ h⟩⟩
    · rw [decide_eq_false z]; rfl
    · rw [decide_eq_false y, Bool.and_false]; rfl
    · rw [decide_eq_true z, decide_eq_true y]; rfl
  refine Con.of (lo := [some (.int k), some (.int o)]) F_MM_isUnder.1 rfl (Nat.le_of_ble_eq_true rfl) (k_MM_isUnder_0 hF ⟨fun y => PB.mk ?_ h, fun y => ⟨fun z => PB.mk ?_ h, fun z => ⟨fun x => s19 (fun q => z q.symm) y (fun q => x q.1), fun x => ⟨fun w => PB.mk ?_ h, fun w => s19 (fun q => z q.symm) y (fun q => w q.2)⟩⟩⟩⟩)
  · rw [decide_eq_true (show o = nI 0 from y), Bool.true_or, Bool.or_true]
  · rw [decide_eq_true z.symm]; rfl
  · rw [decide_eq_true x, decide_eq_true w, Bool.and_true, Bool.true_or, Bool.or_true, Bool.or_true]
def pTaken (σ : St) (i k : Int32) : Int32 := if isB 0 6 k = true then (if isB 0 17 i = true then (if nI 6 ≤ i then (match givAt σ (i - nI 6) with
    | none => -11
    | some gv => if k = nI 6 then -13 else if underV (nI gv.1) k = true then i - nI 6 else -13) else (if tB σ i = true then (if k = nI 6 then nI (oSz σ i.toNatClampNeg) else -13) else -11)) else -12) else -2
theorem sX_taken {d : Nat} {σ : St} {i k : Int32} {M : Mem} {K : Int32 → Mem → Prop} (hw : WF σ) (hx : XA σ M) (h : ∀ M2, SX σ M M2 → K (pTaken σ i k) M2) : Con (d + 3) m_MD_taken 0 0 [.ref 0, .int i, .int k] M (PI K) := by
  obtain ⟨hF, hL, -, -, hT, hG, -⟩ := id hx
  have h6 := hw.T6
  have hk := h M (SX.rf hx)
  unfold pTaken at hk
  have e6 : (nI 6).toInt = 6 := rfl
  have e18 : (nI 18).toInt = 18 := rfl
  refine Con.of (lo := [some (.ref 0), some (.int i), some (.int k)]) F_MD_taken.1 rfl (Nat.le_of_ble_eq_true rfl) (k_MD_taken_0 hF ⟨fun z => PI.mk ?_ hk, fun z => ⟨fun z2 => ⟨fun z3 => PI.mk ?_ hk, fun z3 => ⟨fun z4 => ?_, fun z4 => PI.mk ?_ hk⟩⟩, fun z2 => PI.mk ?_ hk⟩⟩)
  · rw [if_neg (by rw [isB_t]; rw [i_lt, i_0] at z; omega)]
  · rw [i_lt, i_0] at z z3; rw [i_le, e6] at z2
    rw [if_pos (by rw [isB_t]; omega), if_neg (by rw [isB_t]; omega)]
  · rw [i_lt, i_0] at z z3; rw [i_le, e6] at z2; rw [i_lt, e18] at z4
    rw [if_pos (by rw [isB_t]; omega), if_pos (by rw [isB_t]; omega)] at hk
    refine ⟨fun z5 => ?_, fun z5 => ?_⟩
    · rw [if_pos z5] at hk
      refine Con.ent (k := 1) F_MD_takenGiving.1 rfl (Nat.le_of_ble_eq_true rfl) (k_MD_takenGiving_0 hF ?_)
      refine sx_givC hw hF hG (fun q => ⟨hF, fun _ => PI.mk rfl ⟨hF, PI.mk (by rw [q]) hk⟩, (fun _ z => nomatch z)⟩) (fun j gv p e hg q hgx => ⟨hF, (fun z => nomatch z), fun a2 ea => ?_⟩)
      cases ea
      rw [q] at hk
      replace hk : K (if k = nI 6 then -13 else if underV (nI gv.1) k = true then i - nI 6 else -13) M := hk
      refine ⟨fun y => PI.mk rfl ⟨hF, PI.mk (by rw [if_pos y]) hk⟩, fun y => ⟨hgx.2.1, ?_⟩⟩
      rw [if_neg y] at hk
      rw [hgx.2.2.1]
      refine sx_isA hF ⟨hF, fun x => PI.mk rfl ⟨hF, PI.mk (by rw [x]; rfl) hk⟩, fun x => PI.mk rfl ⟨hF, PI.mk (by rw [x]; rfl) hk⟩⟩
    · rw [if_neg z5] at hk
      unfold tB at hk
      refine Con.of (lo := [some (.ref 0), some (.int i), some (.int k)]) F_MD_takenTown.1 rfl (Nat.le_of_ble_eq_true rfl) (k_MD_takenTown_0 hF ?_)
      refine sx_townC hw hF hL (fun q => ⟨hF, (fun z => nomatch z), fun _ => PI.mk rfl ⟨hF, PI.mk (by rw [q]; rfl) hk⟩⟩) (fun j hj ej q => ⟨hF, fun _ => ?_, (fun z => nomatch z)⟩)
      subst ej
      rw [if_pos q, nI_clamp (by omega)] at hk
      rw [nI_clamp (by omega), (hL.2.2.2.2.1 j hj).1]
      exact ⟨fun y => PI.mk rfl ⟨hF, PI.mk (by rw [if_neg y]) hk⟩, fun y => ⟨vN (by omega) (by decide), PI.mk rfl ⟨hF, PI.mk (by rw [if_pos y]) hk⟩⟩⟩
  · rw [i_lt, i_0] at z z3; rw [i_le, e6] at z2; rw [i_lt, e18] at z4
    rw [if_pos (by rw [isB_t]; omega), if_neg (by rw [isB_t]; omega)]
  · rw [i_le, e6] at z2
    rw [if_neg (by rw [isB_t]; omega)]
theorem sM_taken {d : Nat} {σ : St} {i k : Int32} {M : Mem} {K : Int32 → Mem → Prop} (hw : WF σ) (hm : MA σ M) (h : ∀ M2, SM σ M M2 → K (pTaken σ i k) M2) : Con (d + 2) m_MM_taken 0 0 [.ref 78, .int i, .int k] M (PI K) := by
  obtain ⟨hF, -, hL, -, -, hT, hG, -⟩ := id hm
  have h6 := hw.T6
  have h12 := hw.2.2.2.2.2.2.1.1
  have hk := h M (SM.rf hm)
  unfold pTaken at hk
  refine Con.of (lo := [some (.ref 78), some (.int i), some (.int k)]) F_MM_taken.1 rfl (Nat.le_of_ble_eq_true rfl) (k_MM_taken_0 hF ?_)
  refine sm_inD hF (by omega) (fun q => ⟨hF, (fun z => nomatch z), fun _ => PI.mk ?_ hk⟩) (fun k2 hk2 ek q => ⟨hF, fun _ => ?_, (fun z => nomatch z)⟩)
  · rw [show ((6 : Nat) : Int) = 6 from rfl] at q
    rw [q]; rfl
  rw [show ((6 : Nat) : Int) = 6 from rfl] at q
  rw [if_pos q] at hk
  refine sm_inD hF (by omega) (fun q2 => ⟨hF, (fun z => nomatch z), fun _ => PI.mk ?_ hk⟩) (fun i2 hi2 ei q2 => ⟨hF, fun _ => ?_, (fun z => nomatch z)⟩)
  · rw [show ((17 : Nat) : Int) = 17 from rfl] at q2
    rw [q2]; rfl
  rw [show ((17 : Nat) : Int) = 17 from rfl] at q2
  rw [if_pos q2] at hk
  subst ek ei
  rw [hG.1, hL.1]
  refine ⟨fun z => ?_, fun z => ?_⟩
  · rw [if_pos z] at hk
    rw [nI_leI (by omega) (by omega)] at z
    rw [pk_sub z] at hk ⊢
    refine ⟨fun y => ?_, fun y => PI.mk ?_ hk⟩
    · rw [nI_ltI (by omega) (by omega)] at y
      have hg : (oGv σ)[i2 - 6]? = some ((oGv σ)[i2 - 6]'y) := List.getElem?_eq_getElem y
      rw [givAt_some hw hg] at hk
      replace hk : K (if nI k2 = nI 6 then -13 else if underV (nI ((oGv σ)[i2 - 6]'y).1) (nI k2) = true then nI (i2 - 6) else -13) M := hk
      refine ⟨fun x => PI.mk ?_ hk, fun x => ⟨vN (by omega) (by decide), ?_⟩⟩
      · rw [nI_leI (by omega) (by omega)] at x
        rw [if_pos (by rw [nI_eq (by omega) (by omega)]; omega)]
      · rw [nI_leI (by omega) (by omega)] at x
        rw [if_neg (by rw [nI_eq (by omega) (by omega)]; omega)] at hk
        rw [nI_clamp (by omega), (MGiv.at hG hg).1]
        exact sm_isUnder hF ⟨hF, fun w => PI.mk (by rw [w]; rfl) hk, fun w => PI.mk (by rw [w]; rfl) hk⟩
    · rw [nI_ltI (by omega) (by omega)] at y
      have e : givAt σ (nI (i2 - 6)) = none := by
        unfold givAt
        rw [if_neg (by rw [isB_i (by omega), decide_eq_true_eq]; omega)]
      rw [e]
  · rw [if_neg z] at hk
    rw [nI_leI (by omega) (by omega)] at z
    unfold tB at hk
    refine ⟨fun y => ?_, fun y => PI.mk ?_ hk⟩
    · rw [nI_ltI (by omega) (by omega)] at y
      rw [if_pos (by rw [isB_i (by omega), decide_eq_true_eq]; omega), nI_clamp (by omega)] at hk
      rw [nI_clamp (by omega), (hL.2.2.2.2.1 i2 y).1]
      exact ⟨fun x => PI.mk (by rw [if_neg x]) hk, fun x => ⟨vN (by omega) (by decide), PI.mk (by rw [if_pos x]) hk⟩⟩
    · rw [nI_ltI (by omega) (by omega)] at y
      rw [if_neg (by rw [isB_i (by omega), decide_eq_true_eq]; omega)]
