/-! taken -/
def underV (k o : Int32) : Bool := decide (o = k) || (decide (o = nI 0) || ((decide (o = nI 1) && decide (k = nI 5)) || (decide (o = nI 3) && decide (k = nI 4))))
theorem sx_isA {d : Nat} {k o : Int32} {M : Mem} {K : Bool → Mem → Prop} (hF : Fx M) (h : K (underV k o) M) : Con (d + 1) m_Giving_isA 0 0 [.int k, .int o] M (PB K) := by
  unfold underV at h
  have s19 : ¬ o = k → ¬ o = 0 → ¬ (o = nI 1 ∧ k = nI 5) → Ex (d + 1) m_Giving_isA 0 0 19 [some (.int k), some (.int o)] [] M (PB K) := by
    intro a b c
    have e : (decide (o = nI 1) && decide (k = nI 5)) = false := by rw [Bool.and_eq_false_iff, decide_eq_false_iff_not, decide_eq_false_iff_not]; exact Decidable.not_and_iff_or_not.mp c
    rw [decide_eq_false a, decide_eq_false (show ¬ o = nI 0 from b), e] at h
    refine k_Giving_isA_19 hF ⟨fun z => PB.mk ?_ h, fun z => ⟨fun y => PB.mk ?_ h, fun y => PB.mk ?_ h⟩⟩
    · rw [decide_eq_false z]; rfl
    · rw [decide_eq_false y, Bool.and_false]; rfl
    · rw [decide_eq_true z, decide_eq_true y]; rfl
  refine Con.of (lo := [some (.int k), some (.int o)]) F_Giving_isA.1 rfl (Nat.le_of_ble_eq_true rfl) (k_Giving_isA_0 hF ⟨fun z => PB.mk ?_ h, fun z => ⟨fun y => PB.mk ?_ h, fun y => ⟨fun x => s19 z y (fun q => x q.1), fun x => ⟨fun w => PB.mk ?_ h, fun w => s19 z y (fun q => w q.2)⟩⟩⟩⟩)
  · rw [decide_eq_true z]; rfl
  · rw [decide_eq_true (show o = nI 0 from y), Bool.true_or, Bool.or_true]
  · rw [decide_eq_true x, decide_eq_true w, Bool.and_true, Bool.true_or, Bool.or_true, Bool.or_true]
theorem sm_isUnder {d : Nat} {k o : Int32} {M : Mem} {K : Bool → Mem → Prop} (hF : Fm M) (h : K (underV k o) M) : Con (d + 1) m_MM_isUnder 0 0 [.int k, .int o] M (PB K) := by
  unfold underV at h
  have s19 : ¬ o = k → ¬ o = 0 → ¬ (o = nI 1 ∧ k = nI 5) → Ex (d + 1) m_MM_isUnder 0 0 19 [some (.int k), some (.int o)] [] M (PB K) := by
    intro a b c
    have e : (decide (o = nI 1) && decide (k = nI 5)) = false := by rw [Bool.and_eq_false_iff, decide_eq_false_iff_not, decide_eq_false_iff_not]; exact Decidable.not_and_iff_or_not.mp c
    rw [decide_eq_false a, decide_eq_false (show ¬ o = nI 0 from b), e] at h
    refine k_MM_isUnder_19 hF ⟨fun z => PB.mk ?_ h, fun z => ⟨fun y => PB.mk ?_ h, fun y => PB.mk ?_ h⟩⟩
    · rw [decide_eq_false z]; rfl
    · rw [decide_eq_false y, Bool.and_false]; rfl
    · rw [decide_eq_true z, decide_eq_true y]; rfl
  refine Con.of (lo := [some (.int k), some (.int o)]) F_MM_isUnder.1 rfl (Nat.le_of_ble_eq_true rfl) (k_MM_isUnder_0 hF ⟨fun y => PB.mk ?_ h, fun y => ⟨fun z => PB.mk ?_ h, fun z => ⟨fun x => s19 (fun q => z q.symm) y (fun q => x q.1), fun x => ⟨fun w => PB.mk ?_ h, fun w => s19 (fun q => z q.symm) y (fun q => w q.2)⟩⟩⟩⟩)
  · rw [decide_eq_true (show o = nI 0 from y), Bool.true_or, Bool.or_true]
  · rw [decide_eq_true z.symm]; rfl
  · rw [decide_eq_true x, decide_eq_true w, Bool.and_true, Bool.true_or, Bool.or_true, Bool.or_true]
