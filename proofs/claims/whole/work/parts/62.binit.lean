/-! printed blocks: Giving.<init>, Rule.<init>, isJourney of null -/
theorem k_Giving_init_0 {d bc bs : Nat} {l0 : Nat} {l1 : Int32} {l2 : Nat} {M : Mem} {Φ : Option Value → Mem → Prop} (hF : Fx M) (h : (sh M)[l0]? = some (3, 2) ∧ (sh (wi M l0 0 l1))[l0]? = some (3, 2) ∧ Φ none (wr (wi M l0 0 l1) l0 1 (some l2))) : Ex (d + 1) m_Giving_init bc bs 0 [some (.ref l0), some (.int l1), some (.ref l2)] [] M Φ := by
  refine ex_aload_n (pc := 0) (k := 0) (by decide +kernel) rfl ?_
  refine ex_objInit (pc := 1) (by decide +kernel) (in_t3 (i := 167) rfl rfl) (Nat.le_of_ble_eq_true rfl) (Nat.succ_le_succ (Nat.zero_le _)) ?_
  refine ex_aload_n (pc := 4) (k := 0) (by decide +kernel) rfl ?_
  refine ex_iload_n (pc := 5) (k := 1) (by decide +kernel) rfl ?_
  obtain ⟨g1, h⟩ := h
  refine ex_putI (pc := 6) (index := 9) (ci := 3) (k := 0) (fin := true) (by decide +kernel) ⟨_, _, _, _, cf_Giving, by decide, in_t3 (i := 168) rfl rfl, rfl, (fun _ => rfl), rfl, rfl⟩ rfl (fun _ => rfl) g1 ?_
  refine ex_aload_n (pc := 9) (k := 0) (by decide +kernel) rfl ?_
  refine ex_aload_n (pc := 10) (k := 2) (by decide +kernel) rfl ?_
  obtain ⟨g2, h⟩ := h
  refine ex_putR (pc := 11) (index := 15) (ci := 3) (k := 1) (fin := true) (v := some l2) (by decide +kernel) ⟨_, _, _, _, cf_Giving, by decide, in_t3 (i := 170) rfl rfl, rfl, (fun _ => rfl), rfl, rfl⟩ rfl (fun _ => rfl) g2 ?_
  exact ex_return (pc := 14) (by decide +kernel) rfl h
theorem k_Rule_init_0 {d bc bs : Nat} {l0 : Nat} {l1 : Nat} {l2 : Nat} {M : Mem} {Φ : Option Value → Mem → Prop} (hF : Fx M) (h : (sh M)[l0]? = some (7, 2) ∧ (sh (wr M l0 0 (some l1)))[l0]? = some (7, 2) ∧ Φ none (wr (wr M l0 0 (some l1)) l0 1 (some l2))) : Ex (d + 1) m_Rule_init bc bs 0 [some (.ref l0), some (.ref l1), some (.ref l2)] [] M Φ := by
  refine ex_aload_n (pc := 0) (k := 0) (by decide +kernel) rfl ?_
  refine ex_objInit (pc := 1) (by decide +kernel) (in_t2 (i := 221) rfl rfl) (Nat.le_of_ble_eq_true rfl) (Nat.succ_le_succ (Nat.zero_le _)) ?_
  refine ex_aload_n (pc := 4) (k := 0) (by decide +kernel) rfl ?_
  refine ex_aload_n (pc := 5) (k := 1) (by decide +kernel) rfl ?_
  obtain ⟨g1, h⟩ := h
  refine ex_putR (pc := 6) (index := 7) (ci := 7) (k := 0) (fin := true) (v := some l1) (by decide +kernel) ⟨_, _, _, _, cf_Rule, by decide, in_t2 (i := 222) rfl rfl, rfl, (fun _ => rfl), rfl, rfl⟩ rfl (fun _ => rfl) g1 ?_
  refine ex_aload_n (pc := 9) (k := 0) (by decide +kernel) rfl ?_
  refine ex_aload_n (pc := 10) (k := 2) (by decide +kernel) rfl ?_
  obtain ⟨g2, h⟩ := h
  refine ex_putR (pc := 11) (index := 13) (ci := 7) (k := 1) (fin := true) (v := some l2) (by decide +kernel) ⟨_, _, _, _, cf_Rule, by decide, in_t2 (i := 224) rfl rfl, rfl, (fun _ => rfl), rfl, rfl⟩ rfl (fun _ => rfl) g2 ?_
  exact ex_return (pc := 14) (by decide +kernel) rfl h
theorem k_MD_isJourney_n_0 {d bc bs : Nat} {l2 : Int32} {l3 : Int32} {l4 : Int32} {M : Mem} {Φ : Option Value → Mem → Prop} (hF : Fx M) (h : Φ (some (.int (b2i false))) M) : Ex (d + 1) m_MD_isJourney bc bs 0 [some (.ref 0), some (.null), some (.int l2), some (.int l3), some (.int l4)] [] M Φ := by
  refine ex_aload_nN (pc := 0) (k := 1) (by decide +kernel) rfl ?_
  refine ex_ifnullN (pc := 1) (off := 37) (tgt := 38) (by decide +kernel) (by decide) ?_
  refine ex_iconst (pc := 38) (k := 0) (v := nI 0) (by decide +kernel) (by decide) ?_
  exact ex_ireturn (pc := 39) (v := b2i false) (by decide +kernel) rfl (b2i_n _) h
