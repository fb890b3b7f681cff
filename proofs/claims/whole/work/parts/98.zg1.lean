/-! the layout holds behind the traces; m's constructor writes nothing that was there -/
set_option maxRecDepth 100000 in
theorem KXr_rf (B : Mem) : ∀ (i k q : Nat), i < 75 → ((refT[0 + i]?.getD [])[k]?) = some (some q) → mr (KX143 B) (0 + i) k = some q
  | 0, k, q, _, h => KXr_0 B k q h
  | 1, k, q, _, h => KXr_1 B k q h
  | 2, k, q, _, h => absurd (show (([] : List (Option Nat))[k]?) = some (some q) from h) (by simp)
  | 3, k, q, _, h => absurd (show (([] : List (Option Nat))[k]?) = some (some q) from h) (by simp)
  | 4, k, q, _, h => absurd (show (([] : List (Option Nat))[k]?) = some (some q) from h) (by simp)
  | 5, k, q, _, h => absurd (show (([] : List (Option Nat))[k]?) = some (some q) from h) (by simp)
  | 6, k, q, _, h => KXr_6 B k q h
  | 7, k, q, _, h => absurd (show (([] : List (Option Nat))[k]?) = some (some q) from h) (by simp)
  | 8, k, q, _, h => absurd (show (([] : List (Option Nat))[k]?) = some (some q) from h) (by simp)
  | 9, k, q, _, h => absurd (show (([] : List (Option Nat))[k]?) = some (some q) from h) (by simp)
  | 10, k, q, _, h => absurd (show (([] : List (Option Nat))[k]?) = some (some q) from h) (by simp)
  | 11, k, q, _, h => absurd (show (([] : List (Option Nat))[k]?) = some (some q) from h) (by simp)
  | 12, k, q, _, h => absurd (show (([] : List (Option Nat))[k]?) = some (some q) from h) (by simp)
  | 13, k, q, _, h => KXr_13 B k q h
  | 14, k, q, _, h => absurd (show (([] : List (Option Nat))[k]?) = some (some q) from h) (by simp)
  | 15, k, q, _, h => absurd (show (([] : List (Option Nat))[k]?) = some (some q) from h) (by simp)
  | 16, k, q, _, h => absurd (show (([] : List (Option Nat))[k]?) = some (some q) from h) (by simp)
  | 17, k, q, _, h => absurd (show (([] : List (Option Nat))[k]?) = some (some q) from h) (by simp)
  | 18, k, q, _, h => absurd (show (([] : List (Option Nat))[k]?) = some (some q) from h) (by simp)
  | 19, k, q, _, h => absurd (show (([] : List (Option Nat))[k]?) = some (some q) from h) (by simp)
  | 20, k, q, _, h => absurd (show (([] : List (Option Nat))[k]?) = some (some q) from h) (by simp)
  | 21, k, q, _, h => absurd (show (([] : List (Option Nat))[k]?) = some (some q) from h) (by simp)
  | 22, k, q, _, h => KXr_22 B k q h
  | 23, k, q, _, h => absurd (show (([] : List (Option Nat))[k]?) = some (some q) from h) (by simp)
  | 24, k, q, _, h => absurd (show (([] : List (Option Nat))[k]?) = some (some q) from h) (by simp)
  | 25, k, q, _, h => absurd (show (([] : List (Option Nat))[k]?) = some (some q) from h) (by simp)
  | 26, k, q, _, h => absurd (show (([] : List (Option Nat))[k]?) = some (some q) from h) (by simp)
  | 27, k, q, _, h => KXr_27 B k q h
  | 28, k, q, _, h => absurd (show (([] : List (Option Nat))[k]?) = some (some q) from h) (by simp)
  | 29, k, q, _, h => absurd (show (([] : List (Option Nat))[k]?) = some (some q) from h) (by simp)
  | 30, k, q, _, h => absurd (show (([] : List (Option Nat))[k]?) = some (some q) from h) (by simp)
  | 31, k, q, _, h => absurd (show (([] : List (Option Nat))[k]?) = some (some q) from h) (by simp)
  | 32, k, q, _, h => absurd (show (([] : List (Option Nat))[k]?) = some (some q) from h) (by simp)
  | 33, k, q, _, h => absurd (show (([] : List (Option Nat))[k]?) = some (some q) from h) (by simp)
  | 34, k, q, _, h => KXr_34 B k q h
  | 35, k, q, _, h => absurd (show (([] : List (Option Nat))[k]?) = some (some q) from h) (by simp)
  | 36, k, q, _, h => absurd (show (([] : List (Option Nat))[k]?) = some (some q) from h) (by simp)
  | 37, k, q, _, h => absurd (show (([] : List (Option Nat))[k]?) = some (some q) from h) (by simp)
  | 38, k, q, _, h => absurd (show (([] : List (Option Nat))[k]?) = some (some q) from h) (by simp)
  | 39, k, q, _, h => absurd (show (([] : List (Option Nat))[k]?) = some (some q) from h) (by simp)
  | 40, k, q, _, h => absurd (show (([] : List (Option Nat))[k]?) = some (some q) from h) (by simp)
  | 41, k, q, _, h => absurd (show (([] : List (Option Nat))[k]?) = some (some q) from h) (by simp)
  | 42, k, q, _, h => absurd (show (([] : List (Option Nat))[k]?) = some (some q) from h) (by simp)
  | 43, k, q, _, h => KXr_43 B k q h
  | 44, k, q, _, h => absurd (show (([] : List (Option Nat))[k]?) = some (some q) from h) (by simp)
  | 45, k, q, _, h => absurd (show (([] : List (Option Nat))[k]?) = some (some q) from h) (by simp)
  | 46, k, q, _, h => KXr_46 B k q h
  | 47, k, q, _, h => absurd (show (([] : List (Option Nat))[k]?) = some (some q) from h) (by simp)
  | 48, k, q, _, h => absurd (show (([] : List (Option Nat))[k]?) = some (some q) from h) (by simp)
  | 49, k, q, _, h => absurd (show (([] : List (Option Nat))[k]?) = some (some q) from h) (by simp)
  | 50, k, q, _, h => absurd (show (([] : List (Option Nat))[k]?) = some (some q) from h) (by simp)
  | 51, k, q, _, h => KXr_51 B k q h
  | 52, k, q, _, h => absurd (show (([] : List (Option Nat))[k]?) = some (some q) from h) (by simp)
  | 53, k, q, _, h => KXr_53 B k q h
  | 54, k, q, _, h => absurd (show (([] : List (Option Nat))[k]?) = some (some q) from h) (by simp)
  | 55, k, q, _, h => absurd (show (([] : List (Option Nat))[k]?) = some (some q) from h) (by simp)
  | 56, k, q, _, h => absurd (show (([] : List (Option Nat))[k]?) = some (some q) from h) (by simp)
  | 57, k, q, _, h => absurd (show (([] : List (Option Nat))[k]?) = some (some q) from h) (by simp)
  | 58, k, q, _, h => KXr_58 B k q h
  | 59, k, q, _, h => absurd (show (([] : List (Option Nat))[k]?) = some (some q) from h) (by simp)
  | 60, k, q, _, h => absurd (show (([] : List (Option Nat))[k]?) = some (some q) from h) (by simp)
  | 61, k, q, _, h => absurd (show (([] : List (Option Nat))[k]?) = some (some q) from h) (by simp)
  | 62, k, q, _, h => absurd (show (([] : List (Option Nat))[k]?) = some (some q) from h) (by simp)
  | 63, k, q, _, h => KXr_63 B k q h
  | 64, k, q, _, h => absurd (show (([] : List (Option Nat))[k]?) = some (some q) from h) (by simp)
  | 65, k, q, _, h => absurd (show (([] : List (Option Nat))[k]?) = some (some q) from h) (by simp)
  | 66, k, q, _, h => KXr_66 B k q h
  | 67, k, q, _, h => KXr_67 B k q h
  | 68, k, q, _, h => absurd (show (([] : List (Option Nat))[k]?) = some (some q) from h) (by simp)
  | 69, k, q, _, h => KXr_69 B k q h
  | 70, k, q, _, h => absurd (show (([] : List (Option Nat))[k]?) = some (some q) from h) (by simp)
  | 71, k, q, _, h => KXr_71 B k q h
  | 72, k, q, _, h => absurd (show (([] : List (Option Nat))[k]?) = some (some q) from h) (by simp)
  | 73, k, q, _, h => KXr_73 B k q h
  | 74, k, q, _, h => absurd (show (([] : List (Option Nat))[k]?) = some (some q) from h) (by simp)
  | n + 75, _, _, hj, _ => absurd hj (by omega)
set_option maxRecDepth 100000 in
theorem KMr_rf (B : Mem) : ∀ (i k q : Nat), i < 35 → ((refT[78 + i]?.getD [])[k]?) = some (some q) → mr (KM86 B) (78 + i) k = some q
  | 0, k, q, _, h => KMr_78 B k q h
  | 1, k, q, _, h => absurd (show (([] : List (Option Nat))[k]?) = some (some q) from h) (by simp)
  | 2, k, q, _, h => absurd (show (([] : List (Option Nat))[k]?) = some (some q) from h) (by simp)
  | 3, k, q, _, h => absurd (show (([] : List (Option Nat))[k]?) = some (some q) from h) (by simp)
  | 4, k, q, _, h => absurd (show (([] : List (Option Nat))[k]?) = some (some q) from h) (by simp)
  | 5, k, q, _, h => absurd (show (([] : List (Option Nat))[k]?) = some (some q) from h) (by simp)
  | 6, k, q, _, h => absurd (show (([] : List (Option Nat))[k]?) = some (some q) from h) (by simp)
  | 7, k, q, _, h => absurd (show (([] : List (Option Nat))[k]?) = some (some q) from h) (by simp)
  | 8, k, q, _, h => absurd (show (([] : List (Option Nat))[k]?) = some (some q) from h) (by simp)
  | 9, k, q, _, h => absurd (show (([] : List (Option Nat))[k]?) = some (some q) from h) (by simp)
  | 10, k, q, _, h => absurd (show (([] : List (Option Nat))[k]?) = some (some q) from h) (by simp)
  | 11, k, q, _, h => absurd (show (([] : List (Option Nat))[k]?) = some (some q) from h) (by simp)
  | 12, k, q, _, h => absurd (show (([] : List (Option Nat))[k]?) = some (some q) from h) (by simp)
  | 13, k, q, _, h => absurd (show (([] : List (Option Nat))[k]?) = some (some q) from h) (by simp)
  | 14, k, q, _, h => absurd (show (([] : List (Option Nat))[k]?) = some (some q) from h) (by simp)
  | 15, k, q, _, h => absurd (show (([] : List (Option Nat))[k]?) = some (some q) from h) (by simp)
  | 16, k, q, _, h => absurd (show (([] : List (Option Nat))[k]?) = some (some q) from h) (by simp)
  | 17, k, q, _, h => absurd (show (([] : List (Option Nat))[k]?) = some (some q) from h) (by simp)
  | 18, k, q, _, h => absurd (show (([] : List (Option Nat))[k]?) = some (some q) from h) (by simp)
  | 19, k, q, _, h => absurd (show (([] : List (Option Nat))[k]?) = some (some q) from h) (by simp)
  | 20, k, q, _, h => absurd (show (([] : List (Option Nat))[k]?) = some (some q) from h) (by simp)
  | 21, k, q, _, h => absurd (show (([] : List (Option Nat))[k]?) = some (some q) from h) (by simp)
  | 22, k, q, _, h => absurd (show (([] : List (Option Nat))[k]?) = some (some q) from h) (by simp)
  | 23, k, q, _, h => absurd (show (([] : List (Option Nat))[k]?) = some (some q) from h) (by simp)
  | 24, k, q, _, h => absurd (show (([] : List (Option Nat))[k]?) = some (some q) from h) (by simp)
  | 25, k, q, _, h => absurd (show (([] : List (Option Nat))[k]?) = some (some q) from h) (by simp)
  | 26, k, q, _, h => absurd (show (([] : List (Option Nat))[k]?) = some (some q) from h) (by simp)
  | 27, k, q, _, h => absurd (show (([] : List (Option Nat))[k]?) = some (some q) from h) (by simp)
  | 28, k, q, _, h => absurd (show (([] : List (Option Nat))[k]?) = some (some q) from h) (by simp)
  | 29, k, q, _, h => absurd (show (([] : List (Option Nat))[k]?) = some (some q) from h) (by simp)
  | 30, k, q, _, h => absurd (show (([] : List (Option Nat))[k]?) = some (some q) from h) (by simp)
  | 31, k, q, _, h => absurd (show (([] : List (Option Nat))[k]?) = some (some q) from h) (by simp)
  | 32, k, q, _, h => absurd (show (([] : List (Option Nat))[k]?) = some (some q) from h) (by simp)
  | 33, k, q, _, h => absurd (show (([] : List (Option Nat))[k]?) = some (some q) from h) (by simp)
  | 34, k, q, _, h => absurd (show (([] : List (Option Nat))[k]?) = some (some q) from h) (by simp)
  | n + 35, _, _, hj, _ => absurd hj (by omega)
theorem KX_Fx {B : Mem} (hB : (sh B).length = 0) : Fx (KX143 B) := by
  refine ⟨fun j kn _ hj h => sh_L (b := 0) (n := 75) (i := j) hB (KXs_143 B) ?_ (Nat.zero_add j), fun j k q l _ hj hl hk => ?_⟩
  · rw [List.drop_zero, List.getElem?_take_of_lt hj]; exact h
  · have := KXr_rf B j k q hj (by rw [Nat.zero_add, hl]; exact hk)
    rwa [Nat.zero_add] at this
theorem KX_len {B : Mem} (hB : (sh B).length = 0) : (sh (KX143 B)).length = 75 := sh_N (b := 0) (n := 75) hB (KXs_143 B) (by decide +kernel)
theorem KM_len {B : Mem} (hB : (sh B).length = 78) : (sh (KM86 B)).length = 113 := sh_N (b := 78) (n := 35) hB (KMs_86 B) (by decide +kernel)
theorem KM_Fm {B : Mem} (hB : (sh B).length = 78) : Fm (KM86 B) := by
  refine ⟨fun j kn h1 h2 h => ?_, fun j k q l h1 h2 hl hk => ?_⟩
  · obtain ⟨i, rfl⟩ : ∃ i, j = 78 + i := ⟨j - 78, by omega⟩
    refine sh_L (b := 78) (n := 35) (i := i) hB (KMs_86 B) ?_ rfl
    rw [List.getElem?_take_of_lt (by omega), List.getElem?_drop]; exact h
  · obtain ⟨i, rfl⟩ : ∃ i, j = 78 + i := ⟨j - 78, by omega⟩
    exact KMr_rf B i k q (by omega) (by rw [hl]; exact hk)
theorem FrG.hwi {L R : List Nat} {B M : Mem} {j k : Nat} {v : Int32} (h : FrG L R B M) (hj : (sh B).length ≤ j) : FrG L R B (wi M j k v) := ⟨h.1, h.2.1, fun i hi => by
  obtain ⟨x1, x2, x3⟩ := h.2.2 i hi
  refine ⟨fun hn => ?_, x2, x3⟩
  rw [← x1 hn]
  show u2 (mi M) j k v i = mi M i
  exact u2_n (by omega)⟩
theorem FrG.hwr {L R : List Nat} {B M : Mem} {j k : Nat} {v : Option Nat} (h : FrG L R B M) (hj : (sh B).length ≤ j) : FrG L R B (wr M j k v) := ⟨h.1, h.2.1, fun i hi => by
  obtain ⟨x1, x2, x3⟩ := h.2.2 i hi
  refine ⟨x1, fun hn => ?_, x3⟩
  rw [← x2 hn]
  show u2 (mr M) j k v i = mr M i
  exact u2_n (by omega)⟩
theorem FrG.hwl {L R : List Nat} {B M : Mem} {j k : Nat} {v : Int64} (h : FrG L R B M) (hj : (sh B).length ≤ j) : FrG L R B (wl M j k v) := ⟨h.1, h.2.1, fun i hi => by
  obtain ⟨x1, x2, x3⟩ := h.2.2 i hi
  refine ⟨x1, x2, ?_⟩
  rw [← x3]
  show u2 (ml M) j k v i = ml M i
  exact u2_n (by omega)⟩
theorem FrG.hnw {L R : List Nat} {B M : Mem} {q kd N : Nat} (h : FrG L R B M) (hq : (sh B).length ≤ q) : FrG L R B (nwL M q kd N) := by
  obtain ⟨⟨e, he⟩, a, b⟩ := h
  refine ⟨⟨e ++ [(kd, N)], ?_⟩, a, fun i hi => ?_⟩
  · show sh M ++ [(kd, N)] = _
    rw [he, List.append_assoc]
  · obtain ⟨x1, x2, x3⟩ := b i hi
    refine ⟨fun hn => ?_, fun hn => ?_, ?_⟩
    · rw [← x1 hn]
      show ro (mi M) q (fun _ => 0) i = mi M i
      exact ro_n (by omega)
    · rw [← x2 hn]
      show ro (mr M) q (fun _ => none) i = mr M i
      exact ro_n (by omega)
    · rw [← x3]
      show ro (ml M) q (fun _ => 0) i = ml M i
      exact ro_n (by omega)
theorem KMf_0 {B : Mem} (hB : (sh B).length = 78) : FrG [] [] B (KM0 B) := FrG.rf _ _
theorem KMf_1 {B : Mem} (hB : (sh B).length = 78) : FrG [] [] B (KM1 B) := FrG.hnw (KMf_0 hB) (by omega)
theorem KMf_2 {B : Mem} (hB : (sh B).length = 78) : FrG [] [] B (KM2 B) := FrG.hnw (KMf_1 hB) (by omega)
theorem KMf_3 {B : Mem} (hB : (sh B).length = 78) : FrG [] [] B (KM3 B) := FrG.hwr (KMf_2 hB) (by omega)
theorem KMf_4 {B : Mem} (hB : (sh B).length = 78) : FrG [] [] B (KM4 B) := FrG.hnw (KMf_3 hB) (by omega)
theorem KMf_5 {B : Mem} (hB : (sh B).length = 78) : FrG [] [] B (KM5 B) := FrG.hwr (KMf_4 hB) (by omega)
theorem KMf_6 {B : Mem} (hB : (sh B).length = 78) : FrG [] [] B (KM6 B) := FrG.hnw (KMf_5 hB) (by omega)
theorem KMf_7 {B : Mem} (hB : (sh B).length = 78) : FrG [] [] B (KM7 B) := FrG.hwr (KMf_6 hB) (by omega)
theorem KMf_8 {B : Mem} (hB : (sh B).length = 78) : FrG [] [] B (KM8 B) := FrG.hnw (KMf_7 hB) (by omega)
theorem KMf_9 {B : Mem} (hB : (sh B).length = 78) : FrG [] [] B (KM9 B) := FrG.hwr (KMf_8 hB) (by omega)
theorem KMf_10 {B : Mem} (hB : (sh B).length = 78) : FrG [] [] B (KM10 B) := FrG.hnw (KMf_9 hB) (by omega)
theorem KMf_11 {B : Mem} (hB : (sh B).length = 78) : FrG [] [] B (KM11 B) := FrG.hwr (KMf_10 hB) (by omega)
theorem KMf_12 {B : Mem} (hB : (sh B).length = 78) : FrG [] [] B (KM12 B) := FrG.hwi (KMf_11 hB) (by omega)
theorem KMf_13 {B : Mem} (hB : (sh B).length = 78) : FrG [] [] B (KM13 B) := FrG.hnw (KMf_12 hB) (by omega)
theorem KMf_14 {B : Mem} (hB : (sh B).length = 78) : FrG [] [] B (KM14 B) := FrG.hwr (KMf_13 hB) (by omega)
theorem KMf_15 {B : Mem} (hB : (sh B).length = 78) : FrG [] [] B (KM15 B) := FrG.hnw (KMf_14 hB) (by omega)
theorem KMf_16 {B : Mem} (hB : (sh B).length = 78) : FrG [] [] B (KM16 B) := FrG.hwr (KMf_15 hB) (by omega)
theorem KMf_17 {B : Mem} (hB : (sh B).length = 78) : FrG [] [] B (KM17 B) := FrG.hnw (KMf_16 hB) (by omega)
theorem KMf_18 {B : Mem} (hB : (sh B).length = 78) : FrG [] [] B (KM18 B) := FrG.hwr (KMf_17 hB) (by omega)
theorem KMf_19 {B : Mem} (hB : (sh B).length = 78) : FrG [] [] B (KM19 B) := FrG.hnw (KMf_18 hB) (by omega)
theorem KMf_20 {B : Mem} (hB : (sh B).length = 78) : FrG [] [] B (KM20 B) := FrG.hwr (KMf_19 hB) (by omega)
theorem KMf_21 {B : Mem} (hB : (sh B).length = 78) : FrG [] [] B (KM21 B) := FrG.hnw (KMf_20 hB) (by omega)
theorem KMf_22 {B : Mem} (hB : (sh B).length = 78) : FrG [] [] B (KM22 B) := FrG.hwr (KMf_21 hB) (by omega)
theorem KMf_23 {B : Mem} (hB : (sh B).length = 78) : FrG [] [] B (KM23 B) := FrG.hwi (KMf_22 hB) (by omega)
theorem KMf_24 {B : Mem} (hB : (sh B).length = 78) : FrG [] [] B (KM24 B) := FrG.hnw (KMf_23 hB) (by omega)
theorem KMf_25 {B : Mem} (hB : (sh B).length = 78) : FrG [] [] B (KM25 B) := FrG.hwr (KMf_24 hB) (by omega)
theorem KMf_26 {B : Mem} (hB : (sh B).length = 78) : FrG [] [] B (KM26 B) := FrG.hnw (KMf_25 hB) (by omega)
theorem KMf_27 {B : Mem} (hB : (sh B).length = 78) : FrG [] [] B (KM27 B) := FrG.hwr (KMf_26 hB) (by omega)
theorem KMf_28 {B : Mem} (hB : (sh B).length = 78) : FrG [] [] B (KM28 B) := FrG.hnw (KMf_27 hB) (by omega)
theorem KMf_29 {B : Mem} (hB : (sh B).length = 78) : FrG [] [] B (KM29 B) := FrG.hwr (KMf_28 hB) (by omega)
theorem KMf_30 {B : Mem} (hB : (sh B).length = 78) : FrG [] [] B (KM30 B) := FrG.hnw (KMf_29 hB) (by omega)
theorem KMf_31 {B : Mem} (hB : (sh B).length = 78) : FrG [] [] B (KM31 B) := FrG.hwr (KMf_30 hB) (by omega)
theorem KMf_32 {B : Mem} (hB : (sh B).length = 78) : FrG [] [] B (KM32 B) := FrG.hnw (KMf_31 hB) (by omega)
theorem KMf_33 {B : Mem} (hB : (sh B).length = 78) : FrG [] [] B (KM33 B) := FrG.hwr (KMf_32 hB) (by omega)
theorem KMf_34 {B : Mem} (hB : (sh B).length = 78) : FrG [] [] B (KM34 B) := FrG.hnw (KMf_33 hB) (by omega)
theorem KMf_35 {B : Mem} (hB : (sh B).length = 78) : FrG [] [] B (KM35 B) := FrG.hwr (KMf_34 hB) (by omega)
theorem KMf_36 {B : Mem} (hB : (sh B).length = 78) : FrG [] [] B (KM36 B) := FrG.hnw (KMf_35 hB) (by omega)
theorem KMf_37 {B : Mem} (hB : (sh B).length = 78) : FrG [] [] B (KM37 B) := FrG.hwr (KMf_36 hB) (by omega)
theorem KMf_38 {B : Mem} (hB : (sh B).length = 78) : FrG [] [] B (KM38 B) := FrG.hnw (KMf_37 hB) (by omega)
theorem KMf_39 {B : Mem} (hB : (sh B).length = 78) : FrG [] [] B (KM39 B) := FrG.hwr (KMf_38 hB) (by omega)
theorem KMf_40 {B : Mem} (hB : (sh B).length = 78) : FrG [] [] B (KM40 B) := FrG.hnw (KMf_39 hB) (by omega)
theorem KMf_41 {B : Mem} (hB : (sh B).length = 78) : FrG [] [] B (KM41 B) := FrG.hwr (KMf_40 hB) (by omega)
theorem KMf_42 {B : Mem} (hB : (sh B).length = 78) : FrG [] [] B (KM42 B) := FrG.hnw (KMf_41 hB) (by omega)
theorem KMf_43 {B : Mem} (hB : (sh B).length = 78) : FrG [] [] B (KM43 B) := FrG.hwr (KMf_42 hB) (by omega)
theorem KMf_44 {B : Mem} (hB : (sh B).length = 78) : FrG [] [] B (KM44 B) := FrG.hnw (KMf_43 hB) (by omega)
theorem KMf_45 {B : Mem} (hB : (sh B).length = 78) : FrG [] [] B (KM45 B) := FrG.hwr (KMf_44 hB) (by omega)
theorem KMf_46 {B : Mem} (hB : (sh B).length = 78) : FrG [] [] B (KM46 B) := FrG.hnw (KMf_45 hB) (by omega)
theorem KMf_47 {B : Mem} (hB : (sh B).length = 78) : FrG [] [] B (KM47 B) := FrG.hwi (KMf_46 hB) (by omega)
theorem KMf_48 {B : Mem} (hB : (sh B).length = 78) : FrG [] [] B (KM48 B) := FrG.hwi (KMf_47 hB) (by omega)
theorem KMf_49 {B : Mem} (hB : (sh B).length = 78) : FrG [] [] B (KM49 B) := FrG.hwi (KMf_48 hB) (by omega)
theorem KMf_50 {B : Mem} (hB : (sh B).length = 78) : FrG [] [] B (KM50 B) := FrG.hwi (KMf_49 hB) (by omega)
theorem KMf_51 {B : Mem} (hB : (sh B).length = 78) : FrG [] [] B (KM51 B) := FrG.hwr (KMf_50 hB) (by omega)
theorem KMf_52 {B : Mem} (hB : (sh B).length = 78) : FrG [] [] B (KM52 B) := FrG.hnw (KMf_51 hB) (by omega)
theorem KMf_53 {B : Mem} (hB : (sh B).length = 78) : FrG [] [] B (KM53 B) := FrG.hwr (KMf_52 hB) (by omega)
theorem KMf_54 {B : Mem} (hB : (sh B).length = 78) : FrG [] [] B (KM54 B) := FrG.hnw (KMf_53 hB) (by omega)
theorem KMf_55 {B : Mem} (hB : (sh B).length = 78) : FrG [] [] B (KM55 B) := FrG.hwr (KMf_54 hB) (by omega)
theorem KMf_56 {B : Mem} (hB : (sh B).length = 78) : FrG [] [] B (KM56 B) := FrG.hnw (KMf_55 hB) (by omega)
theorem KMf_57 {B : Mem} (hB : (sh B).length = 78) : FrG [] [] B (KM57 B) := FrG.hwr (KMf_56 hB) (by omega)
theorem KMf_58 {B : Mem} (hB : (sh B).length = 78) : FrG [] [] B (KM58 B) := FrG.hnw (KMf_57 hB) (by omega)
theorem KMf_59 {B : Mem} (hB : (sh B).length = 78) : FrG [] [] B (KM59 B) := FrG.hwl (KMf_58 hB) (by omega)
theorem KMf_60 {B : Mem} (hB : (sh B).length = 78) : FrG [] [] B (KM60 B) := FrG.hwl (KMf_59 hB) (by omega)
theorem KMf_61 {B : Mem} (hB : (sh B).length = 78) : FrG [] [] B (KM61 B) := FrG.hwl (KMf_60 hB) (by omega)
theorem KMf_62 {B : Mem} (hB : (sh B).length = 78) : FrG [] [] B (KM62 B) := FrG.hwl (KMf_61 hB) (by omega)
theorem KMf_63 {B : Mem} (hB : (sh B).length = 78) : FrG [] [] B (KM63 B) := FrG.hwl (KMf_62 hB) (by omega)
theorem KMf_64 {B : Mem} (hB : (sh B).length = 78) : FrG [] [] B (KM64 B) := FrG.hwl (KMf_63 hB) (by omega)
theorem KMf_65 {B : Mem} (hB : (sh B).length = 78) : FrG [] [] B (KM65 B) := FrG.hwl (KMf_64 hB) (by omega)
theorem KMf_66 {B : Mem} (hB : (sh B).length = 78) : FrG [] [] B (KM66 B) := FrG.hwl (KMf_65 hB) (by omega)
theorem KMf_67 {B : Mem} (hB : (sh B).length = 78) : FrG [] [] B (KM67 B) := FrG.hwl (KMf_66 hB) (by omega)
theorem KMf_68 {B : Mem} (hB : (sh B).length = 78) : FrG [] [] B (KM68 B) := FrG.hwl (KMf_67 hB) (by omega)
theorem KMf_69 {B : Mem} (hB : (sh B).length = 78) : FrG [] [] B (KM69 B) := FrG.hwl (KMf_68 hB) (by omega)
theorem KMf_70 {B : Mem} (hB : (sh B).length = 78) : FrG [] [] B (KM70 B) := FrG.hwr (KMf_69 hB) (by omega)
theorem KMf_71 {B : Mem} (hB : (sh B).length = 78) : FrG [] [] B (KM71 B) := FrG.hnw (KMf_70 hB) (by omega)
theorem KMf_72 {B : Mem} (hB : (sh B).length = 78) : FrG [] [] B (KM72 B) := FrG.hwr (KMf_71 hB) (by omega)
theorem KMf_73 {B : Mem} (hB : (sh B).length = 78) : FrG [] [] B (KM73 B) := FrG.hnw (KMf_72 hB) (by omega)
theorem KMf_74 {B : Mem} (hB : (sh B).length = 78) : FrG [] [] B (KM74 B) := FrG.hwr (KMf_73 hB) (by omega)
theorem KMf_75 {B : Mem} (hB : (sh B).length = 78) : FrG [] [] B (KM75 B) := FrG.hnw (KMf_74 hB) (by omega)
theorem KMf_76 {B : Mem} (hB : (sh B).length = 78) : FrG [] [] B (KM76 B) := FrG.hwr (KMf_75 hB) (by omega)
theorem KMf_77 {B : Mem} (hB : (sh B).length = 78) : FrG [] [] B (KM77 B) := FrG.hnw (KMf_76 hB) (by omega)
theorem KMf_78 {B : Mem} (hB : (sh B).length = 78) : FrG [] [] B (KM78 B) := FrG.hwr (KMf_77 hB) (by omega)
theorem KMf_79 {B : Mem} (hB : (sh B).length = 78) : FrG [] [] B (KM79 B) := FrG.hnw (KMf_78 hB) (by omega)
theorem KMf_80 {B : Mem} (hB : (sh B).length = 78) : FrG [] [] B (KM80 B) := FrG.hwr (KMf_79 hB) (by omega)
theorem KMf_81 {B : Mem} (hB : (sh B).length = 78) : FrG [] [] B (KM81 B) := FrG.hnw (KMf_80 hB) (by omega)
theorem KMf_82 {B : Mem} (hB : (sh B).length = 78) : FrG [] [] B (KM82 B) := FrG.hwr (KMf_81 hB) (by omega)
theorem KMf_83 {B : Mem} (hB : (sh B).length = 78) : FrG [] [] B (KM83 B) := FrG.hnw (KMf_82 hB) (by omega)
theorem KMf_84 {B : Mem} (hB : (sh B).length = 78) : FrG [] [] B (KM84 B) := FrG.hwr (KMf_83 hB) (by omega)
theorem KMf_85 {B : Mem} (hB : (sh B).length = 78) : FrG [] [] B (KM85 B) := FrG.hnw (KMf_84 hB) (by omega)
theorem KMf_86 {B : Mem} (hB : (sh B).length = 78) : FrG [] [] B (KM86 B) := FrG.hwr (KMf_85 hB) (by omega)
