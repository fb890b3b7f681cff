/-! m's constructor to its end: the state at the start -/
theorem sm_first {d p : Nat} {a b c e : Int32} {M : Mem} {K : Mem → Prop} (hF : Fm M) (hp : p + 4 ≤ 1200) (h : K (wi (wi (wi (wi M 87 p a) 87 (p + 1) b) 87 (p + 2) c) 87 (p + 3) e)) : Con (d + 1) m_MM_first 0 0 [.ref 78, .int (nI p), .int a, .int b, .int c, .int e] M (PV K) := by
  refine Con.of (lo := [some (.ref 78), some (.int (nI p)), some (.int a), some (.int b), some (.int c), some (.int e)]) F_MM_first.1 rfl (Nat.le_of_ble_eq_true rfl) (k_MM_first_0 hF ?_)
  rw [nI_add, nI_add, nI_add, nI_clamp (by omega), nI_clamp (by omega), nI_clamp (by omega), nI_clamp (by omega)]
  exact ⟨vN (by omega) (by decide), vN (by omega) (by decide), vN (by omega) (by decide), vN (by omega) (by decide), rfl, h⟩
section
set_option maxRecDepth 100000
theorem KM_wrd (B : Mem) : ∀ k w, wordsT[k]? = some w → ml (KM86 B) 104 k = w := by
  intro k w h
  match k, h with
  | 0, h => cases h; rfl
  | 1, h => cases h; rfl
  | 2, h => cases h; rfl
  | 3, h => cases h; rfl
  | 4, h => cases h; rfl
  | 5, h => cases h; rfl
  | 6, h => cases h; rfl
  | 7, h => cases h; rfl
  | 8, h => cases h; rfl
  | 9, h => cases h; rfl
  | 10, h => cases h; rfl
  | k + 11, h => exact absurd h (by simp [wordsT])
theorem KM_78 (B : Mem) : mi (KM86 B) 78 0 = nI 0 ∧ mi (KM86 B) 78 6 = nI 6 ∧ mi (KM86 B) 78 7 = nI 0 ∧ mi (KM86 B) 78 15 = nI 0 ∧ mi (KM86 B) 78 25 = 0 ∧ mi (KM86 B) 78 11 = nI 0 ∧ mi (KM86 B) 78 14 = nI 1 ∧ mi (KM86 B) 78 16 = nI 0 ∧ mi (KM86 B) 78 20 = 0 ∧ mi (KM86 B) 78 23 = nI 0 := ⟨rfl, rfl, rfl, rfl, rfl, rfl, rfl, rfl, rfl, rfl⟩
theorem KM_83 (B : Mem) : ∀ k, mi (KM86 B) 83 k = 0 := fun _ => rfl
theorem KM_88 (B : Mem) : mi (KM86 B) 88 0 = 0 := rfl
theorem KM_sheet (B : Mem) : ∀ s, s < 4 → mi (KM86 B) 100 s = -1 ∧ mi (KM86 B) 101 s = 0 ∧ ∀ i, mi (KM86 B) 102 i = 0 := by
  intro s h
  rcases lt4 h with rfl | rfl | rfl | rfl <;> exact ⟨rfl, rfl, fun _ => rfl⟩
end
theorem MA_s0 {B M : Mem} (hl : (sh (KM86 B)).length = 113) (hF : Fm M) (f : FrG [87, 88] [] (KM86 B) M) (h0 : mi M 88 0 = 0) (h1 : mi M 88 1 = nI 3) (h2 : mi M 88 2 = nI 12) (h3 : ∀ k c, (near0 ++ worth0)[k]? = some c → mi M 87 k = c) : MA s0 M := by
  have n : ∀ j, j < 113 → j ≠ 87 → j ≠ 88 → mi M j = mi (KM86 B) j := fun j a b c => f.row (by omega) (by simp; omega)
  have e := KM_78 B
  have n78 := n 78 (by decide) (by decide) (by decide)
  refine ⟨hF, fun k w h => by rw [f.lrow (by omega)]; exact KM_wrd B k w h, ⟨?_, ?_, ?_, ?_, fun t h => absurd h (Nat.not_lt_zero t), fun a b _ _ => ?_, fun i w d h => by cases h⟩, ?_, ⟨?_, fun i b h => by cases h⟩, ⟨?_, fun i p w hi => ?_⟩, ⟨?_, fun g k ns h => by cases h⟩, ?_, ⟨?_, fun t v h => by cases h⟩, fun s h => ?_⟩
  · rw [n78]; exact e.1
  · rw [n78]; exact e.2.1
  · rw [n78]; exact e.2.2.1
  · rw [n78]; exact e.2.2.2.1
  · rw [n 83 (by decide) (by decide) (by decide)]; exact KM_83 B _
  · show mi M 78 25 = 0
    rw [n78]; exact e.2.2.2.2.1
  · rw [n78]; exact e.2.2.2.2.2.1
  · rw [n78]; exact e.2.2.2.2.2.2.1
  · have hi0 : i = 0 ∧ (near0, worth0) = (p, w) := by
      cases i with
      | zero => exact ⟨rfl, Option.some.inj hi⟩
      | succ i => exact absurd hi (by simp [oTx, s0])
    obtain ⟨rfl, e9⟩ := hi0
    cases e9
    exact ⟨h0, h1, h2, fun k c hk => by rw [show 200 * 0 + k = k by omega]; exact h3 k c hk⟩
  · rw [n78]; exact e.2.2.2.2.2.2.2.1
  · show mi M 78 20 = 0
    rw [n78]; exact e.2.2.2.2.2.2.2.2.1
  · rw [n78]; exact e.2.2.2.2.2.2.2.2.2
  · obtain ⟨e1, e2, e3⟩ := KM_sheet B s h
    rw [n 100 (by decide) (by decide) (by decide), n 101 (by decide) (by decide) (by decide), n 102 (by decide) (by decide) (by decide)]
    exact ⟨e1, e2, fun i _ => e3 _⟩
def KMe (B : Mem) : Mem := wi (wi (wi (wi (wi (wi (wi (wi (wi (wi (wi (wi (wi (wi (KM86 B) 87 0 (nI 0)) 87 (0 + 1) (nI 100004)) 87 (0 + 2) (nI 14)) 87 (0 + 3) (nI 100010)) 87 4 (nI 2)) 87 (4 + 1) (nI 100002)) 87 (4 + 2) (nI 18)) 87 (4 + 3) (nI 17)) 87 8 (nI 4)) 87 (8 + 1) (nI 100005)) 87 (8 + 2) (nI 18)) 87 (8 + 3) (nI 16)) 88 1 (nI 3)) 88 2 (nI 12)
theorem KMe_len (B : Mem) : sh (KMe B) = sh (KM86 B) := rfl
theorem KMe_f {B : Mem} (hB : (sh B).length = 78) : FrG [] [] B (KMe B) := ((((((((((((((KMf_86 hB).hwi (by omega)).hwi (by omega)).hwi (by omega)).hwi (by omega)).hwi (by omega)).hwi (by omega)).hwi (by omega)).hwi (by omega)).hwi (by omega)).hwi (by omega)).hwi (by omega)).hwi (by omega)).hwi (by omega)).hwi (by omega)
theorem KMe_g (B : Mem) : FrG [87, 88] [] (KM86 B) (KMe B) := ((((((((((((((FrG.rf _ _).fwi (by simp)).fwi (by simp)).fwi (by simp)).fwi (by simp)).fwi (by simp)).fwi (by simp)).fwi (by simp)).fwi (by simp)).fwi (by simp)).fwi (by simp)).fwi (by simp)).fwi (by simp)).fwi (by simp)).fwi (by simp)
set_option maxRecDepth 100000 in
theorem KMe_88 (B : Mem) : mi (KMe B) 88 0 = 0 ∧ mi (KMe B) 88 1 = nI 3 ∧ mi (KMe B) 88 2 = nI 12 := ⟨rfl, rfl, rfl⟩
set_option maxRecDepth 100000 in
theorem KMe_87 (B : Mem) : ∀ k c, (near0 ++ worth0)[k]? = some c → mi (KMe B) 87 k = c := by
  intro k c h
  match k, h with
  | 0, h => cases h; rfl
  | 1, h => cases h; rfl
  | 2, h => cases h; rfl
  | 3, h => cases h; rfl
  | 4, h => cases h; rfl
  | 5, h => cases h; rfl
  | 6, h => cases h; rfl
  | 7, h => cases h; rfl
  | 8, h => cases h; rfl
  | 9, h => cases h; rfl
  | 10, h => cases h; rfl
  | 11, h => cases h; rfl
  | k + 12, h => exact absurd h (by simp [near0, worth0])
theorem MM_new {d : Nat} {B : Mem} {K : Mem → Prop} (hB : (sh B).length = 78) (hx : XA s0 B) (H : ∀ M2, XA s0 M2 → MA s0 M2 → (sh M2).length = 113 → sc M2 = sc B → K M2) : Con (d + 2) m_MM_init 34 63078 [.ref 78] (KM1 B) (PV K) := by
  refine KM_c78 (d := d + 1) hB ?_
  have hF := KM_Fm hB
  have hl := KM_len hB
  have f2 := KMe_f hB
  have e8 := KMe_88 B
  refine k_MM_init_380 (d := d + 1) hF ?_
  refine sm_first (p := 0) hF (by decide) ⟨hF.fwi.fwi.fwi.fwi, ?_⟩
  refine sm_first (p := 4) hF.fwi.fwi.fwi.fwi (by decide) ⟨hF.fwi.fwi.fwi.fwi.fwi.fwi.fwi.fwi, ?_⟩
  refine sm_first (p := 8) hF.fwi.fwi.fwi.fwi.fwi.fwi.fwi.fwi (by decide) ⟨hF.fwi.fwi.fwi.fwi.fwi.fwi.fwi.fwi.fwi.fwi.fwi.fwi, rfl, ?_⟩
  show K (KMe B)
  exact H _ (hx.fr (by decide) (f2.X rfl rfl) (f2.fx hx.1)) (MA_s0 hl (show Fm (KMe B) from hF.fwi.fwi.fwi.fwi.fwi.fwi.fwi.fwi.fwi.fwi.fwi.fwi.fwi.fwi) (KMe_g B) e8.1 e8.2.1 e8.2.2 (KMe_87 B)) hl f2.2.1
