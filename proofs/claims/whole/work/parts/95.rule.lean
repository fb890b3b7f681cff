/-! text: x's side -/
theorem sx_copyRange {d a f t N : Nat} {M : Mem} {K : Option Nat → Mem → Prop} (hF : Fx M) (ha : (sh M)[a]? = some (100, N)) (hft : f ≤ t) (htN : t ≤ N) (h0 : f = 0 → t ≠ N) (hN : N ≤ 160) (hl : (sh M).length < 1048576) (h : ∀ g : Nat → Int32, (∀ q, q < t - f → g q = mi M a (f + q)) → K (some (sh M).length) (wrow (nw M 100 (t - f)) (sh M).length g)) : Con (d + 3) m_Arrays_copyOfRange 1 160 [.ref a, .int (nI f), .int (nI t)] M (PR K) := by
  have hal := (List.getElem?_eq_some_iff.mp ha).1
  have e0 : nI f = 0 ↔ f = 0 := nI_eq (by omega) (show 0 < 2 ^ 31 by decide)
  have e10 : Ex (d + 3) m_Arrays_copyOfRange 1 160 10 [some (.ref a), some (.int (nI f)), some (.int (nI t))] [] M (PR K) := by
    refine k_Arrays_copyOfRange_10 hF ⟨⟨Nat.le_refl _, Nat.le_refl _⟩, ?_⟩
    refine Con.ent (k := 2) F_Arrays_copyOfRangeInt.1 rfl (Nat.le_of_ble_eq_true rfl) (k_Arrays_copyOfRangeInt_0 hF ?_)
    refine Con.of (lo := [some (.int (nI f)), some (.int (nI t))]) F_Arrays_checkLength.1 rfl (Nat.le_of_ble_eq_true rfl) (k_Arrays_checkLength_0 hF ⟨fun _ => ⟨rfl, hF, ?_⟩, fun q => q (nI_le hft (by omega))⟩)
    have eif : (if nI (t - f) < nI N - nI f then nI (t - f) else nI N - nI f) = nI (t - f) := by
      rw [pk_sub (by omega)]
      by_cases q : nI (t - f) < nI (N - f)
      · rw [if_pos q]
      · rw [if_neg q]
        rw [nI_ltI (by omega) (by omega)] at q
        congr 1
        omega
    rw [pk_sub hft, nI_clamp (show t - f < 2 ^ 31 by omega)]
    refine ⟨nI_pos (by omega), by omega, ⟨Nat.le_refl _, by omega⟩, hl, N, sh_nw_o ha, N, t - f, sh_nw_o ha, sh_nw_n, nI_pos (by omega), nI_pos (by decide), ?_⟩
    rw [eif, nI_clamp (show t - f < 2 ^ 31 by omega), nI_clamp (n := 0) (by decide), nI_clamp (show f < 2 ^ 31 by omega)]
    refine ⟨nI_pos (by omega), by omega, by omega, PR.mk rfl ⟨(hF.fnw 100 (t - f)).fwrow, (fun z => nomatch z), fun a2 ea => ?_⟩⟩
    cases ea
    refine PR.mk rfl (h _ (fun q hq => ?_))
    rw [pk_cpy_in (by omega) (by omega), mi_nn hal, Nat.sub_zero]
  refine Con.of (lo := [some (.ref a), some (.int (nI f)), some (.int (nI t))]) F_Arrays_copyOfRange.1 rfl (Nat.le_of_ble_eq_true rfl) (k_Arrays_copyOfRange_0 hF ⟨fun _ => e10, fun q => ⟨N, ha, fun z => ?_, fun _ => e10⟩⟩)
  rw [nI_eq (by omega) (by omega)] at z
  exact h0 (e0.mp q) z
section RUL
variable {d bc bs : Nat} {tp : List Nat} {M0 : Mem}
def C7 (d bc bs : Nat) (l1 : Int32) (Φ : Option Value → Mem → Prop) (M7 : Mem) : Prop := ((mi M7 43 5) = (nI 256) → Ex (d + 1) m_Tape_readRule bc bs 77 [some (.ref 43), some (.int l1)] [] M7 Φ) ∧ (¬ (mi M7 43 5) = (nI 256) → Con d m_Tape_fail 0 0 [.ref 43] M7 (PV fun M8 => Fx M8 ∧ Ex (d + 1) m_Tape_readRule bc bs 77 [some (.ref 43), some (.int l1)] [] M8 Φ))
def C6 (d bc bs : Nat) (l1 : Int32) (Φ : Option Value → Mem → Prop) (M6 : Mem) : Prop := Con d m_Tape_expect 0 0 [.ref 43, .int (nI 59)] M6 (PV fun M7 => Fx M7 ∧ C7 d bc bs l1 Φ M7)
def C5 (d bc bs : Nat) (l1 : Int32) (Φ : Option Value → Mem → Prop) (M5 : Mem) : Prop := Con d m_Tape_readEither 0 0 [.ref 43] M5 (PV fun M6 => Fx M6 ∧ C6 d bc bs l1 Φ M6)
def C4 (d bc bs : Nat) (l1 : Int32) (Φ : Option Value → Mem → Prop) (M4 : Mem) : Prop := Con d m_Tape_expect 0 0 [.ref 43, .int (nI 260)] M4 (PV fun M5 => Fx M5 ∧ C5 d bc bs l1 Φ M5)
def C3 (d bc bs : Nat) (Φ : Option Value → Mem → Prop) (M3 : Mem) : Prop := Con d m_Tape_expect 0 0 [.ref 43, .int (nI 59)] M3 (PV fun M4 => Fx M4 ∧ C4 d bc bs (mi M4 43 9) Φ M4)
def C2 (d bc bs : Nat) (Φ : Option Value → Mem → Prop) (M2 : Mem) : Prop := Con d m_Tape_readEither 0 0 [.ref 43] M2 (PV fun M3 => Fx M3 ∧ C3 d bc bs Φ M3)
theorem fl7 {f : Nat} {l1 : Int32} {M : Mem} {K : Option Nat → Mem → Prop} (hF0 : Fx M0) (hx : XF f M0 M) (HN : ∀ M2, FrG [43, 45] [] M0 M2 → mi M2 43 2 = nI f → mi M2 43 1 = nI 0 → K none M2) : C7 (d + 45) bc bs l1 (PR K) M := by
  have e77 : ∀ M2, XF f M0 M2 → Ex (d + 46) m_Tape_readRule bc bs 77 [some (.ref 43), some (.int l1)] [] M2 (PR K) := fun M2 x2 => by
    refine k_Tape_readRule_77 (x2.1.1.fx hF0) ⟨fun q => absurd q ?_, fun _ => PR.mk rfl (HN _ (x2.1.1.fwi (by simp)) ?_ wi_e)⟩
    · have := x2.2.2.1
      rw [x2.2.1, i_eq, nI_T (by omega)]
      have : (-1 : Int32).toInt = -1 := rfl
      omega
    · rw [wi_f (by decide)]; exact x2.2.1
  unfold C7
  rw [hx.2.2.2.1]
  exact ⟨fun q => absurd q (by decide), fun _ => sx_failB hF0 hx (fun M2 x2 => ⟨x2.1.1.fx hF0, e77 M2 x2⟩)⟩
theorem fl6 {f : Nat} {l1 : Int32} {M : Mem} {K : Option Nat → Mem → Prop} (hF0 : Fx M0) (hx : XF f M0 M) (HN : ∀ M2, FrG [43, 45] [] M0 M2 → mi M2 43 2 = nI f → mi M2 43 1 = nI 0 → K none M2) : C6 (d + 45) bc bs l1 (PR K) M := sx_expectB hF0 (by decide) hx (fun M2 x2 => ⟨x2.1.1.fx hF0, fl7 hF0 x2 HN⟩)
theorem fl5 {f : Nat} {l1 : Int32} {M : Mem} {K : Option Nat → Mem → Prop} (hF0 : Fx M0) (hx : XF f M0 M) (HN : ∀ M2, FrG [43, 45] [] M0 M2 → mi M2 43 2 = nI f → mi M2 43 1 = nI 0 → K none M2) : C5 (d + 45) bc bs l1 (PR K) M := eithB hF0 hx (fun M2 x2 => ⟨x2.1.1.fx hF0, fl6 hF0 x2 HN⟩)
theorem fl4 {f : Nat} {l1 : Int32} {M : Mem} {K : Option Nat → Mem → Prop} (hF0 : Fx M0) (hx : XF f M0 M) (HN : ∀ M2, FrG [43, 45] [] M0 M2 → mi M2 43 2 = nI f → mi M2 43 1 = nI 0 → K none M2) : C4 (d + 45) bc bs l1 (PR K) M := sx_expectB hF0 (by decide) hx (fun M2 x2 => ⟨x2.1.1.fx hF0, fl5 hF0 x2 HN⟩)
theorem fl3 {f : Nat} {M : Mem} {K : Option Nat → Mem → Prop} (hF0 : Fx M0) (hx : XF f M0 M) (HN : ∀ M2, FrG [43, 45] [] M0 M2 → mi M2 43 2 = nI f → mi M2 43 1 = nI 0 → K none M2) : C3 (d + 45) bc bs (PR K) M := sx_expectB hF0 (by decide) hx (fun M2 x2 => ⟨x2.1.1.fx hF0, fl4 hF0 x2 HN⟩)
theorem fl2 {f : Nat} {M : Mem} {K : Option Nat → Mem → Prop} (hF0 : Fx M0) (hx : XF f M0 M) (HN : ∀ M2, FrG [43, 45] [] M0 M2 → mi M2 43 2 = nI f → mi M2 43 1 = nI 0 → K none M2) : C2 (d + 45) bc bs (PR K) M := eithB hF0 hx (fun M2 x2 => ⟨x2.1.1.fx hF0, fl3 hF0 x2 HN⟩)
/-- an E whole, and its sign -/
theorem erd_end {s k v : Nat} {tl : List Tok} {mn : Bool} {S : List Nat} {W : List Int32} (hS : ∀ c ∈ S, 1 ≤ rnk c) (hst : Stq 1 ((s, k, v) :: tl) (mR ((s, k, v) :: tl) false mn (S ++ []) W)) : (k = 59 → mR ((s, k, v) :: tl) false mn (S ++ []) W = .inr (W ++ S.map nI, tl)) ∧ (¬ k = 59 → mR ((s, k, v) :: tl) false mn (S ++ []) W = .inl s) := by
  obtain ⟨u1, u2⟩ := un_app (l := 1) (H := []) S hS
  have u3 : unH 1 [] = [] := rfl
  have u4 : unO 1 [] = [] := rfl
  refine ⟨fun q => ?_, fun q => ?_⟩
  · rw [mR_n3, if_pos q, u1, u2, u3, u4, if_pos rfl, List.append_nil]
  · by_cases q99 : sgn k = 99
    · rw [mR_n3, if_neg q, u1, u3, if_pos rfl]
      by_cases q41 : k = 41
      · rw [if_pos q41]
      · rw [if_neg q41, if_pos q99]
    · exact hst s k v tl rfl q99 (sgn_rk k q99).1
end RUL
