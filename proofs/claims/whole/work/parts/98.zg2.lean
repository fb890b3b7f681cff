/-! x's constructor to its end: the state at the start -/
def s0 : St := (0, 6, fun _ => 0, fun _ => 0, fun _ => 0, fun _ => 0, fun _ _ => 0, [], [], [(near0, worth0)], 0, [], none, [], none, fun _ => -1, fun _ => 0, fun _ _ => 0)
theorem wf_s0 : WF s0 := by
  refine ⟨by decide, by decide, fun t => Nat.zero_le _, ⟨fun t h => absurd h (Nat.not_lt_zero t), fun a b => ⟨Nat.zero_le _, rfl, rfl, fun _ => rfl⟩, Nat.zero_le _, fun q h => by cases h⟩, ⟨Nat.zero_le _, fun b h => by cases h⟩, ⟨by decide, by decide, by decide, fun q h => ?_⟩, ⟨Nat.zero_le _, fun q h => by cases h⟩, fun l h => (by cases h), ⟨Nat.zero_le _, fun v h => by cases h⟩, fun g h => (by cases h), fun s h => ⟨Or.inl rfl, Nat.zero_le _⟩⟩
  obtain rfl : q = (near0, worth0) := List.mem_singleton.mp h
  exact ⟨by decide +kernel, by decide +kernel, by decide +kernel⟩
theorem Con.lenR {d : Nat} {y : Mth} {mc ms : Nat} {as : List Value} {M : Mem} {K : Option Nat → Mem → Prop} (h : Con d y mc ms as M (PR fun r M2 => (sh M2).length ≤ (sh M).length + mc → K r M2)) : Con d y mc ms as M (PR K) := (Con.len h).imp (fun _ _ ⟨l, r, e, k⟩ => ⟨r, e, k l⟩)
theorem lt6 {a : Nat} (h : a < 6) : a = 0 ∨ a = 1 ∨ a = 2 ∨ a = 3 ∨ a = 4 ∨ a = 5 := by omega
theorem lt4 {a : Nat} (h : a < 4) : a = 0 ∨ a = 1 ∨ a = 2 ∨ a = 3 := by omega
section
set_option maxRecDepth 100000
theorem KX_land (B : Mem) : mi (KX143 B) 1 8 = nI 0 ∧ mi (KX143 B) 1 9 = nI 6 ∧ mi (KX143 B) 1 10 = nI 0 ∧ mi (KX143 B) 1 11 = nI 0 := ⟨rfl, rfl, rfl, rfl⟩
theorem KX_rds (B : Mem) : ∀ a b, a < 6 → mi (KX143 B) (7 + a) b = 0 := by
  intro a b h
  rcases lt6 h with rfl | rfl | rfl | rfl | rfl | rfl <;> rfl
theorem KX_kept (B : Mem) : mi (KX143 B) 0 2 = 0 ∧ mi (KX143 B) 22 8 = 0 ∧ ∀ a b, a < 6 → b < 6 → mi (KX143 B) (28 + a) b = 0 := by
  refine ⟨rfl, rfl, fun a b h _ => ?_⟩
  rcases lt6 h with rfl | rfl | rfl | rfl | rfl | rfl <;> rfl
theorem KX_few (B : Mem) : mi (KX143 B) 43 1 = nI 0 ∧ mi (KX143 B) 46 2 = nI 0 ∧ mi (KX143 B) 0 6 = nI 0 ∧ mi (KX143 B) 53 4 = nI 0 ∧ mi (KX143 B) 63 3 = nI 0 := ⟨rfl, rfl, rfl, rfl, rfl⟩
theorem KX_sheet (B : Mem) : ∀ s, s < 4 → mi (KX143 B) (67 + 2 * s) 1 = -1 ∧ mi (KX143 B) (67 + 2 * s) 2 = 0 ∧ ∀ i, i < 40 → mi (KX143 B) (68 + 2 * s) i = 0 := by
  intro s h
  rcases lt4 h with rfl | rfl | rfl | rfl <;> exact ⟨rfl, rfl, fun _ _ => rfl⟩
end
/-- the state's rows out of the rows behind the trace -/
theorem XA_s0 {B M : Mem} (hl : (sh (KX143 B)).length = 75) (hF : Fx M) (f : FrG [43, 44, 45, 46] [47] (KX143 B) M) (h1 : mi M 43 1 = nI 0) (h2 : XText s0 M) : XA s0 M := by
  have n : ∀ j, j < 75 → j ≠ 43 → j ≠ 44 → j ≠ 45 → j ≠ 46 → mi M j = mi (KX143 B) j := fun j a b c d e => f.row (by omega) (by simp; omega)
  have hL := KX_land B
  have hKe := KX_kept B
  have hf := KX_few B
  refine ⟨hF, ⟨?_, ?_, ?_, ?_, fun t h => absurd h (Nat.not_lt_zero t), fun a b ha hb => ?_, fun a b h => absurd h (Nat.not_lt_zero a), fun i w d h => by cases h⟩, ⟨?_, ?_, fun a b ha hb => ?_⟩, ⟨h1, fun i b h => by cases h⟩, h2, ⟨?_, fun g k ns h => by cases h⟩, ⟨?_, fun t v h => by cases h⟩, ⟨?_, fun t v h => by cases h⟩, fun s h => ?_⟩
  · rw [n 1 (by decide) (by decide) (by decide) (by decide) (by decide)]; exact hL.1
  · rw [n 1 (by decide) (by decide) (by decide) (by decide) (by decide)]; exact hL.2.1
  · rw [n 1 (by decide) (by decide) (by decide) (by decide) (by decide)]; exact hL.2.2.1
  · rw [n 1 (by decide) (by decide) (by decide) (by decide) (by decide)]; exact hL.2.2.2
  · rw [n (7 + a) (by omega) (by omega) (by omega) (by omega) (by omega)]; exact KX_rds B a b ha
  · rw [n 0 (by decide) (by decide) (by decide) (by decide) (by decide)]; exact hKe.1
  · rw [n 22 (by decide) (by decide) (by decide) (by decide) (by decide)]; exact hKe.2.1
  · rw [n (28 + a) (by omega) (by omega) (by omega) (by omega) (by omega)]; exact hKe.2.2 a b ha hb
  · rw [n 0 (by decide) (by decide) (by decide) (by decide) (by decide)]; exact hf.2.2.1
  · rw [n 53 (by decide) (by decide) (by decide) (by decide) (by decide)]; exact hf.2.2.2.1
  · rw [n 63 (by decide) (by decide) (by decide) (by decide) (by decide)]; exact hf.2.2.2.2
  · obtain ⟨e1, e2, e3⟩ := KX_sheet B s h
    rw [n (67 + 2 * s) (by omega) (by omega) (by omega) (by omega) (by omega), n (68 + 2 * s) (by omega) (by omega) (by omega) (by omega) (by omega)]
    exact ⟨e1, e2, e3⟩
theorem t0_byt (k : Nat) : byt tape0 k = tape0.getD k 0 := rfl
theorem t0_len : tape0.length = 50 := rfl
theorem t0_256 : ∀ b ∈ tape0, b < 256 := by decide
/-- behind the loop over the first TEXT -/
theorem mdEnd {d : Nat} {B M : Mem} {K : Mem → Prop} (hl : (sh (KX143 B)).length = 75) (hF : Fx M) (hf : FrG [43, 44] [] (KX143 B) M) (ht : TpA 43 1 44 tape0 M) (hm : (sh M).length = 75) (H : ∀ M2, XA s0 M2 → (sh M2).length = 78 → sc M2 = sc B → K M2) (hsc : sc (KX143 B) = sc B) :
    Con (d + 46) m_Tape_readRule 3 330 [.ref 43] M (PR fun r2 M2 => Fx M2 ∧ (r2 = none → Con (d + 46) m_Law_learn 0 0 [.ref 46, .null] M2 (PV fun M3 => Fx M3 ∧ PV K none M3)) ∧ (∀ a3 : Nat, r2 = some a3 → Con (d + 46) m_Law_learn 0 0 [.ref 46, .ref a3] M2 (PV fun M4 => Fx M4 ∧ PV K none M4))) := by
  have t0 : TBx tape0 M := ⟨ht.1, fun i hi => ht.2 i _ (byt_at hi)⟩
  refine Con.lenR (sx_readRule hF t0 (byt_256 t0_256) (by decide) (.inl hm) (by rw [hm]; decide) (fun f M1 e => ?_) (fun O1 O2 hh a b M1 e hF1 f1 a1 a2 l1 a3 a4 a5 a6 a7 q => ⟨hF1, (fun z => nomatch z), fun p ep => ?_⟩))
  · rw [txt_0] at e; cases e
  · rw [txt_0] at e
    cases e
    cases ep
    have l2 : (sh M1).length ≤ 78 := by rw [hm] at q; exact q
    have l3 := f1.len
    obtain rfl : hh = 75 := by omega
    have e46 : mi M1 46 2 = nI 0 := by
      rw [f1.row (j := 46) (by omega) (by decide), hf.row (j := 46) (by omega) (by decide)]
      exact (KX_few B).2.1
    have hF2 : Fx (wr M1 47 0 (some 75)) := hF1.fwr _ (by
      intro l hl2 q2
      cases hl2
      rw [List.getElem?_eq_none_iff.mpr (Nat.zero_le _)]
      exact fun z => by cases z)
    refine Con.of (lo := [some (.ref 46), some (.ref 75)]) F_Law_learn.1 rfl (Nat.le_of_ble_eq_true rfl) (k_Law_learn_0 hF1 ?_)
    rw [e46, nI_clamp (by omega), nI_add]
    refine ⟨fun z => absurd z (by decide), fun _ => ⟨vN (by omega) (by decide), a3, hF2, rfl, hF2.fwi, rfl, H _ ?_ (by show (sh M1).length = 78; omega) ?_⟩⟩
    · have f2 : FrG [43, 44, 45, 46] [47] (KX143 B) M1 := (hf.wk (by simp) (by simp)).tr (f1.wk (by simp) (by simp))
      refine XA_s0 hl hF2.fwi ((f2.fwr (by simp)).fwi (by simp)) (by rw [mi_n (by decide)]; exact a1) ⟨by rw [wi_e]; rfl, fun i n w hi => ?_⟩
      have hi0 : i = 0 ∧ (near0, worth0) = (n, w) := by
        cases i with
        | zero => exact ⟨rfl, Option.some.inj hi⟩
        | succ i => exact absurd hi (by simp [oTx, s0])
      obtain ⟨rfl, e9⟩ := hi0
      cases e9
      have emr : ∀ j, j ≠ 47 → mr (wi (wr M1 47 0 (some 75)) 46 2 (nI (0 + 1))) j = mr M1 j := fun j hj => u2_n hj
      have emi : ∀ j, j ≠ 46 → mi (wi (wr M1 47 0 (some 75)) 46 2 (nI (0 + 1))) j = mi M1 j := fun j hj => mi_n hj
      have cat : ∀ {p : Nat} {l : List Int32}, CodeAt M1 p l → CodeAt (wi (wr M1 47 0 (some 75)) 46 2 (nI (0 + 1))) p l := fun {p l} hc => ⟨hc.1, hc.2.1, fun k c hk => by rw [emi p (by have := hc.1; omega)]; exact hc.2.2 k c hk⟩
      refine ⟨75, a, b, ?_, .inl rfl, a3, by rw [emr 75 (by omega)]; exact a4, by rw [emr 75 (by omega)]; exact a5, cat a6, cat a7⟩
      show u2 (mr M1) 47 0 (some 75) 47 0 = _
      rw [u2_s, u1_s]
    · show sc M1 = sc B
      rw [f1.2.1, hf.2.1, hsc]
theorem mdLoop {d : Nat} {B : Mem} {K : Mem → Prop} (hl : (sh (KX143 B)).length = 75) (H : ∀ M2, XA s0 M2 → (sh M2).length = 78 → sc M2 = sc B → K M2) (hsc : sc (KX143 B) = sc B) : ∀ (m k : Nat) (M : Mem), k + m = 50 → Fx M → FrG [43, 44] [] (KX143 B) M → TpA 43 1 44 (tape0.take k) M → (sh M).length = 75 → Ex (d + 47) m_MD_init 3 330 164 [some (.ref 0), some (.int (nI k))] [] M (PV K) := by
  intro m
  induction m with
  | zero =>
    intro k M hk hF hf ht hm
    obtain rfl : k = 50 := by omega
    refine k_MD_init_164 hF ⟨⟨Nat.le_refl _, by decide⟩, sp_length (d := d + 44) (i := 0) (by decide) ⟨hF, fun _ => ⟨⟨Nat.le_refl _, Nat.le_refl _⟩, mdEnd hl hF hf ht hm H hsc⟩, fun q => absurd (show nI (sLen.getD 0 0) ≤ nI 50 by decide) q⟩⟩
  | succ m ih =>
    intro k M hk hF hf ht hm
    have e0 := sby_0.2.2 k (by omega)
    have hlk : (tape0.take k).length = k := by rw [List.length_take, t0_len]; omega
    have hks : tape0.take k ++ [tape0.getD k 0] = tape0.take (k + 1) := by
      rw [List.take_succ, List.getD_eq_getElem?_getD, List.getElem?_eq_getElem (by rw [t0_len]; omega)]; rfl
    refine k_MD_init_164 hF ⟨⟨Nat.le_refl _, by decide⟩, sp_length (d := d + 44) (i := 0) (by decide) ⟨hF, fun q => absurd q ?_, fun _ => ⟨⟨Nat.le_refl _, by decide⟩, sp_charAt (d := d + 42) (i := 0) (k := k) (by decide) (by rw [sby_0.2.1]; omega) ⟨hF, ?_⟩⟩⟩⟩
    · rw [sby_0.2.1, nI_leI (by omega) (by omega)]; omega
    · rw [e0]
      refine sx_put (d := d + 45) hF ht (by rw [hlk]; omega) ⟨hF.fwi.fwi, ?_⟩
      rw [nI_add]
      refine ih (k + 1) _ (by omega) hF.fwi.fwi ((hf.fwi (by simp)).fwi (by simp)) ?_ hm
      have := ht.push (b := tape0.getD k 0) (by decide)
      rwa [hks] at this
theorem MD_new {d : Nat} {B : Mem} {K : Mem → Prop} (hB : (sh B).length = 0) (hsc : sc (KX143 B) = sc B) (H : ∀ M2, XA s0 M2 → (sh M2).length = 78 → sc M2 = sc B → K M2) : Con (d + 47) m_MD_init 77 3451 [.ref 0] (KX1 B) (PV K) := by
  refine KX_c0 hB ?_
  refine ex_iconst (pc := 162) (k := 0) (v := nI 0) (by decide +kernel) (by decide) ?_
  refine ex_istore_n (pc := 163) (k := 1) (lo2 := [some (.ref 0), some (.int (nI 0))]) (by decide +kernel) (by decide) rfl ?_
  exact mdLoop (KX_len hB) H hsc 50 0 _ (by omega) (KX_Fx hB) (FrG.rf _ _) ⟨(KX_few B).1, fun i b h => by cases h⟩ (KX_len hB)
