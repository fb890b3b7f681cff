/-! TEXT: m's tokens -/
theorem b64 : ∀ b, b < 256 → (nI b).toInt64 = Int64.ofNat b := by decide +kernel
theorem pk64 {w b : Nat} (hw : w < 2 ^ 40) (hb : b < 256) : (Int64.ofNat w <<< ((nI 8).toInt64 &&& 63)) ||| (nI b).toInt64 = Int64.ofNat (256 * w + b) := by
  rw [b64 b hb, show (nI 8).toInt64 &&& 63 = 8 from by decide]
  apply Int64.toBitVec_inj.mp
  rw [Int64.toBitVec_or, Int64.toBitVec_shiftLeft]
  apply BitVec.eq_of_toNat_eq
  rw [BitVec.toNat_or]
  have e1 : (Int64.ofNat w).toBitVec = BitVec.ofNat 64 w := rfl
  have e2 : (Int64.ofNat b).toBitVec = BitVec.ofNat 64 b := rfl
  have e3 : (Int64.ofNat (256 * w + b)).toBitVec = BitVec.ofNat 64 (256 * w + b) := rfl
  have e4 : ((8 : Int64).toBitVec.smod (64 : BitVec 64)) = BitVec.ofNat 64 8 := by decide
  have e5 : ∀ x : BitVec 64, (x <<< (BitVec.ofNat 64 8)).toNat = x.toNat <<< 8 % 2 ^ 64 := fun x => rfl
  rw [e1, e2, e3]
  show ((BitVec.ofNat 64 w) <<< ((8 : Int64).toBitVec.smod (64 : BitVec 64))).toNat ||| _ = _
  rw [e4, e5, BitVec.toNat_ofNat, BitVec.toNat_ofNat, BitVec.toNat_ofNat, Nat.mod_eq_of_lt (a := w) (by omega), Nat.mod_eq_of_lt (a := b) (by omega), Nat.shiftLeft_eq, Nat.mod_eq_of_lt (a := w * 2 ^ 8) (by omega), Nat.mod_eq_of_lt (a := 256 * w + b) (by omega), ← Nat.shiftLeft_eq, ← Nat.shiftLeft_add_eq_or_of_lt (show b < 2 ^ 8 by omega), Nat.shiftLeft_eq]
  omega
theorem o64 {a b : Nat} (ha : a < 2 ^ 63) (hb : b < 2 ^ 63) (h : Int64.ofNat a = Int64.ofNat b) : a = b := by
  have e : (Int64.ofNat a).toBitVec = (Int64.ofNat b).toBitVec := by rw [h]
  have e1 : (BitVec.ofNat 64 a).toNat = (BitVec.ofNat 64 b).toNat := congrArg BitVec.toNat e
  rw [BitVec.toNat_ofNat, BitVec.toNat_ofNat, Nat.mod_eq_of_lt (by omega), Nat.mod_eq_of_lt (by omega)] at e1
  exact e1
theorem lg_0 {x y : Int64} : lg_cmp x y = 0 ↔ x = y := by
  unfold lg_cmp
  by_cases q : x > y
  · rw [if_pos q]
    exact ⟨fun z => absurd z (by decide), fun z => absurd q (by rw [z]; exact Int64.lt_irrefl)⟩
  · rw [if_neg q]
    by_cases q2 : x = y
    · rw [if_pos q2]; exact ⟨fun _ => q2, fun _ => rfl⟩
    · rw [if_neg q2]; exact ⟨fun z => absurd z (by decide), fun z => absurd z q2⟩
theorem wq : ∀ k, k < 11 → wordsT[k]? = some (Int64.ofNat (pkR (wordL.getD k []).reverse)) ∧ wordL[k]? = some (wordL.getD k []) ∧ (wordL.getD k []).length ≤ 5 ∧ (∀ b ∈ wordL.getD k [], 97 ≤ b ∧ b ≤ 122) ∧ 0 < pkR (wordL.getD k []).reverse ∧ pkR (wordL.getD k []).reverse < 2 ^ 40 := by decide +kernel
theorem pkR_lt : ∀ (l : List Nat), (∀ b ∈ l, b < 256) → pkR l < 256 ^ l.length
  | [], _ => Nat.zero_lt_one
  | b :: r, h => by
    have h1 := pkR_lt r (fun x hx => h x (List.mem_cons_of_mem _ hx))
    have h2 := h b List.mem_cons_self
    show 256 * pkR r + b < 256 ^ (r.length + 1)
    rw [Nat.pow_succ]; omega
/-- the tape as m has it -/
def TBm (tp : List Nat) (M : Mem) : Prop := mi M 78 11 = nI tp.length ∧ ∀ i, i < tp.length → mi M 86 i = nI (byt tp i)
def WDm (M : Mem) : Prop := ∀ k w, wordsT[k]? = some w → ml M 104 k = w
def FNm (M0 M : Mem) : Prop := FrG [78] [] M0 M ∧ ∀ k, ¬ (40 ≤ k ∧ k ≤ 43) → mi M 78 k = mi M0 78 k
theorem FNm.rf (M : Mem) : FNm M M := ⟨FrG.rf _ _, fun _ _ => rfl⟩
theorem FNm.w {M0 M : Mem} {k : Nat} {v : Int32} (h : FNm M0 M) (hk : 40 ≤ k ∧ k ≤ 43) : FNm M0 (wi M 78 k v) := ⟨h.1.fwi (by simp), fun j hj => by rw [wi_f (by omega)]; exact h.2 j hj⟩
theorem FNm.tb {tp : List Nat} {M0 M : Mem} (h : FNm M0 M) (hF : Fm M0) (t : TBm tp M0) : TBm tp M := ⟨by rw [h.2 11 (by omega)]; exact t.1, fun i hi => by rw [h.1.row (by have := hF.len; omega) (by decide)]; exact t.2 i hi⟩
theorem FNm.wd {M0 M : Mem} (h : FNm M0 M) (hF : Fm M0) (t : WDm M0) : WDm M := fun k w q => by rw [h.1.lrow (by have := hF.len; omega)]; exact t k w q
theorem FNm.tr {M0 M M2 : Mem} (h : FNm M0 M) (g : FNm M M2) : FNm M0 M2 := ⟨h.1.tr g.1, fun k hk => (g.2 k hk).trans (h.2 k hk)⟩
section TOM
variable {d bc bs : Nat} {tp : List Nat} {M0 : Mem}
theorem isLt_B {b : Nat} (h : b < 256) : isB (nI 97).toInt (nI 122).toInt (nI b) = isLt b := by
  rw [isB_i (by omega)]
  unfold isLt
  refine decide_eq_decide.mpr ?_
  rw [show (nI 97).toInt = 97 from rfl, show (nI 122).toInt = 122 from rfl]; omega
theorem isDg_B {b : Nat} (h : b < 256) : isB (nI 48).toInt (nI 57).toInt (nI b) = isDg b := by
  rw [isB_i (by omega)]
  unfold isDg
  refine decide_eq_decide.mpr ?_
  rw [show (nI 48).toInt = 48 from rfl, show (nI 57).toInt = 57 from rfl]; omega
/-- a word, packed -/
def pkI (tp : List Nat) (s c : Nat) : Int64 := if c ≤ 5 then Int64.ofNat (pkW tp s c) else 0
theorem let4 {K : Int64 → Mem → Prop} {s : Nat} (h160 : tp.length ≤ 160) (hb : ∀ i, byt tp i < 256) (hF0 : Fm M0) (ht : TBm tp M0) (H : ∀ M2, FNm M0 M2 → mi M2 78 40 = nI (rnE isLt tp s) → (∀ k, k ≠ 40 → mi M2 78 k = mi M0 78 k) → K (pkI tp s (rnE isLt tp s - s)) M2) :
    ∀ (n c : Nat) (w : Int64) (M : Mem), s + c + n = tp.length → (∀ i, i < c → isLt (byt tp (s + i)) = true) → (c ≤ 5 → w = Int64.ofNat (pkW tp s c)) → FNm M0 M → mi M 78 40 = nI (s + c) → (∀ k, k ≠ 40 → mi M 78 k = mi M0 78 k) → rnE isLt tp s = rnE isLt tp (s + c) → Ex (d + 2) m_MM_letters bc bs 4 [some (.ref 78), some (.long w), none, some (.int (nI c))] [] M (PL K) := by
  intro n
  induction n with
  | zero =>
    intro c w M hc hl hw hf ha hk hr
    have hF := hf.1.fm hF0 (by simp)
    have t := hf.tb hF0 ht
    have er : rnE isLt tp s = s + c := by rw [hr]; exact rnE_n (by omega)
    have fin : Ex (d + 2) m_MM_letters bc bs 76 [some (.ref 78), some (.long w), none, some (.int (nI c))] [] M (PL K) := by
      have H := H M hf (by rw [er]; exact ha) hk
      rw [er, Nat.add_sub_cancel_left] at H
      unfold pkI at H
      refine k_MM_letters_76 hF ⟨fun q => ?_, fun q => ?_⟩ <;> rw [nI_leI (by omega) (by omega)] at q
      · rw [if_pos q] at H; exact PL.mk (hw q) H
      · rw [if_neg q] at H; exact PL.mk rfl H
    refine k_MM_letters_4 hF ?_
    rw [t.1, ha]
    exact ⟨fun _ => fin, fun q => absurd (nI_le (by omega) (by omega)) q⟩
  | succ n ih =>
    intro c w M hc hl hw hf ha hk hr
    have hF := hf.1.fm hF0 (by simp)
    have t := hf.tb hF0 ht
    have fin : isLt (byt tp (s + c)) = false → Ex (d + 2) m_MM_letters bc bs 76 [some (.ref 78), some (.long w), none, some (.int (nI c))] [] M (PL K) := fun q0 => by
      have er : rnE isLt tp s = s + c := by rw [hr]; exact rnE_n (fun z => by rw [q0] at z; exact absurd z.2 (by decide))
      have H := H M hf (by rw [er]; exact ha) hk
      rw [er, Nat.add_sub_cancel_left] at H
      unfold pkI at H
      refine k_MM_letters_76 hF ⟨fun q => ?_, fun q => ?_⟩ <;> rw [nI_leI (by omega) (by omega)] at q
      · rw [if_pos q] at H; exact PL.mk (hw q) H
      · rw [if_neg q] at H; exact PL.mk rfl H
    refine k_MM_letters_4 hF ?_
    rw [t.1, ha, nI_clamp (by omega), t.2 (s + c) (by omega)]
    refine ⟨fun q => absurd q (by rw [nI_leI (by omega) (by omega)]; omega), fun _ => ⟨vN (by omega) (by decide), sm_in hF ?_⟩⟩
    rw [isLt_B (hb _)]
    refine ⟨hF, fun q => fin q, fun q => ?_⟩
    rw [ha, nI_add, nI_add, nI_clamp (by omega), t.2 (s + c) (by omega)]
    have nx : ∀ w2 : Int64, (c + 1 ≤ 5 → w2 = Int64.ofNat (pkW tp s (c + 1))) → Ex (d + 2) m_MM_letters bc bs 4 [some (.ref 78), some (.long w2), none, some (.int (nI (c + 1)))] [] (wi M 78 40 (nI (s + c + 1))) (PL K) := fun w2 hw2 => by
      refine ih (c + 1) w2 _ (by omega) (fun i hi => ?_) hw2 (hf.w (by omega)) wi_e (fun k hk2 => by rw [wi_f hk2]; exact hk k hk2) (by rw [hr]; exact rnE_y (by omega) q)
      by_cases y : i = c
      · rw [y]; exact q
      · exact hl i (by omega)
    refine ⟨fun z => nx w (fun y => ?_), fun z => ⟨vN (by omega) (by decide), nx _ (fun y => ?_)⟩⟩
    · rw [nI_leI (by omega) (by omega)] at z; omega
    · have hp : pkW tp s c < 2 ^ 40 := by
        rw [pkW_R]
        have h1 := pkR_lt (wdN tp s c).reverse (fun b hb2 => by
          rw [List.mem_reverse] at hb2
          unfold wdN at hb2
          obtain ⟨i, -, rfl⟩ := List.mem_map.mp hb2
          exact hb _)
        rw [List.length_reverse, wdN_l] at h1
        have h2 : 256 ^ c ≤ 256 ^ 5 := Nat.pow_le_pow_right (by decide) (by omega)
        have h3 : (256 : Nat) ^ 5 = 2 ^ 40 := by decide
        omega
      rw [hw (by omega), pk64 hp (hb _)]
      rfl
theorem sm_letters {K : Int64 → Mem → Prop} {s : Nat} {M : Mem} (h160 : tp.length ≤ 160) (hb : ∀ i, byt tp i < 256) (hF0 : Fm M) (ht : TBm tp M) (hs : s ≤ tp.length) (ha : mi M 78 40 = nI s) (H : ∀ M2, FNm M M2 → mi M2 78 40 = nI (rnE isLt tp s) → (∀ k, k ≠ 40 → mi M2 78 k = mi M 78 k) → K (pkI tp s (rnE isLt tp s - s)) M2) : Con (d + 2) m_MM_letters 0 0 [.ref 78] M (PL K) :=
  Con.ent (k := 3) F_MM_letters.1 rfl (Nat.le_of_ble_eq_true rfl) (k_MM_letters_0 hF0 (let4 h160 hb hF0 ht H (tp.length - s) 0 0 M (by omega) (fun i hi => absurd hi (Nat.not_lt_zero _)) (fun _ => rfl) (FNm.rf M) ha (fun _ _ => rfl) rfl))
/-- the words of the table, as they are packed -/
theorem wq_iff {s k : Nat} (hb : ∀ i, byt tp i < 256) (hs : s ≤ tp.length) (hk : k < 11) : wordsT[k]? = some (pkI tp s (rnE isLt tp s - s)) ↔ wordL[k]? = some (wdN tp s (rnE isLt tp s - s)) := by
  obtain ⟨w1, w2, w3, w4, w5, w6⟩ := wq k hk
  have hin : ∀ b ∈ wdN tp s (rnE isLt tp s - s), 97 ≤ b ∧ b ≤ 122 := fun b hb2 => by
    unfold wdN at hb2
    obtain ⟨i, hi, rfl⟩ := List.mem_map.mp hb2
    rw [List.mem_range] at hi
    have := rnE_in (q := isLt) (tp := tp) (i := s + i) (tp.length - s) s (by omega) (by omega) (by omega)
    unfold isLt at this
    rw [decide_eq_true_eq] at this
    exact this
  rw [w1, w2]
  unfold pkI
  by_cases q : rnE isLt tp s - s ≤ 5
  · rw [if_pos q, pkW_R]
    have hp : pkR (wdN tp s (rnE isLt tp s - s)).reverse < 2 ^ 40 := by
      have h1 := pkR_lt (wdN tp s (rnE isLt tp s - s)).reverse (fun b hb2 => by
        rw [List.mem_reverse] at hb2
        have := hin b hb2; omega)
      rw [List.length_reverse, wdN_l] at h1
      have h2 : 256 ^ (rnE isLt tp s - s) ≤ 256 ^ 5 := Nat.pow_le_pow_right (by decide) q
      have h3 : (256 : Nat) ^ 5 = 2 ^ 40 := by decide
      omega
    constructor
    · intro e
      injection e with e
      have := o64 (by omega) (by omega) e
      have := pkR_inj _ _ (fun b hb2 => by rw [List.mem_reverse] at hb2; have := w4 b hb2; omega) (fun b hb2 => by rw [List.mem_reverse] at hb2; have := hin b hb2; omega) this
      rw [List.reverse_inj] at this
      rw [this]
    · intro e
      injection e with e
      rw [e]
  · rw [if_neg q]
    constructor
    · intro e
      injection e with e
      have := o64 (b := 0) (by omega) (by decide) e
      omega
    · intro e
      injection e with e
      rw [e, wdN_l] at w3
      omega
end TOM
