/-! TEXT: m's next token -/
def mtk (k : Nat) : Int32 := if k = 7 then -1 else nI k
def CurM (tp : List Nat) (ts : List Tok) (M : Mem) : Prop := ∃ s k v tl, ts = (s, k, v) :: tl ∧ mi M 78 41 = nI s ∧ mi M 78 42 = mtk k ∧ (k = 1 ∨ k = 2 ∨ k = 3 → mi M 78 43 = nI v) ∧ (k ≠ 0 → ∃ q, mi M 78 40 = nI q ∧ TL tp q tl) ∧ s ≤ tp.length
theorem tw1 : ∀ k, k < 12 → nI k - nI 2 = nI (k - 2) ∨ k < 2 := by decide +kernel
theorem tw2 : ∀ k, k < 12 → nI 4 + nI k - nI 8 = nI (k - 4) ∨ k < 4 := by decide +kernel
section NXM
variable {d bc bs : Nat} {tp : List Nat} {M0 : Mem} {K : Mem → Prop} {ts : List Tok}
/-- behind the first byte of a word -/
theorem nxm136 {s k : Nat} {l1 : Int32} {l2 : Int64} {M : Mem} {tl : List Tok} (hF : Fm M) (hf : FNm M0 M) (hk : k ≤ 11) (h41 : mi M 78 41 = nI s) (h40 : ∃ q, mi M 78 40 = nI q ∧ TL tp q tl) (hs : s ≤ tp.length) (he : ts = (s, tkW k) :: tl) (H : ∀ M2, FNm M0 M2 → CurM tp ts M2 → K M2) : Ex (d + 1) m_MM_next bc bs 136 [some (.ref 78), some (.int l1), some (.long l2), none, some (.int (nI k))] [] M (PV K) := by
  have fin : ∀ a b : Int32, a = mtk (tkW k).1 → ((tkW k).1 = 1 ∨ (tkW k).1 = 2 ∨ (tkW k).1 = 3 → b = nI (tkW k).2) → PV K none (wi (wi M 78 42 a) 78 43 b) := fun a b e1 e2 => ⟨rfl, H _ ((hf.w (by omega)).w (by omega)) ⟨s, (tkW k).1, (tkW k).2, tl, he, by rw [wi_f (by decide), wi_f (by decide)]; exact h41, by rw [wi_f (by decide), wi_e, e1], fun q => by rw [wi_e, e2 q], fun _ => by
    obtain ⟨q, a, b⟩ := h40
    exact ⟨q, by rw [wi_f (by decide), wi_f (by decide)]; exact a, b⟩, hs⟩⟩
  have t1 := tw1 k (by omega)
  have t2 := tw2 k (by omega)
  have t3 : k < 2 → tkW k = (3, k) := fun z => if_pos z
  have t4 : 2 ≤ k → k < 8 → tkW k = (2, k - 2) := fun y z => by unfold tkW; rw [if_neg (by omega), if_pos z]
  have t5 : 8 ≤ k → k < 11 → tkW k = (k - 4, 0) := fun y z => by unfold tkW; rw [if_neg (by omega), if_neg (by omega), if_neg (by omega)]
  have t6 : k = 11 → tkW k = (7, 0) := fun z => by rw [z]; rfl
  refine k_MM_next_136 hF ?_
  simp only [nI_leI (show 2 < 2 ^ 31 by decide) (show k < 2 ^ 31 by omega), nI_leI (show 8 < 2 ^ 31 by decide) (show k < 2 ^ 31 by omega), nI_eq (show k < 2 ^ 31 by omega) (show 11 < 2 ^ 31 by decide)]
  refine ⟨fun q => ⟨fun q2 => ⟨fun q3 => ⟨fun _ => ?_, fun z => absurd q z⟩, fun q3 => ⟨fun _ => ?_, fun z => absurd q z⟩⟩, fun q2 => ⟨fun _ => ?_, fun z => absurd q z⟩⟩, fun q => ⟨fun z => absurd z q, fun _ => ?_⟩⟩
  · have e := t5 q2 (by omega)
    refine fin _ _ ?_ ?_ <;> rw [e]
    · rw [t2.resolve_right (by omega)]
      unfold mtk
      rw [if_neg (by show ¬ k - 4 = 7; omega)]
    · intro z
      have z : k - 4 = 1 ∨ k - 4 = 2 ∨ k - 4 = 3 := z
      omega
  · have e := t6 q3
    refine fin _ _ ?_ ?_ <;> rw [e]
    · rfl
    · intro z
      have z : 7 = 1 ∨ 7 = 2 ∨ 7 = 3 := z
      omega
  · have e := t4 q (by omega)
    refine fin _ _ ?_ ?_ <;> rw [e]
    · rfl
    · intro _
      exact t1.resolve_right (by omega)
  · have e := t3 (by omega)
    refine fin _ _ ?_ ?_ <;> rw [e]
    · rfl
    · intro _; rfl
theorem nxm111 {s : Nat} {l1 : Int32} {M : Mem} {tl : List Tok} (hb : ∀ i, byt tp i < 256) (hF : Fm M) (hW : WDm M) (hf : FNm M0 M) (h41 : mi M 78 41 = nI s) (h40 : ∃ q, mi M 78 40 = nI q ∧ TL tp q tl) (hs : s ≤ tp.length) (he : ts = (s, tkW (wix (wdN tp s (rnE isLt tp s - s)))) :: tl) (H : ∀ M2, FNm M0 M2 → CurM tp ts M2 → K M2) :
    ∀ (n k : Nat), k + n = 11 → (∀ j, j < k → ¬ wordL[j]? = some (wdN tp s (rnE isLt tp s - s))) → Ex (d + 1) m_MM_next bc bs 111 [some (.ref 78), some (.int l1), some (.long (pkI tp s (rnE isLt tp s - s))), none, some (.int (nI k))] [] M (PV K) := by
  intro n
  induction n with
  | zero =>
    intro k hk hj
    obtain rfl : k = 11 := by omega
    refine k_MM_next_111 hF ⟨fun _ => ?_, fun q => absurd (nI_le (Nat.le_refl _) (by decide)) q⟩
    rw [wix_of (by omega) hj (.inl rfl)] at he
    exact nxm136 hF hf (by omega) h41 h40 hs he H
  | succ n ih =>
    intro k hk hj
    obtain ⟨w, hw⟩ : ∃ w, wordsT[k]? = some w := ⟨_, (wq k (by omega)).1⟩
    have hiff := wq_iff (s := s) hb hs (show k < 11 by omega)
    refine k_MM_next_111 hF ?_
    rw [nI_clamp (by omega), hW k w hw, lg_0]
    refine ⟨fun q => absurd q (by rw [nI_leI (by omega) (by omega)]; omega), fun _ => ⟨vN (by omega) (by decide), fun q => ?_, fun q => ?_⟩⟩
    · rw [wix_of (by omega) hj (.inr (hiff.mp (by rw [hw, q])))] at he
      exact nxm136 hF hf (by omega) h41 h40 hs he H
    · rw [nI_add]
      refine ih (k + 1) (by omega) (fun j hj2 => ?_)
      by_cases y : j = k
      · subst y
        exact fun z => q (by have := hiff.mpr z; rw [hw] at this; injection this)
      · exact hj j (by omega)
/-- digits -/
theorem nxm214 {s : Nat} {l1 : Int32} {tl : List Tok} (h160 : tp.length ≤ 160) (hb : ∀ i, byt tp i < 256) (hF0 : Fm M0) (ht : TBm tp M0) (hs : s ≤ tp.length) (hT : TL tp (rnE isDg tp s) tl) (he : ts = (s, (if rnE isDg tp s - s ≤ 4 then 1 else 7), dgN tp s (rnE isDg tp s - s)) :: tl) (H : ∀ M2, FNm M0 M2 → CurM tp ts M2 → K M2) :
    ∀ (n c : Nat) (M : Mem), s + c + n = tp.length → FNm M0 M → mi M 78 40 = nI (s + c) → mi M 78 41 = nI s → (c ≤ 4 → mi M 78 43 = nI (dgN tp s c)) → (∀ i, i < c → isDg (byt tp (s + i)) = true) → rnE isDg tp s = rnE isDg tp (s + c) → Ex (d + 2) m_MM_next bc bs 214 [some (.ref 78), some (.int l1), some (.int (nI c)), none, none] [] M (PV K) := by
  have fin : ∀ (c : Nat) (M : Mem), s + c ≤ tp.length → FNm M0 M → mi M 78 40 = nI (s + c) → mi M 78 41 = nI s → (c ≤ 4 → mi M 78 43 = nI (dgN tp s c)) → rnE isDg tp s = s + c → Ex (d + 2) m_MM_next bc bs 293 [some (.ref 78), some (.int l1), some (.int (nI c)), none, none] [] M (PV K) := by
    intro c M hc hf h40 h41 h43 er
    have hF := hf.1.fm hF0 (by simp)
    rw [er, Nat.add_sub_cancel_left] at he
    rw [er] at hT
    refine k_MM_next_293 hF ?_
    rw [nI_leI (by omega) (by omega)]
    refine ⟨fun q => ⟨rfl, H _ (hf.w (by omega)) ⟨s, 1, dgN tp s c, tl, by rw [he, if_pos q], by rw [wi_f (by decide)]; exact h41, wi_e, fun _ => by rw [wi_f (by decide)]; exact h43 q, fun _ => ⟨s + c, by rw [wi_f (by decide)]; exact h40, hT⟩, hs⟩⟩, fun q => ⟨rfl, H _ (hf.w (by omega)) ⟨s, 7, dgN tp s c, tl, by rw [he, if_neg q], by rw [wi_f (by decide)]; exact h41, wi_e, fun z => by omega, fun _ => ⟨s + c, by rw [wi_f (by decide)]; exact h40, hT⟩, hs⟩⟩⟩
  intro n
  induction n with
  | zero =>
    intro c M hc hf h40 h41 h43 hd hr
    have hF := hf.1.fm hF0 (by simp)
    have t := hf.tb hF0 ht
    refine k_MM_next_214 hF ?_
    rw [t.1, h40]
    exact ⟨fun _ => fin c M (by omega) hf h40 h41 h43 (by rw [hr]; exact rnE_n (by omega)), fun q => absurd (nI_le (by omega) (by omega)) q⟩
  | succ n ih =>
    intro c M hc hf h40 h41 h43 hd hr
    have hF := hf.1.fm hF0 (by simp)
    have t := hf.tb hF0 ht
    refine k_MM_next_214 hF ?_
    rw [t.1, h40, nI_clamp (by omega), t.2 (s + c) (by omega)]
    refine ⟨fun q => absurd q (by rw [nI_leI (by omega) (by omega)]; omega), fun _ => ⟨vN (by omega) (by decide), sm_in hF ?_⟩⟩
    rw [isDg_B (hb _)]
    refine ⟨hF, fun q => fin c M (by omega) hf h40 h41 h43 (by rw [hr]; exact rnE_n (fun z => by rw [q] at z; exact absurd z.2 (by decide))), fun q => ?_⟩
    rw [h40, nI_add c 1, nI_add (s + c) 1, nI_clamp (by omega), t.2 (s + c) (by omega)]
    have nx : ∀ v : Int32, (c + 1 ≤ 4 → v = nI (dgN tp s (c + 1))) → Ex (d + 2) m_MM_next bc bs 214 [some (.ref 78), some (.int l1), some (.int (nI (c + 1))), none, none] [] (wi (wi M 78 43 v) 78 40 (nI (s + c + 1))) (PV K) := fun v hv => by
      refine ih (c + 1) _ (by omega) ((hf.w (by omega)).w (by omega)) wi_e (by rw [wi_f (by decide), wi_f (by decide)]; exact h41) (fun z => by rw [wi_f (by decide), wi_e]; exact hv z) (fun i hi => ?_) (by rw [hr]; exact rnE_y (by omega) q)
      by_cases y : i = c
      · rw [y]; exact q
      · exact hd i (by omega)
    refine ⟨fun z => nx _ (fun y => ?_), fun z => ⟨vN (by omega) (by decide), nx _ (fun y => ?_)⟩⟩
    · rw [nI_leI (by omega) (by omega)] at z; omega
    · have h48 := q
      unfold isDg at h48
      rw [decide_eq_true_eq] at h48
      rw [h43 (by omega), pk_mul, nI_add, pk_sub (by omega)]
      congr 1
      show _ = 10 * dgN tp s c + (byt tp (s + c) - 48)
      omega
theorem isSg_c : ∀ b, b < 256 → (isSg b = true ↔ b = 40 ∨ b = 41 ∨ b = 59 ∨ b = 43 ∨ b = 45 ∨ b = 42 ∨ b = 60 ∨ b = 61) := fun b _ => by unfold isSg; rw [decide_eq_true_eq]
theorem nxm52 {M : Mem} {s : Nat} (h160 : tp.length ≤ 160) (hb : ∀ i, byt tp i < 256) (hF0 : Fm M0) (ht : TBm tp M0) (hW : WDm M0) (hf : FNm M0 M) (h40 : mi M 78 40 = nI s) (hs : s ≤ tp.length) (hc : (s = tp.length ∧ ts = [(tp.length, 0, 0)]) ∨ (s < tp.length ∧ ∃ tl, ts = (s, (tkA tp s).1) :: tl ∧ TL tp (tkA tp s).2 tl)) (H : ∀ M2, FNm M0 M2 → CurM tp ts M2 → K M2) : Ex (d + 3) m_MM_next bc bs 52 [some (.ref 78), none, none, none, none] [] M (PV K) := by
  have hF := hf.1.fm hF0 (by simp)
  have t := hf.tb hF0 ht
  have f2 : FNm M0 (wi (wi (wi M 78 41 (mi M 78 40)) 78 42 (nI 0)) 78 43 (nI 0)) := ((hf.w (by omega)).w (by omega)).w (by omega)
  refine k_MM_next_52 hF ⟨fun q => ?_, fun q => ⟨rfl, H _ f2 ?_⟩⟩
  · rw [h40, t.1, nI_eq (by omega) (by omega)] at q
    obtain ⟨hlt, tl, e, hT⟩ : s < tp.length ∧ ∃ tl, ts = (s, (tkA tp s).1) :: tl ∧ TL tp (tkA tp s).2 tl := by
      rcases hc with z | z
      · exact absurd z.1 q
      · exact z
    rw [h40] at f2 ⊢
    rw [nI_clamp (by omega), t.2 s hlt]
    refine ⟨vN (by omega) (by decide), sm_in hF.fwi.fwi.fwi ?_⟩
    have t2 := f2.tb hF0 ht
    have w2 := f2.wd hF0 hW
    have g40 : mi (wi (wi (wi M 78 41 (nI s)) 78 42 (nI 0)) 78 43 (nI 0)) 78 40 = nI s := by rw [wi_f (by decide), wi_f (by decide), wi_f (by decide)]; exact h40
    have g41 : mi (wi (wi (wi M 78 41 (nI s)) 78 42 (nI 0)) 78 43 (nI 0)) 78 41 = nI s := by rw [wi_f (by decide), wi_f (by decide), wi_e]
    have g43 : mi (wi (wi (wi M 78 41 (nI s)) 78 42 (nI 0)) 78 43 (nI 0)) 78 43 = nI 0 := wi_e
    have hF2 : Fm (wi (wi (wi M 78 41 (nI s)) 78 42 (nI 0)) 78 43 (nI 0)) := hF.fwi.fwi.fwi
    generalize (wi (wi (wi M 78 41 (nI s)) 78 42 (nI 0)) 78 43 (nI 0)) = M2 at *
    rw [isLt_B (hb _)]
    unfold tkA at e hT
    refine ⟨hF2, fun q1 => ?_, fun q1 => ?_⟩
    · rw [if_neg (by rw [q1]; decide)] at e hT
      refine sm_in hF2 ?_
      rw [isDg_B (hb _)]
      refine ⟨hF2, fun q2 => ?_, fun q2 => ?_⟩
      · rw [if_neg (by rw [q2]; decide)] at e hT
        have hT : TL tp (s + 1) tl := hT
        have hbs := hb s
        have good : isSg (byt tp s) = true → PV K none (wi (wi M2 78 42 (nI (byt tp s))) 78 40 (mi M2 78 40 + nI 1)) := fun y => by
          rw [g40, nI_add]
          rw [if_pos y] at e
          have y2 := (isSg_c _ hbs).mp y
          refine ⟨rfl, H _ ((f2.w (by omega)).w (by omega)) ⟨s, byt tp s, 0, tl, e, by rw [wi_f (by decide), wi_f (by decide)]; exact g41, by rw [wi_f (by decide), wi_e]; unfold mtk; rw [if_neg (by omega)], fun z => by omega, fun _ => ⟨s + 1, wi_e, hT⟩, hs⟩⟩
        have bad : isSg (byt tp s) = false → PV K none (wi (wi M2 78 42 (-1)) 78 40 (mi M2 78 40 + nI 1)) := fun y => by
          rw [g40, nI_add]
          rw [if_neg (by rw [y]; decide)] at e
          refine ⟨rfl, H _ ((f2.w (by omega)).w (by omega)) ⟨s, 7, 0, tl, e, by rw [wi_f (by decide), wi_f (by decide)]; exact g41, by rw [wi_f (by decide), wi_e]; rfl, fun z => by omega, fun _ => ⟨s + 1, wi_e, hT⟩, hs⟩⟩
        have n10 : ¬ nI 1 = 0 := by decide
        have sg := isSg_c _ hbs
        have g : ∀ {c : Nat}, c < 256 → (c = 40 ∨ c = 41 ∨ c = 59 ∨ c = 43 ∨ c = 45 ∨ c = 42 ∨ c = 60 ∨ c = 61) → nI (byt tp s) = nI c → isSg (byt tp s) = true := fun {c} hc hm z => by
          rw [nI_eq (by omega) (by omega)] at z
          rw [sg, z]; exact hm
        refine ⟨fun y => ⟨fun z => absurd z n10, fun _ => good (g (by decide) (by decide) y)⟩, fun y1 => ⟨fun y => ⟨fun z => absurd z n10, fun _ => good (g (by decide) (by decide) y)⟩, fun y2 => ⟨fun y => ⟨fun z => absurd z n10, fun _ => good (g (by decide) (by decide) y)⟩, fun y3 => ⟨fun y => ⟨fun z => absurd z n10, fun _ => good (g (by decide) (by decide) y)⟩, fun y4 => ⟨fun y => ⟨fun z => absurd z n10, fun _ => good (g (by decide) (by decide) y)⟩, fun y5 => ⟨fun y => ⟨fun z => absurd z n10, fun _ => good (g (by decide) (by decide) y)⟩, fun y6 => ⟨fun y => ⟨fun z => absurd z n10, fun _ => good (g (by decide) (by decide) y)⟩, fun y7 => ⟨fun y8 => ⟨fun _ => bad ?_, fun z => absurd rfl z⟩, fun y => ⟨fun z => absurd z n10, fun _ => good (g (by decide) (by decide) y)⟩⟩⟩⟩⟩⟩⟩⟩⟩
        cases yy : isSg (byt tp s) with
        | false => rfl
        | true =>
          rcases sg.mp yy with z | z | z | z | z | z | z | z <;> rw [z] at y1 y2 y3 y4 y5 y6 y7 y8
          · exact absurd rfl y1
          · exact absurd rfl y2
          · exact absurd rfl y3
          · exact absurd rfl y4
          · exact absurd rfl y5
          · exact absurd rfl y6
          · exact absurd rfl y7
          · exact absurd rfl y8
      · rw [if_pos q2] at e hT
        exact nxm214 (d := d + 1) (s := s) h160 hb hF2 t2 hs hT e (fun M3 f3 c3 => H M3 (f2.tr f3) c3) (tp.length - s) 0 M2 (by omega) (FNm.rf M2) g40 g41 (fun _ => g43) (fun i hi => absurd hi (Nat.not_lt_zero _)) rfl
    · rw [if_pos q1] at e hT
      have hT : TL tp (rnE isLt tp s) tl := hT
      refine sm_letters h160 hb hF2 t2 hs g40 (fun M3 f3 a3 k3 => ⟨f3.1.fm hF2 (by simp), ?_⟩)
      have f03 := f2.tr f3
      exact nxm111 (d := d + 2) hb (f3.1.fm hF2 (by simp)) (f03.wd hF0 hW) f03 (by rw [k3 41 (by decide)]; exact g41) ⟨_, a3, hT⟩ hs e H 11 0 rfl (fun j hj => absurd hj (Nat.not_lt_zero _))
  · rw [h40, t.1, nI_eq (by omega) (by omega)] at q
    rcases hc with z | z
    · refine ⟨tp.length, 0, 0, [], z.2, by rw [wi_f (by decide), wi_f (by decide), wi_e, h40, q], by rw [wi_f (by decide), wi_e]; rfl, fun y => by omega, fun y => absurd rfl y, Nat.le_refl _⟩
    · omega
theorem nxm0 {p : Nat} (h160 : tp.length ≤ 160) (hb : ∀ i, byt tp i < 256) (hF0 : Fm M0) (ht : TBm tp M0) (hW : WDm M0) (hT : TL tp p ts) (H : ∀ M2, FNm M0 M2 → CurM tp ts M2 → K M2) : ∀ (n a : Nat) (M : Mem), a + n = tp.length → FNm M0 M → mi M 78 40 = nI a → rnE isBl tp p = rnE isBl tp a → Ex (d + 3) m_MM_next bc bs 0 [some (.ref 78), none, none, none, none] [] M (PV K) := by
  have stop : ∀ (a : Nat) (M : Mem), a ≤ tp.length → FNm M0 M → mi M 78 40 = nI a → rnE isBl tp p = a → Ex (d + 3) m_MM_next bc bs 52 [some (.ref 78), none, none, none, none] [] M (PV K) := by
    intro a M ha hf h40 er
    refine nxm52 h160 hb hF0 ht hW hf h40 ha ?_ H
    have := hT.nx
    rw [er] at this
    rcases this with ⟨z1, z2, z3⟩ | ⟨z1, z2, z3, z4⟩
    · exact .inl ⟨z2, z3⟩
    · exact .inr ⟨z1, z4⟩
  intro n
  induction n with
  | zero =>
    intro a M ha hf h40 hr
    have t := hf.tb hF0 ht
    refine k_MM_next_0 (hf.1.fm hF0 (by simp)) ?_
    rw [t.1, h40]
    exact ⟨fun _ => stop a M (by omega) hf h40 (by rw [hr]; exact rnE_n (by omega)), fun q => absurd (nI_le (by omega) (by omega)) q⟩
  | succ n ih =>
    intro a M ha hf h40 hr
    have t := hf.tb hF0 ht
    have hF := hf.1.fm hF0 (by simp)
    have hba := hb a
    have step : isBl (byt tp a) = true → Ex (d + 3) m_MM_next bc bs 39 [some (.ref 78), none, none, none, none] [] M (PV K) := fun y => by
      refine k_MM_next_39 hF ?_
      rw [h40, nI_add]
      exact ih (a + 1) _ (by omega) (hf.w (by omega)) wi_e (by rw [hr]; exact rnE_y (by omega) y)
    refine k_MM_next_0 hF ?_
    rw [t.1, h40, nI_clamp (by omega), t.2 a (by omega), nI_eq (by omega) (by omega), nI_eq (by omega) (by omega)]
    refine ⟨fun q => absurd q (by rw [nI_leI (by omega) (by omega)]; omega), fun _ => ⟨vN (by omega) (by decide), fun q => step (by unfold isBl; rw [decide_eq_true (.inl q)]), fun q => ⟨vN (by omega) (by decide), fun q2 => stop a M (by omega) hf h40 ?_, fun q2 => step (by unfold isBl; rw [decide_eq_true (.inr q2)])⟩⟩⟩
    rw [hr]
    refine rnE_n (fun z => ?_)
    have := z.2
    unfold isBl at this
    rw [decide_eq_true_eq] at this
    omega
theorem sm_next {M : Mem} {p : Nat} (h160 : tp.length ≤ 160) (hb : ∀ i, byt tp i < 256) (hF : Fm M) (ht : TBm tp M) (hW : WDm M) (ha : mi M 78 40 = nI p) (hT : TL tp p ts) (H : ∀ M2, FNm M M2 → CurM tp ts M2 → K M2) : Con (d + 3) m_MM_next 0 0 [.ref 78] M (PV K) :=
  Con.ent (k := 4) F_MM_next.1 rfl (Nat.le_of_ble_eq_true rfl) (nxm0 h160 hb hF ht hW hT H (tp.length - p) p M (by have := hT.1; omega) (FNm.rf M) ha rfl)
end NXM
