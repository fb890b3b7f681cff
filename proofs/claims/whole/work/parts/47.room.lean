/-! room -/
def orLT (p : Nat → Bool) : Nat → Nat
  | 0 => 0
  | n + 1 => if p n = true then orLT p n ||| 2 ^ n else orLT p n
theorem or_s {p : Nat → Bool} {n : Nat} : orLT p (n + 1) = if p n = true then orLT p n ||| 2 ^ n else orLT p n := rfl
theorem or_lt (p : Nat → Bool) : ∀ n, n ≤ 7 → orLT p n < 128
  | 0, _ => (show 0 < 128 from Nat.le_of_ble_eq_true rfl)
  | n + 1, h => by
    have := or_lt p n (by omega)
    rw [or_s]
    split
    · exact or128 this (p7 (by omega))
    · exact this
theorem any_s {p : Nat → Bool} {n : Nat} : anyLT p (n + 1) = (anyLT p n || p n) := rfl
def barO (σ : St) (f : Nat → Nat) (t o : Nat) : Bool := barA σ (oW σ) f (min o t) (max o t)
def roomP (σ : St) (f : Nat → Nat) (t e : Nat) : Bool := !anyLT (barO σ (u1 f t (2 ^ e)) t) (oT σ)
def pRoom (σ : St) (g t w : Int32) : Int32 := gtw σ g t w (-5) (fun gv t w => nI (orLT (roomP σ (fun s => marketV σ gv s w) t) (oW σ)))
theorem u1_u1 {f : Nat → Nat} {t a b : Nat} : u1 (u1 f t a) t b = u1 f t b := funext fun s => by
  unfold u1
  split <;> rfl
section BAN
variable {d bc bs t : Nat} {σ : St} {f : Nat → Nat} {M0 : Mem} {K : Bool → Mem → Prop}
theorem ban2 (hw : WF σ) (hf : ∀ t, f t < 128) (ht : t < oT σ) (h : ∀ M2, FX σ f M2 → FrG [48, 49] [] M0 M2 → K (anyLT (fun o => decide (o ≠ t) && barO σ f t o) (oT σ)) M2) :
    ∀ (n o : Nat) (M : Mem), o + n = oT σ → FX σ f M → FrG [48, 49] [] M0 M → anyLT (fun o => decide (o ≠ t) && barO σ f t o) o = false → Ex (d + 5) m_Fair_barsAny bc bs 2 [some (.ref 51), some (.int (nI t)), some (.int (nI o))] [] M (PB K) := by
  have h6 := hw.T6
  intro n
  induction n with
  | zero =>
    intro o M ho h0 hfr hz
    obtain rfl : o = oT σ := by omega
    refine k_Fair_barsAny_2 h0.1 ?_
    rw [h0.2.1.1]
    exact ⟨fun _ => PB.mk hz.symm (h M h0 hfr), fun q => absurd (nI_le (Nat.le_refl _) (by omega)) q⟩
  | succ n ih =>
    intro o M ho h0 hfr hz
    refine k_Fair_barsAny_2 h0.1 ?_
    rw [h0.2.1.1, nI_eq (by omega) (by omega), nI_min (by omega) (by omega), show (if nI t < nI o then nI o else nI t) = nI (max o t) by
      split <;> rename_i q <;> rw [nI_ltI (by omega) (by omega)] at q <;> congr 1 <;> omega, Nat.min_comm t o]
    have e1 : min o t < oT σ ∧ max o t < oT σ := by omega
    refine ⟨fun q => absurd q (by rw [nI_leI (by omega) (by omega)]; omega), fun _ => ⟨fun z => ?_, fun z => ?_⟩⟩
    · rw [nI_add]
      refine ih (o + 1) M (by omega) h0 hfr ?_
      rw [any_s, hz, decide_eq_false (fun q => q z)]
      rfl
    · have eb : barB σ (oW σ) f (min o t) (max o t) = barO σ f t o := by
        unfold barO barA
        rw [if_neg (by omega)]
      refine sx_bars hw h0 hf e1.1 e1.2 (fun M2 h2 f2 => ⟨h2.1, fun y => ?_, fun y => PB.mk ?_ (h M2 h2 (hfr.tr f2))⟩)
      · rw [nI_add]
        refine ih (o + 1) M2 (by omega) h2 (hfr.tr f2) ?_
        rw [any_s, hz, ← eb, y, Bool.and_false]
        rfl
      · rw [anyLT_t.mpr ⟨o, by omega, by rw [← eb, y, decide_eq_true z]; rfl⟩]
theorem sx_barsAny {M : Mem} (hw : WF σ) (h0 : FX σ f M) (hf : ∀ t, f t < 128) (ht : t < oT σ) (h : ∀ M2, FX σ f M2 → FrG [48, 49] [] M M2 → K (anyLT (fun o => decide (o ≠ t) && barO σ f t o) (oT σ)) M2) : Con (d + 5) m_Fair_barsAny 0 0 [.ref 51, .int (nI t)] M (PB K) := by
  refine Con.ent (k := 1) F_Fair_barsAny.1 rfl (Nat.le_of_ble_eq_true rfl) (k_Fair_barsAny_0 h0.1 ?_)
  exact ban2 hw hf ht h (oT σ) 0 M (by omega) h0 (FrG.rf _ _) rfl
end BAN
theorem any_split {p : Nat → Bool} {t T : Nat} (ht : t < T) : anyLT p T = (p t || anyLT (fun o => decide (o ≠ t) && p o) T) := by
  rw [Bool.eq_iff_iff, anyLT_t, Bool.or_eq_true, anyLT_t]
  constructor
  · rintro ⟨i, hi, hp⟩
    by_cases q : i = t
    · exact .inl (q ▸ hp)
    · exact .inr ⟨i, hi, by rw [decide_eq_true q, hp]; rfl⟩
  · rintro (h | ⟨i, hi, hp⟩)
    · exact ⟨t, ht, h⟩
    · rw [Bool.and_eq_true] at hp
      exact ⟨i, hi, hp.2⟩
section ROO
variable {d bc bs t was : Nat} {σ : St} {f : Nat → Nat} {M0 : Mem} {K : Int32 → Mem → Prop}
theorem roo12 (hw : WF σ) (hf : ∀ t, f t < 128) (ht : t < oT σ) (h : ∀ M2, Fx M2 → FrG [48, 49, 52] [] M0 M2 → K (nI (orLT (roomP σ f t) (oW σ))) M2) :
    ∀ (n k : Nat) (M : Mem), k + n = oW σ → (∃ v, FX σ (u1 f t v) M) → FrG [48, 49, 52] [] M0 M → Ex (d + 6) m_Fair_roomOf bc bs 12 [some (.ref 51), some (.int (nI t)), some (.int (nI was)), some (.int (nI (orLT (roomP σ f t) k))), some (.int (nI k))] [] M (PI K) := by
  have h6 := hw.T6
  obtain ⟨w1, w2⟩ := hw.W
  intro n
  induction n with
  | zero =>
    intro k M hk h0 hfr
    obtain rfl : k = oW σ := by omega
    obtain ⟨v, h0⟩ := h0
    refine k_Fair_roomOf_12 h0.1 ?_
    rw [h0.2.1.2.1]
    exact ⟨fun _ => ⟨vN (by omega) (by omega), PI.mk rfl (h _ h0.1.fwi (hfr.fwi (by decide)))⟩, fun q => absurd (nI_le (Nat.le_refl _) (by omega)) q⟩
  | succ n ih =>
    intro k M hk h0 hfr
    obtain ⟨v, h0⟩ := h0
    have h1 : FX σ (u1 f t (2 ^ k)) (wi M 52 t (nI (2 ^ k))) := by
      have := h0.set hw t (2 ^ k)
      rwa [u1_u1] at this
    have hf1 : ∀ s, u1 f t (2 ^ k) s < 128 := u1_lt hf (p7 (by omega))
    have ih2 := ih (k + 1)
    have ho := or_lt (roomP σ f t) k (by omega)
    rw [or_s] at ih2
    have f1 : FrG [48, 49, 52] [] M0 (wi M 52 t (nI (2 ^ k))) := hfr.fwi (by decide)
    have es : selfB σ (u1 f t (2 ^ k)) t = barO σ (u1 f t (2 ^ k)) t t := by
      unfold barO barA
      rw [if_pos (by omega), Nat.min_self]
    refine k_Fair_roomOf_12 h0.1 ?_
    rw [h0.2.1.2.1, one_N (by omega), nI_clamp (by omega), or_N ho (p7 (by omega)), nI_add]
    refine ⟨fun q => absurd q (by rw [nI_leI (by omega) (by omega)]; omega), fun _ => ⟨vN (by omega) (by omega), ?_⟩⟩
    refine sx_self hw h1 ht ⟨h1.1, fun z => ?_, fun z => ?_⟩
    · have hp : roomP σ f t k = false := by
        unfold roomP
        rw [any_split ht, ← es, z]
        rfl
      rw [if_neg (by rw [hp]; decide)] at ih2
      exact ih2 _ (by omega) ⟨_, h1⟩ f1
    · refine sx_barsAny hw h1 hf1 ht (fun M2 h2 f2 => ⟨h2.1, fun y => ?_, fun y => ?_⟩)
      · have hp : roomP σ f t k = false := by
          unfold roomP
          rw [any_split ht, ← es, z, y]
          rfl
        rw [if_neg (by rw [hp]; decide)] at ih2
        exact ih2 M2 (by omega) ⟨_, h2⟩ (f1.tr (f2.wk (by simp) (by simp)))
      · have hp : roomP σ f t k = true := by
          unfold roomP
          rw [any_split ht, ← es, z, y]
          rfl
        rw [if_pos hp] at ih2
        exact ih2 M2 (by omega) ⟨_, h2⟩ (f1.tr (f2.wk (by simp) (by simp)))
end ROO
theorem sX_room {d : Nat} {σ : St} {g t w : Int32} {M : Mem} {K : Int32 → Mem → Prop} (hw : WF σ) (hx : XA σ M) (h : ∀ M2, SX σ M M2 → K (pRoom σ g t w) M2) : Con (d + 7) m_MD_room 0 0 [.ref 0, .int g, .int t, .int w] M (PI K) := by
  obtain ⟨hF, hL, -, -, hT, hG, -⟩ := id hx
  have h6 := hw.T6
  have hk := h M (SX.rf hx)
  unfold pRoom at hk h
  refine Con.ent (k := 1) F_MD_room.1 rfl (Nat.le_of_ble_eq_true rfl) (k_MD_room_0 hF ?_)
  refine sx_givC hw hF hG (fun q => ⟨hF, fun _ => PI.mk (gtw_0 q).symm hk, (fun _ z => nomatch z)⟩) (fun i gv p e hg q hgx => ⟨hF, (fun z => nomatch z), fun a2 ea => ?_⟩)
  cases ea
  refine sx_townC hw hF hL (fun q2 => ⟨hF, fun _ => PI.mk (gtw_1 q q2).symm hk, (fun z => nomatch z)⟩) (fun j hj ej q2 => ⟨hF, (fun z => nomatch z), fun _ => ?_⟩)
  refine sx_weekC hF (fun q3 => ⟨hF, (fun z => nomatch z), fun _ => PI.mk (gtw_2 q q2 q3).symm hk⟩) (fun k hkk ek q3 => ⟨hF, fun _ => ?_, (fun z => nomatch z)⟩)
  subst ej ek
  rw [gtw_3 q q2 q3 (by omega) hkk] at h
  refine sx_openG hw hF hL hT hgx (hw.gv hg).2 hkk (fun M2 hF2 f2 hx2 => ⟨hF2, ?_⟩)
  refine Con.ent (k := 3) F_Fair_roomOf.1 rfl (Nat.le_of_ble_eq_true rfl) (k_Fair_roomOf_0 hF2 ?_)
  rw [nI_clamp (by omega), hx2.1.2.2.2 j hj]
  refine ⟨vN (by omega) (by omega), ?_⟩
  have hself : (fun s => marketV σ gv s k) = u1 (fun s => marketV σ gv s k) j (marketV σ gv j k) := funext fun s => by
    unfold u1
    split
    · rename_i q; rw [q]
    · rfl
  refine roo12 hw (fun t => marketV_lt hw) hj (fun M3 hF3 f3 => ⟨hF3, PI.mk rfl (h M3 (hx.q hw (fx_wk (L3 := [48, 49, 52]) (R3 := [51]) f2 f3 (by simp) (by simp) (by simp) (by simp)) hF3 rfl rfl))⟩) (oW σ) 0 M2 (by omega) ⟨marketV σ gv j k, ?_⟩ (FrG.rf _ _)
  rw [← hself]
  exact hx2.1
section ROM
variable {d bc bs t : Nat} {v1 v3 : Int32} {σ : St} {f : Nat → Nat} {M0 : Mem} {K : Int32 → Mem → Prop}
theorem rom67 {k s : Nat} {M : Mem} (hw : WF σ) (h0 : FM σ f M) (hf : ∀ t, f t < 128) (ht : t < oT σ) (hk : k < 7) (hs : s < 128)
    (H : Ex (d + 4) m_MM_room bc bs 42 [some (.ref 78), some (.int v1), some (.int (nI t)), some (.int v3), some (.int (nI (if (!anyLT (barO σ f t) (oT σ)) = true then s ||| 2 ^ k else s))), some (.int (nI (k + 1))), none, none] [] M (PI K)) :
    ∀ (n o : Nat), o + n = oT σ → Ex (d + 4) m_MM_room bc bs 67 [some (.ref 78), some (.int v1), some (.int (nI t)), some (.int v3), some (.int (nI s)), some (.int (nI k)), some (.int (nI (if anyLT (barO σ f t) o = true then 0 else 1))), some (.int (nI o))] [] M (PI K) := by
  have h6 := hw.T6
  intro n
  induction n with
  | zero =>
    intro o ho
    obtain rfl : o = oT σ := by omega
    refine k_MM_room_67 h0.1 ?_
    rw [h0.2.1.1, one_N (by omega), or_N hs (p7 (by omega)), or_N hs (by decide), Nat.or_zero, nI_add]
    refine ⟨fun _ => ⟨fun z => ?_, fun z => ?_⟩, fun q => absurd (nI_le (Nat.le_refl _) (by omega)) q⟩
    · split at z
      · rename_i q
        rwa [if_neg (by rw [q]; decide)] at H
      · exact absurd z (by decide)
    · split at z
      · exact absurd rfl z
      · rename_i q
        rw [Bool.not_eq_true] at q
        rwa [if_pos (by rw [q]; rfl)] at H
  | succ n ih =>
    intro o ho
    have ih2 := ih (o + 1) (by omega)
    rw [any_s] at ih2
    refine k_MM_room_67 h0.1 ?_
    rw [h0.2.1.1, nI_add o 1]
    refine ⟨fun q => absurd q (by rw [nI_leI (by omega) (by omega)]; omega), fun _ => ⟨fun z => ?_, fun z => ?_⟩⟩
    · split at z
      · rename_i q
        rwa [if_pos (by rw [q]; rfl)] at ih2
      · exact absurd z (by decide)
    · split at z
      · exact absurd rfl z
      · rename_i q
        rw [Bool.not_eq_true] at q
        have go : ∀ {L : Bool → Mem → Prop}, L (barO σ f t o) M → Con (d + 3) m_MM_doBar 0 0 [.ref 78, .int (nI o), .int (nI t)] M (PB L) := by
          intro L hl
          unfold barO at hl
          rcases Nat.le_total o t with y | y
          · rw [Nat.min_eq_left y, Nat.max_eq_right y] at hl
            exact sm_doBar hw h0 hf y ht hl
          · rcases Nat.eq_or_lt_of_le y with y2 | y2
            · subst y2
              rw [Nat.min_self, Nat.max_self] at hl
              exact sm_doBar hw h0 hf (Nat.le_refl _) ht hl
            · rw [Nat.min_eq_right y, Nat.max_eq_left y] at hl
              exact sm_doBarR hw h0 hf y2 (by omega) hl
        refine go ⟨h0.1, fun y => ?_, fun y => ?_⟩
        · rwa [if_pos (by rw [q, y]; rfl)] at ih2
        · rwa [if_neg (by rw [q, y]; decide)] at ih2
theorem rom42 (hw : WF σ) (hf : ∀ t, f t < 128) (ht : t < oT σ) (h : ∀ M2, Fm M2 → FrG [109] [] M0 M2 → K (nI (orLT (roomP σ f t) (oW σ))) M2) :
    ∀ (n k : Nat) (M : Mem), k + n = oW σ → (∃ v, FM σ (u1 f t v) M) → FrG [109] [] M0 M → Ex (d + 4) m_MM_room bc bs 42 [some (.ref 78), some (.int v1), some (.int (nI t)), some (.int v3), some (.int (nI (orLT (roomP σ f t) k))), some (.int (nI k)), none, none] [] M (PI K) := by
  have h6 := hw.T6
  obtain ⟨w1, w2⟩ := hw.W
  intro n
  induction n with
  | zero =>
    intro k M hk h0 hfr
    obtain rfl : k = oW σ := by omega
    obtain ⟨v, h0⟩ := h0
    refine k_MM_room_42 h0.1 ?_
    rw [h0.2.1.2.1]
    exact ⟨fun _ => PI.mk rfl (h _ h0.1 hfr), fun q => absurd (nI_le (Nat.le_refl _) (by omega)) q⟩
  | succ n ih =>
    intro k M hk h0 hfr
    obtain ⟨v, h0⟩ := h0
    have h1 : FM σ (u1 f t (2 ^ k)) (wi M 109 t (nI (2 ^ k))) := by
      have := h0.set t (2 ^ k)
      rwa [u1_u1] at this
    have ih2 := ih (k + 1) _ (by omega) ⟨_, h1⟩ (hfr.fwi (by decide))
    rw [or_s] at ih2
    refine k_MM_room_42 h0.1 ?_
    rw [h0.2.1.2.1, one_N (by omega), nI_clamp (by omega)]
    refine ⟨fun q => absurd q (by rw [nI_leI (by omega) (by omega)]; omega), fun _ => ⟨vN (by omega) (by omega), ?_⟩⟩
    exact rom67 hw h1 (u1_lt hf (p7 (by omega))) ht (by omega) (or_lt _ _ (by omega)) ih2 (oT σ) 0 (by omega)
end ROM
theorem sM_room {d : Nat} {σ : St} {g t w : Int32} {M : Mem} {K : Int32 → Mem → Prop} (hw : WF σ) (hm : MA σ M) (h : ∀ M2, SM σ M M2 → K (pRoom σ g t w) M2) : Con (d + 5) m_MM_room 0 0 [.ref 78, .int g, .int t, .int w] M (PI K) := by
  obtain ⟨hF, -, hL, -, -, hT, hG, -⟩ := id hm
  have h6 := hw.T6
  have hk := h M (SM.rf hm)
  unfold pRoom at hk h
  refine Con.ent (k := 4) F_MM_room.1 rfl (Nat.le_of_ble_eq_true rfl) (k_MM_room_0 hF ?_)
  refine sm_givC hw hF hG (fun q => ⟨hF, fun _ => PI.mk (gtw_0 q).symm hk, (fun z => nomatch z)⟩) (fun i gv e hg q hgm => ⟨hF, (fun z => nomatch z), fun _ => ?_⟩)
  refine sm_townC hw hF hL (fun q2 => ⟨hF, fun _ => PI.mk (gtw_1 q q2).symm hk, (fun z => nomatch z)⟩) (fun j hj ej q2 => ⟨hF, (fun z => nomatch z), fun _ => ?_⟩)
  refine sm_weekC hF (fun q3 => ⟨hF, (fun z => nomatch z), fun _ => PI.mk (gtw_2 q q2 q3).symm hk⟩) (fun k hkk ek q3 => ⟨hF, fun _ => ?_, (fun z => nomatch z)⟩)
  subst e ej ek
  rw [gtw_3 q q2 q3 (by omega) hkk] at h
  refine sm_looks hF hw hL hT (fun M2 hF2 f2 g103 g108 => ⟨hF2, ?_⟩)
  have fM := f2.M hF rfl
  refine sm_layG hw hF2 (hL.fr fM) (hT.fr fM) g108 (hgm.fr fM) (hw.gv hg).1 (hw.gv hg).2 hkk (fun M3 f3 hm3 _ => ⟨hm3.1, ?_⟩)
  have fr := fx_wk (L3 := [103, 106, 107, 108, 109]) (R3 := []) f2 f3 (by simp) (by simp) (by simp) (by simp)
  have hself : (fun s => marketV σ gv s k) = u1 (fun s => marketV σ gv s k) j (marketV σ gv j k) := funext fun s => by
    unfold u1
    split
    · rename_i q; rw [q]
    · rfl
  refine rom42 hw (fun t => marketV_lt hw) hj (fun M4 hF4 f4 => h M4 (hm.q (fx_wk (L3 := [103, 106, 107, 108, 109]) (R3 := []) fr f4 (by simp) (by simp) (by simp) (by simp)) hF4 rfl)) (oW σ) 0 M3 (by omega) ⟨marketV σ gv j k, ?_⟩ (FrG.rf _ _)
  rw [← hself]
  exact hm3
