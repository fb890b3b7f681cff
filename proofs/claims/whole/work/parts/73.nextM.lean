/-! ways: m's nextWay -/
theorem up_r {p : Nat → Bool} : ∀ (n e : Nat), upF p n e = (List.range' e n).filter p
  | 0, _ => rfl
  | n + 1, e => by
    rw [up_s, List.range'_succ, List.filter_cons, up_r n (e + 1)]
theorem memT_up {T m : Nat} : memT T m = upF m.testBit T 0 := by
  unfold memT
  rw [up_r, List.range_eq_range']
def pM (m : Nat) (D : Nat → Nat) (t : Nat) : List (Nat × Nat) := (memT t m).map (fun t => (t, D t))
theorem pM_s {m t : Nat} {D : Nat → Nat} : pM m D (t + 1) = pM m D t ++ (if m.testBit t = true then [(t, D t)] else []) := by
  unfold pM
  rw [memT_s, List.map_append]
  congr 1
  split <;> rfl
theorem pM_c {m : Nat} {D D2 : Nat → Nat} : ∀ {k : Nat}, (∀ t, t < k → D t = D2 t) → pM m D k = pM m D2 k
  | 0, _ => rfl
  | k + 1, h => by rw [pM_s, pM_s, pM_c (k := k) (fun t ht => h t (by omega)), h k (by omega)]
theorem pM_u {m t d k : Nat} {D : Nat → Nat} (h : k ≤ t) : pM m (u1 D t d) k = pM m D k := pM_c (fun i hi => u1_n (by omega))
def tsF (m T t : Nat) : List Nat := upF m.testBit (T - t) t
theorem tsF_s {m T t : Nat} (h : t < T) : tsF m T t = if m.testBit t = true then t :: tsF m T (t + 1) else tsF m T (t + 1) := by
  unfold tsF
  rw [show T - t = (T - (t + 1)) + 1 by omega, up_s]
theorem tsF_T {m T : Nat} : tsF m T T = [] := by unfold tsF; rw [Nat.sub_self]; rfl
theorem tsF_0 {m T : Nat} : tsF m T 0 = memT T m := by unfold tsF; rw [memT_up, Nat.sub_zero]
def lvM (σ : St) (m : Nat) (D : Nat → Nat) (t : Nat) : List (List (Nat × Nat)) := (upF (opP σ (oW σ) (pM m D t) t) (7 - (D t + 1)) (D t + 1)).flatMap (fun d => exW σ (oW σ) (tsF m (oT σ) (t + 1)) (pM m D t ++ [(t, d)]))
def rsM (σ : St) (m : Nat) (D : Nat → Nat) : Nat → List (List (Nat × Nat))
  | 0 => []
  | t + 1 => (if m.testBit t = true then lvM σ m D t else []) ++ rsM σ m D t
theorem rsM_s {σ : St} {m t : Nat} {D : Nat → Nat} : rsM σ m D (t + 1) = (if m.testBit t = true then lvM σ m D t else []) ++ rsM σ m D t := rfl
theorem lvM_c {σ : St} {m t : Nat} {D D2 : Nat → Nat} (h : ∀ i, i ≤ t → D i = D2 i) : lvM σ m D t = lvM σ m D2 t := by
  unfold lvM
  rw [pM_c (D := D) (D2 := D2) (fun i hi => h i (by omega)), h t (by omega)]
theorem rsM_c {σ : St} {m : Nat} {D D2 : Nat → Nat} : ∀ {k : Nat}, (∀ t, t < k → D t = D2 t) → rsM σ m D k = rsM σ m D2 k
  | 0, _ => rfl
  | k + 1, h => by rw [rsM_s, rsM_s, rsM_c (k := k) (fun t ht => h t (by omega)), lvM_c (fun t ht => h t (by omega))]
def muM (m T : Nat) (D : Nat → Nat) : Nat → Nat
  | 0 => 0
  | t + 1 => (if m.testBit t = true then (6 - D t) * (1 + cF (T - t - 1)) + 1 else 1) + muM m T D t
theorem muM_s {m T t : Nat} {D : Nat → Nat} : muM m T D (t + 1) = (if m.testBit t = true then (6 - D t) * (1 + cF (T - t - 1)) + 1 else 1) + muM m T D t := rfl
theorem muM_c {m T : Nat} {D D2 : Nat → Nat} : ∀ {k : Nat}, (∀ t, t < k → D t = D2 t) → muM m T D k = muM m T D2 k
  | 0, _ => rfl
  | k + 1, h => by rw [muM_s, muM_s, muM_c (k := k) (fun t ht => h t (by omega)), h k (by omega)]
/-- the towns below k that take part have their days, the others nothing -/
def Sh (σ : St) (m : Nat) (D : Nat → Nat) (k : Nat) (f : Nat → Nat) : Prop := (∀ t, t < oT σ → f t = if t < k ∧ m.testBit t = true then 2 ^ D t else 0) ∧ ∀ t, t < k → m.testBit t = true → D t < oW σ
theorem FM.cong {σ : St} {f g : Nat → Nat} {M : Mem} (h : FM σ f M) (e : ∀ t, t < oT σ → f t = g t) : FM σ g M := ⟨h.1, h.2.1, h.2.2.1, fun t ht => by rw [h.2.2.2.1 t ht, e t ht], h.2.2.2.2⟩
theorem all_up {m k t : Nat} {D : Nat → Nat} {c : Nat × Nat → Bool} (h : (pM m D k).all c = false) (hkt : k ≤ t) : (pM m D t).all c = false := by
  induction t with
  | zero =>
    obtain rfl : k = 0 := by omega
    exact h
  | succ t ih =>
    by_cases q : k = t + 1
    · rw [← q]; exact h
    · rw [pM_s, List.all_append, ih (by omega), Bool.false_and]
section FRE
variable {d bc bs m t e : Nat} {σ : St} {D f : Nat → Nat} {M : Mem} {K : Bool → Mem → Prop}
theorem fre2 (hw : WF σ) (h0 : FM σ f M) (hf : ∀ t, t < oT σ → f t < 128) (ht : t < oT σ) (he : e < oW σ) (hft : f t = 2 ^ e) (hS : ∀ o, o < t → f o = if m.testBit o = true then 2 ^ D o else 0) (hDW : ∀ o, o < t → m.testBit o = true → D o < oW σ) (h : K (okD σ (oW σ) (pM m D t) t e) M) :
    ∀ (n o : Nat), o + n = t + 1 → (o ≤ t → (pM m D o).all (fun x => cndB σ (oW σ) x.1 x.2 t e) = true) → (o = t + 1 → okD σ (oW σ) (pM m D t) t e = true) → Ex (d + 3) m_MM_isFree bc bs 2 [some (.ref 78), some (.int (nI t)), some (.int (nI o))] [] M (PB K) := by
  have h6 := hw.T6
  have hW := hw.W
  have hF := h0.1
  have h0' : FM σ (fun t => if t < oT σ then f t else 0) M := h0.cong (fun t ht => by rw [if_pos ht])
  have hf' : ∀ t, (fun t => if t < oT σ then f t else 0) t < 128 := fun t => by
    show (if t < oT σ then f t else 0) < 128
    split
    · exact hf t (by assumption)
    · decide
  have eft : (fun t => if t < oT σ then f t else 0) t = 2 ^ e := by
    show (if t < oT σ then f t else 0) = 2 ^ e
    rw [if_pos ht]; exact hft
  intro n
  induction n with
  | zero =>
    intro o ho hall hfin
    obtain rfl : o = t + 1 := by omega
    exact k_MM_isFree_2 hF ⟨fun _ => PB.mk (hfin rfl).symm h, fun q => absurd (nI_lt (by omega) (by omega)) q⟩
  | succ n ih =>
    intro o ho hall hfin
    have hot := hall (by omega)
    refine k_MM_isFree_2 hF ⟨fun q => absurd q (nI_nlt (by omega) (by omega)), fun _ => ?_⟩
    refine sm_doBar hw h0' hf' (show o ≤ t by omega) ht ?_
    rw [nI_add]
    by_cases y : o = t
    · subst y
      have e1 : barA σ (oW σ) (fun t => if t < oT σ then f t else 0) o o = !(oMy σ o).testBit e := by
        unfold barA selfB
        rw [if_pos rfl, eft]
        exact self128 _ (by have := (hw.x.1 o ht).1; omega) e (by omega)
      rw [e1]
      refine ⟨hF, fun q => ih (o + 1) (by omega) (fun w => by omega) (fun _ => ?_), fun q => PB.mk ?_ h⟩
      · unfold okD
        rw [hot, Bool.and_true]
        cases z : (oMy σ o).testBit e with
        | true => rfl
        | false => rw [z] at q; cases q
      · unfold okD
        cases z : (oMy σ o).testBit e with
        | true => rw [z] at q; cases q
        | false => rfl
    · have e1 : barA σ (oW σ) (fun t => if t < oT σ then f t else 0) o t = (m.testBit o && !cndB σ (oW σ) o (D o) t e) := by
        unfold barA
        rw [if_neg y]
        have hfo : (fun t => if t < oT σ then f t else 0) o = if m.testBit o = true then 2 ^ D o else 0 := by
          show (if o < oT σ then f o else 0) = _
          rw [if_pos (by omega)]; exact hS o (by omega)
        cases z : m.testBit o with
        | true =>
          rw [z, if_pos rfl] at hfo
          rw [bar_p (f := fun t => if t < oT σ then f t else 0) hfo eft (hDW o (by omega) z) he hW.2]; rfl
        | false =>
          rw [z, if_neg (by decide)] at hfo
          rw [bar_0 (f := fun t => if t < oT σ then f t else 0) hfo]; rfl
      rw [e1]
      have e2 : (pM m D (o + 1)).all (fun x => cndB σ (oW σ) x.1 x.2 t e) = !(m.testBit o && !cndB σ (oW σ) o (D o) t e) := by
        rw [pM_s, List.all_append, hot, Bool.true_and]
        cases m.testBit o with
        | true => rw [if_pos rfl]; cases z : cndB σ (oW σ) o (D o) t e <;> simp [z]
        | false => rfl
      refine ⟨hF, fun q => ih (o + 1) (by omega) (fun _ => by rw [e2, q]; rfl) (fun w => by omega), fun q => PB.mk ?_ h⟩
      have e3 := all_up (t := t) (show (pM m D (o + 1)).all (fun x => cndB σ (oW σ) x.1 x.2 t e) = false by rw [e2, q]; rfl) (by omega)
      unfold okD
      rw [e3, Bool.and_false]
theorem sm_isFree (hw : WF σ) (h0 : FM σ f M) (hf : ∀ t, t < oT σ → f t < 128) (ht : t < oT σ) (he : e < oW σ) (hft : f t = 2 ^ e) (hS : ∀ o, o < t → f o = if m.testBit o = true then 2 ^ D o else 0) (hDW : ∀ o, o < t → m.testBit o = true → D o < oW σ) (h : K (okD σ (oW σ) (pM m D t) t e) M) : Con (d + 3) m_MM_isFree 0 0 [.ref 78, .int (nI t)] M (PB K) := by
  refine Con.ent (k := 1) F_MM_isFree.1 rfl (Nat.le_of_ble_eq_true rfl) (k_MM_isFree_0 h0.1 ?_)
  exact fre2 hw h0 hf ht he hft hS hDW h (t + 1) 0 (by omega) (fun _ => rfl) (fun w => by omega)
end FRE
section NWM
variable {d bc bs m : Nat} {σ : St} {M0 : Mem} {K : Bool → Mem → Prop} {L : List (List (Nat × Nat))} {l2 l4 : Int32}
theorem two_W (W : Nat) (h : W ≤ 7) : nI 1 <<< (nI W &&& 31) = nI (2 ^ W) := one_N (by omega)
theorem p2_le {a b : Nat} (ha : a ≤ 7) (hb : b ≤ 7) : nI (2 ^ a) ≤ nI (2 ^ b) ↔ a ≤ b := by
  have h1 := Nat.pow_le_pow_right (n := 2) (by decide) ha
  have h2 := Nat.pow_le_pow_right (n := 2) (by decide) hb
  rw [nI_leI (by omega) (by omega)]
  exact Nat.pow_le_pow_iff_right (by decide)
theorem scn {t : Nat} {D f : Nat → Nat} {e0 : Nat} (hw : WF σ) (ht : t < oT σ) (hf : ∀ o, o < oT σ → o ≠ t → f o < 128) (hS : ∀ o, o < t → f o = if m.testBit o = true then 2 ^ D o else 0) (hDW : ∀ o, o < t → m.testBit o = true → D o < oW σ)
    (Hn : ∀ M2, FM σ (u1 f t (2 ^ oW σ)) M2 → FrG [109] [] M0 M2 → upF (opP σ (oW σ) (pM m D t) t) (7 - e0) e0 = [] → Ex (d + 4) m_MM_nextWay bc bs 154 [some (.ref 78), some (.int (nI m)), some (.int l2), some (.int (nI t)), some (.int l4), none] [] M2 (PB K))
    (Hs : ∀ x M2, e0 ≤ x → x < oW σ → FM σ (u1 f t (2 ^ x)) M2 → FrG [109] [] M0 M2 → upF (opP σ (oW σ) (pM m D t) t) (7 - e0) e0 = x :: upF (opP σ (oW σ) (pM m D t) t) (7 - (x + 1)) (x + 1) → Ex (d + 4) m_MM_nextWay bc bs 154 [some (.ref 78), some (.int (nI m)), some (.int l2), some (.int (nI t)), some (.int l4), none] [] M2 (PB K)) :
    ∀ (n e : Nat) (M : Mem), e + n = oW σ → e0 ≤ e → FM σ (u1 f t (2 ^ e)) M → FrG [109] [] M0 M → upF (opP σ (oW σ) (pM m D t) t) (7 - e0) e0 = upF (opP σ (oW σ) (pM m D t) t) (7 - e) e → Ex (d + 4) m_MM_nextWay bc bs 118 [some (.ref 78), some (.int (nI m)), some (.int l2), some (.int (nI t)), some (.int l4), none] [] M (PB K) := by
  have h6 := hw.T6
  have hW := hw.W
  have vt := vN (show t < 6 by omega) (by decide)
  intro n
  induction n with
  | zero =>
    intro e M he h0e h0 hfr hup
    obtain rfl : e = oW σ := by omega
    refine k_MM_nextWay_118 h0.1 ?_
    rw [nI_clamp (by omega), h0.2.1.2.1, h0.2.2.2.1 t ht, u1_s, two_W _ hW.2]
    refine ⟨vt, fun _ => Hn M h0 hfr ?_, fun q => absurd ((p2_le hW.2 hW.2).mpr (Nat.le_refl _)) q⟩
    rw [hup]
    refine up_none (fun x a b => ?_)
    unfold opP
    rw [decide_eq_false (by omega), Bool.false_and]
  | succ n ih =>
    intro e M he h0e h0 hfr hup
    refine k_MM_nextWay_118 h0.1 ?_
    rw [nI_clamp (by omega), h0.2.1.2.1, h0.2.2.2.1 t ht, u1_s, two_W _ hW.2]
    refine ⟨vt, fun q => absurd ((p2_le hW.2 (by omega)).mp q) (by omega), fun _ => ?_⟩
    have e7 := p7 (show e < 7 by omega)
    rw [show 7 - e = (7 - (e + 1)) + 1 by omega, up_s] at hup
    have eo : opP σ (oW σ) (pM m D t) t e = okD σ (oW σ) (pM m D t) t e := by unfold opP; rw [decide_eq_true (by omega), Bool.true_and]
    rw [eo] at hup
    refine sm_isFree (m := m) (D := D) hw h0 (fun o ho => ?_) ht (show e < oW σ by omega) (u1_s _ _ _) (fun o ho => by rw [u1_n (by omega)]; exact hS o ho) hDW ⟨h0.1, fun q => ?_, fun q => ⟨vt, vt, ?_⟩⟩
    · by_cases y : o = t
      · subst y; rw [u1_s]; exact e7
      · rw [u1_n y]; exact hf o ho y
    · rw [q, if_pos rfl] at hup
      exact Hs e M h0e (by omega) h0 hfr hup
    · rw [q, if_neg (by decide)] at hup
      rw [h0.2.2.2.1 t ht, u1_s, shl_N (by decide) (by omega)]
      refine ih (e + 1) _ (by omega) (by omega) (FM.cong (h0.set t (2 ^ e * 2 ^ 1)) (fun o ho => ?_)) (hfr.fwi (by simp)) hup
      by_cases y : o = t
      · subst y; rw [u1_s, u1_s, Nat.pow_succ 2 e]
      · rw [u1_n y, u1_n y, u1_n y]
def FwM (σ : St) (m : Nat) (l2 : Int32) (L : List (List (Nat × Nat))) (M0 : Mem) (d bc bs n : Nat) (K : Bool → Mem → Prop) : Prop := ∀ (t : Nat) (D f : Nat → Nat) (M : Mem), cF (oT σ - t) + muM m (oT σ) D t ≤ n → t ≤ oT σ → FM σ f M → FrG [109] [] M0 M → Sh σ m D t f → L = exW σ (oW σ) (tsF m (oT σ) t) (pM m D t) ++ rsM σ m D t → Ex (d + 4) m_MM_nextWay bc bs 48 [some (.ref 78), some (.int (nI m)), some (.int l2), some (.int (nI t)), some (.int (nI 1)), none] [] M (PB K)
def BwM (σ : St) (m : Nat) (l2 : Int32) (L : List (List (Nat × Nat))) (M0 : Mem) (d bc bs n : Nat) (K : Bool → Mem → Prop) : Prop := ∀ (t : Nat) (D f : Nat → Nat) (M : Mem), muM m (oT σ) D t ≤ n → t ≤ oT σ → FM σ f M → FrG [109] [] M0 M → Sh σ m D t f → L = rsM σ m D t → Ex (d + 4) m_MM_nextWay bc bs 48 [some (.ref 78), some (.int (nI m)), some (.int l2), some (.int (nI t - nI 1)), some (.int (nI 0)), none] [] M (PB K)
theorem Sh.lo {t k : Nat} {D f : Nat → Nat} (h : Sh σ m D k f) (hk : k ≤ oT σ) (ht : t < k) (hb : m.testBit t = true) : f t = 2 ^ D t := by rw [h.1 t (by omega), if_pos ⟨ht, hb⟩]
theorem Sh.lt {k : Nat} {D f : Nat → Nat} (hw : WF σ) (h : Sh σ m D k f) : ∀ t, t < oT σ → f t < 128 := fun t ht => by
  rw [h.1 t ht]
  split
  · rename_i q
    have := h.2 t q.1 q.2
    have hW := hw.W
    exact p7 (by omega)
  · decide
theorem lvl {n t e0 : Nat} {D f : Nat → Nat} {M : Mem} (hw : WF σ) (ihF : FwM σ m l2 L M0 d bc bs n K) (ihB : BwM σ m l2 L M0 d bc bs n K) (ht : t < oT σ) (hb : m.testBit t = true) (he : e0 ≤ oW σ) (h0 : FM σ (u1 f t (2 ^ e0)) M) (hfr : FrG [109] [] M0 M) (hS : Sh σ m D t (u1 f t 0)) (hL : L = (upF (opP σ (oW σ) (pM m D t) t) (7 - e0) e0).flatMap (fun d => exW σ (oW σ) (tsF m (oT σ) (t + 1)) (pM m D t ++ [(t, d)])) ++ rsM σ m D t) (hmu : ∀ x, e0 ≤ x → x < 7 → cF (oT σ - t - 1) + ((6 - x) * (1 + cF (oT σ - t - 1)) + 1) + muM m (oT σ) D t ≤ n) (hmu2 : muM m (oT σ) D t ≤ n) :
    Ex (d + 4) m_MM_nextWay bc bs 118 [some (.ref 78), some (.int (nI m)), some (.int l2), some (.int (nI t)), some (.int l4), none] [] M (PB K) := by
  have h6 := hw.T6
  have hW := hw.W
  have vt := vN (show t < 6 by omega) (by decide)
  have hS1 : ∀ o, o < oT σ → o ≠ t → f o = if o < t ∧ m.testBit o = true then 2 ^ D o else 0 := fun o ho hne => by
    have := hS.1 o ho
    rwa [u1_n hne] at this
  refine scn (D := D) (f := f) (e0 := e0) hw ht (fun o ho hne => ?_) (fun o ho => ?_) hS.2 (fun M2 h2 f2 hu => ?_) (fun x M2 hx hxW h2 f2 hu => ?_) (oW σ - e0) e0 M (by omega) (Nat.le_refl _) h0 hfr rfl
  · have := hS.lt hw o ho
    rwa [u1_n hne] at this
  · rw [hS1 o (by omega) (by omega)]
    by_cases y : m.testBit o = true
    · rw [if_pos ⟨ho, y⟩, if_pos y]
    · rw [if_neg (fun w => y w.2), if_neg y]
  · refine k_MM_nextWay_154 h2.1 ?_
    rw [nI_clamp (by omega), h2.2.1.2.1, h2.2.2.2.1 t ht, u1_s, two_W _ hW.2, m1_sub]
    refine ⟨vt, fun _ => ⟨fun _ => ⟨vt, fun _ => ?_, fun w => absurd rfl w⟩, fun w => absurd rfl w⟩, fun q => absurd ((p2_le hW.2 hW.2).mpr (Nat.le_refl _)) q⟩
    refine ihB t D (u1 f t 0) _ hmu2 (by omega) (FM.cong (h2.set t 0) (fun o ho => ?_)) (f2.fwi (by simp)) hS ?_
    · by_cases y : o = t
      · subst y; rw [u1_s, u1_s]
      · rw [u1_n y, u1_n y, u1_n y]
    · rw [hL, hu]; rfl
  · refine k_MM_nextWay_154 h2.1 ?_
    rw [nI_clamp (by omega), h2.2.1.2.1, h2.2.2.2.1 t ht, u1_s, two_W _ hW.2, nI_add]
    refine ⟨vt, fun q => absurd ((p2_le hW.2 (by omega)).mp q) (by omega), fun _ => ⟨fun w => absurd w ne01, fun _ => ⟨vt, vt, fun w => absurd w ne01, fun _ => ?_⟩⟩⟩
    refine ihF (t + 1) (u1 D t x) (u1 f t (2 ^ x)) _ ?_ (by omega) (FM.cong (h2.set t (2 ^ x)) (fun o ho => ?_)) (f2.fwi (by simp)) ⟨fun o ho => ?_, fun o ho hbo => ?_⟩ ?_
    · have := hmu x hx (by omega)
      rw [muM_s, if_pos hb, u1_s, muM_c (D2 := D) (fun i hi => u1_n (by omega)), show oT σ - (t + 1) = oT σ - t - 1 by omega]
      omega
    · by_cases y : o = t
      · subst y; rw [u1_s, u1_s]
      · rw [u1_n y, u1_n y]
    · by_cases y : o = t
      · subst y; rw [u1_s, if_pos ⟨by omega, hb⟩, u1_s]
      · rw [u1_n y, u1_n y, hS1 o ho y]
        by_cases z : o < t ∧ m.testBit o = true
        · rw [if_pos z, if_pos ⟨by omega, z.2⟩]
        · rw [if_neg z, if_neg (fun w => z ⟨by omega, w.2⟩)]
    · by_cases y : o = t
      · subst y; rw [u1_s]; exact hxW
      · rw [u1_n y]; exact hS.2 o (by omega) hbo
    · rw [hL, hu, List.flatMap_cons, rsM_s, if_pos hb, rsM_c (D := u1 D t x) (D2 := D) (k := t) (fun i hi => u1_n (by omega)), pM_s, if_pos hb, pM_u (Nat.le_refl _), u1_s]
      unfold lvM
      rw [pM_u (Nat.le_refl _), u1_s, List.append_assoc]
theorem nw48 (hw : WF σ) (hm : m < 128) (H0 : ∀ M2 f, FM σ f M2 → FrG [109] [] M0 M2 → L = [] → K false M2) (H1 : ∀ M2 D f, FM σ f M2 → FrG [109] [] M0 M2 → Sh σ m D (oT σ) f → L = pM m D (oT σ) :: rsM σ m D (oT σ) → K true M2) : ∀ n, FwM σ m l2 L M0 d bc bs n K ∧ BwM σ m l2 L M0 d bc bs n K := by
  have h6 := hw.T6
  have hW := hw.W
  have top : ∀ (t : Nat) (D f : Nat → Nat) (M : Mem), t = oT σ → FM σ f M → FrG [109] [] M0 M → Sh σ m D t f → L = exW σ (oW σ) (tsF m (oT σ) t) (pM m D t) ++ rsM σ m D t → Ex (d + 4) m_MM_nextWay bc bs 48 [some (.ref 78), some (.int (nI m)), some (.int l2), some (.int (nI t)), some (.int (nI 1)), none] [] M (PB K) := by
    intro t D f M ht h0 hfr hS hL
    subst ht
    rw [tsF_T, exW_0] at hL
    have s213 : Ex (d + 4) m_MM_nextWay bc bs 213 [some (.ref 78), some (.int (nI m)), some (.int l2), some (.int (nI (oT σ))), some (.int (nI 1)), none] [] M (PB K) := by
      refine k_MM_nextWay_213 h0.1 ?_
      rw [h0.2.1.1]
      exact ⟨fun q => absurd rfl q, fun _ => PB.mk rfl (H1 M D f h0 hfr hS hL)⟩
    refine k_MM_nextWay_48 h0.1 ?_
    rw [h0.2.1.1]
    exact ⟨fun _ => s213, fun _ => ⟨fun _ => s213, fun q => absurd (nI_le (Nat.le_refl _) (by omega)) q⟩⟩
  have bot : ∀ (t : Nat) (D f : Nat → Nat) (M : Mem), t = 0 → FM σ f M → FrG [109] [] M0 M → L = rsM σ m D t → Ex (d + 4) m_MM_nextWay bc bs 48 [some (.ref 78), some (.int (nI m)), some (.int l2), some (.int (nI t - nI 1)), some (.int (nI 0)), none] [] M (PB K) := by
    intro t D f M ht h0 hfr hL
    subst ht
    refine k_MM_nextWay_48 h0.1 ⟨fun _ => k_MM_nextWay_213 h0.1 ?_, fun q => absurd ((nlt0 (by decide)).mpr rfl) q⟩
    rw [h0.2.1.1]
    refine ⟨fun _ => PB.mk rfl (H0 M f h0 hfr hL), fun q => ?_⟩
    rw [i_eq, pk_sub_toInt (by decide) (by decide), nI_T (by omega)] at q
    omega
  intro n
  induction n with
  | zero =>
    refine ⟨fun t D f M hmu ht h0 hfr hS hL => top t D f M ?_ h0 hfr hS hL, fun t D f M hmu ht h0 hfr hS hL => bot t D f M ?_ h0 hfr hL⟩
    · cases q : oT σ - t with
      | zero => omega
      | succ j => rw [q, cF_s] at hmu; omega
    · cases t with
      | zero => rfl
      | succ k => rw [muM_s] at hmu; split at hmu <;> omega
  | succ n ih =>
    obtain ⟨ihF, ihB⟩ := ih
    refine ⟨fun t D f M hmu ht h0 hfr hS hL => ?_, fun κ D f M hmu ht h0 hfr hS hL => ?_⟩
    · by_cases htT : t = oT σ
      · exact top t D f M htT h0 hfr hS hL
      · have htl : t < oT σ := by omega
        have vt := vN (show t < 6 by omega) (by decide)
        have ft0 : f t = 0 := by rw [hS.1 t htl, if_neg (by omega)]
        have ec : cF (oT σ - t) = 7 * (1 + cF (oT σ - t - 1)) + 1 := by
          rw [show oT σ - t = (oT σ - t - 1) + 1 by omega, cF_s]; rfl
        have hS0 : Sh σ m D t (u1 f t 0) := ⟨fun o ho => by
          by_cases y : o = t
          · subst y; rw [u1_s, if_neg (by omega)]
          · rw [u1_n y]; exact hS.1 o ho, hS.2⟩
        refine k_MM_nextWay_48 h0.1 ?_
        rw [h0.2.1.1, nI_clamp (by omega), h0.2.2.2.1 t htl, ft0, bit_0 (by omega) (by omega)]
        refine ⟨fun q => absurd q (nI_pos (by omega)), fun _ => ⟨fun q => absurd q (by rw [nI_leI (by omega) (by omega)]; omega), fun _ => ⟨fun q => ⟨vt, fun w => absurd rfl w, fun _ => ⟨vt, ?_⟩⟩, fun q => ⟨vt, fun w => absurd w ne01, fun _ => ?_⟩⟩⟩⟩
        · have hb : m.testBit t = true := by cases w : m.testBit t; exact absurd w q; rfl
          refine lvl (f := f) (e0 := 0) hw ihF ihB htl hb (by omega) (h0.set t 1) (hfr.fwi (by simp)) hS0 ?_ (fun x _ hx7 => ?_) (by omega)
          · rw [hL, tsF_s htl, if_pos hb, exW_s]; rfl
          · have h7 : (6 - x) * (1 + cF (oT σ - t - 1)) ≤ 6 * (1 + cF (oT σ - t - 1)) := Nat.mul_le_mul_right _ (by omega)
            omega
        · rw [nI_add]
          refine ihF (t + 1) D (u1 f t 0) _ ?_ (by omega) (h0.set t 0) (hfr.fwi (by simp)) ⟨fun o ho => ?_, fun o ho hbo => ?_⟩ ?_
          · rw [muM_s, if_neg (by rw [q]; decide), show oT σ - (t + 1) = oT σ - t - 1 by omega]
            omega
          · rw [hS0.1 o ho]
            by_cases z : o < t ∧ m.testBit o = true
            · rw [if_pos z, if_pos ⟨by omega, z.2⟩]
            · rw [if_neg z, if_neg (fun w => z ⟨by
                by_cases y : o = t
                · subst y; rw [q] at w; cases w.2
                · omega, w.2⟩)]
          · by_cases y : o = t
            · subst y; rw [q] at hbo; cases hbo
            · exact hS.2 o (by omega) hbo
          · rw [hL, tsF_s htl, if_neg (by rw [q]; decide), rsM_s, if_neg (by rw [q]; decide), pM_s, if_neg (by rw [q]; decide), List.append_nil, List.nil_append]
    · cases κ with
      | zero => exact bot 0 D f M rfl h0 hfr hL
      | succ t =>
        have htl : t < oT σ := by omega
        have vt := vN (show t < 6 by omega) (by decide)
        have hmt := muM_s (m := m) (T := oT σ) (D := D) (t := t)
        have hS0 : Sh σ m D t (u1 f t 0) := ⟨fun o ho => by
          by_cases y : o = t
          · subst y; rw [u1_s, if_neg (by omega)]
          · rw [u1_n y, hS.1 o ho]
            by_cases z : o < t ∧ m.testBit o = true
            · rw [if_pos z, if_pos ⟨by omega, z.2⟩]
            · rw [if_neg z, if_neg (fun w => z ⟨by omega, w.2⟩)], fun o ho hbo => hS.2 o (by omega) hbo⟩
        rw [nI_sub1 (by omega), Nat.add_sub_cancel]
        refine k_MM_nextWay_48 h0.1 ?_
        rw [h0.2.1.1, nI_clamp (by omega), h0.2.2.2.1 t htl, bit_0 (by omega) (by omega)]
        refine ⟨fun q => absurd q (nI_pos (by omega)), fun _ => ⟨fun q => absurd q (by rw [nI_leI (by omega) (by omega)]; omega), fun _ => ⟨fun q => ?_, fun q => ⟨vt, fun _ => ?_, fun w => absurd rfl w⟩⟩⟩⟩
        · have hb : m.testBit t = true := by cases w : m.testBit t; exact absurd w q; rfl
          have hD := hS.2 t (by omega) hb
          have eft : f t = 2 ^ D t := hS.lo ht (by omega) hb
          rw [if_pos hb] at hmt
          rw [rsM_s, if_pos hb] at hL
          have hp := Nat.two_pow_pos (D t)
          have hp7 := p7 (show D t < 7 by omega)
          rw [eft, shl_N (by decide) (by omega)]
          refine ⟨vt, fun _ => ⟨vt, vt, ?_⟩, fun w => absurd w (by rw [nI_z (by omega)]; omega)⟩
          refine lvl (f := f) (e0 := D t + 1) hw ihF ihB htl hb (by omega) (FM.cong (h0.set t (2 ^ D t * 2 ^ 1)) (fun o ho => ?_)) (hfr.fwi (by simp)) hS0 hL (fun x hx hx7 => ?_) (by omega)
          · by_cases y : o = t
            · subst y; rw [u1_s, u1_s, Nat.pow_succ 2 (D o)]
            · rw [u1_n y, u1_n y]
          · have h7 : ((6 - x) + 1) * (1 + cF (oT σ - t - 1)) ≤ (6 - D t) * (1 + cF (oT σ - t - 1)) := Nat.mul_le_mul_right _ (by omega)
            rw [Nat.succ_mul] at h7
            omega
        · rw [if_neg (by rw [q]; decide)] at hmt
          rw [rsM_s, if_neg (by rw [q]; decide), List.nil_append] at hL
          rw [m1_sub]
          exact ihB t D (u1 f t 0) _ (by omega) (by omega) (h0.set t 0) (hfr.fwi (by simp)) hS0 hL
/-- m's goer: these are to come -/
def ItM (σ : St) (m : Nat) (L : List (List (Nat × Nat))) (M : Mem) : Prop := ∃ D f, FM σ f M ∧ Sh σ m D (oT σ) f ∧ L = rsM σ m D (oT σ)
def GM (σ : St) (M : Mem) : Prop := Fm M ∧ MLand σ M ∧ MText σ M ∧ G108 σ M (oT σ) 0
theorem FM.g {f : Nat → Nat} {M : Mem} (h : FM σ f M) : GM σ M := ⟨h.1, h.2.1, h.2.2.1, h.2.2.2.2⟩
theorem GM.wi {M : Mem} {k : Nat} {v : Int32} (h : GM σ M) : GM σ (wi M 109 k v) := by
  obtain ⟨h1, h2, h3, h5⟩ := h
  refine ⟨h1.fwi, h2.cg (fun k _ => by rw [mi_n (by decide)]) (fun j a b => mi_n (by omega)), h3.cg (by rw [mi_n (by decide)]) (mi_n (by decide)) (mi_n (by decide)), ?_⟩
  unfold G108
  rw [mi_n (by decide)]
  exact h5
theorem nw25 (hw : WF σ) {l3 : Int32} (H : ∀ M2, FM σ (fun _ => 0) M2 → FrG [109] [] M0 M2 → Ex (d + 4) m_MM_nextWay bc bs 48 [some (.ref 78), some (.int (nI m)), some (.int l2), some (.int l3), some (.int l4), none] [] M2 (PB K)) : ∀ (n t : Nat) (M : Mem), t + n = oT σ → GM σ M → FrG [109] [] M0 M → (∀ o, o < t → mi M 109 o = nI 0) → Ex (d + 4) m_MM_nextWay bc bs 25 [some (.ref 78), some (.int (nI m)), some (.int l2), some (.int l3), some (.int l4), some (.int (nI t))] [] M (PB K) := by
  have h6 := hw.T6
  intro n
  induction n with
  | zero =>
    intro t M ht h0 hfr hz
    obtain rfl : t = oT σ := by omega
    refine k_MM_nextWay_25 h0.1 ?_
    rw [h0.2.1.1]
    exact ⟨fun _ => H M ⟨h0.1, h0.2.1, h0.2.2.1, hz, h0.2.2.2⟩ hfr, fun q => absurd (nI_le (Nat.le_refl _) (by omega)) q⟩
  | succ n ih =>
    intro t M ht h0 hfr hz
    refine k_MM_nextWay_25 h0.1 ?_
    rw [h0.2.1.1, nI_add, nI_clamp (by omega)]
    refine ⟨fun q => absurd q (by rw [nI_leI (by omega) (by omega)]; omega), fun _ => ⟨vN (by omega) (by decide), ih (t + 1) _ (by omega) h0.wi (hfr.fwi (by simp)) (fun o ho => ?_)⟩⟩
    rw [mi_w]
    by_cases y : o = t
    · subst y; rw [u1_s]
    · rw [u1_n y]; exact hz o (by omega)
theorem sm_nextB (hw : WF σ) (hm : m < 128) (h0 : GM σ M0) (hF : exW σ (oW σ) (memT (oT σ) m) [] = [] → ∀ M2, GM σ M2 → FrG [109] [] M0 M2 → K false M2)
    (hN : ∀ w L2 M2 D, exW σ (oW σ) (memT (oT σ) m) [] = w :: L2 → ItM σ m L2 M2 → FrG [109] [] M0 M2 → w = pM m D (oT σ) → (∃ f, FM σ f M2 ∧ Sh σ m D (oT σ) f) → K true M2) : Con (d + 4) m_MM_nextWay 0 0 [.ref 78, .int (nI m), .int (nI 1)] M0 (PB K) := by
  have h6 := hw.T6
  refine Con.ent (k := 3) F_MM_nextWay.1 rfl (Nat.le_of_ble_eq_true rfl) (k_MM_nextWay_0 h0.1 ⟨fun q => absurd q ne01, fun _ => ⟨fun q => absurd q ne01, fun _ => ?_⟩⟩)
  refine nw25 hw (fun M2 h2 f2 => ?_) (oT σ) 0 M0 (by omega) h0 (FrG.rf _ _) (fun o ho => absurd ho (Nat.not_lt_zero _))
  refine (nw48 (L := exW σ (oW σ) (memT (oT σ) m) []) (M0 := M0) hw hm (fun M3 f h3 f3 hL => hF hL M3 h3.g f3) (fun M3 D f h3 f3 hS hL => hN _ _ M3 D hL ⟨D, f, h3, hS, rfl⟩ f3 rfl ⟨f, h3, hS⟩) (cF (oT σ))).1 0 (fun _ => 0) (fun _ => 0) M2 ?_ (Nat.zero_le _) h2 f2 ⟨fun o ho => by rw [if_neg (by omega)], fun o ho => absurd ho (Nat.not_lt_zero _)⟩ ?_
  · show cF (oT σ - 0) + 0 ≤ _
    rw [Nat.sub_zero]; omega
  · rw [tsF_0]
    exact (List.append_nil _).symm
theorem sm_nextC (hw : WF σ) (hm : m < 128) (h0 : ItM σ m L M0) (hF : L = [] → ∀ M2, GM σ M2 → FrG [109] [] M0 M2 → K false M2)
    (hN : ∀ w L2 M2 D, L = w :: L2 → ItM σ m L2 M2 → FrG [109] [] M0 M2 → w = pM m D (oT σ) → (∃ f, FM σ f M2 ∧ Sh σ m D (oT σ) f) → K true M2) : Con (d + 4) m_MM_nextWay 0 0 [.ref 78, .int (nI m), .int (nI 0)] M0 (PB K) := by
  have h6 := hw.T6
  obtain ⟨D, f, h1, hS, hL⟩ := h0
  refine Con.ent (k := 3) F_MM_nextWay.1 rfl (Nat.le_of_ble_eq_true rfl) (k_MM_nextWay_0 h1.1 ⟨fun _ => ⟨fun _ => ?_, fun q => absurd rfl q⟩, fun q => absurd rfl q⟩)
  rw [h1.2.1.1]
  exact (nw48 (L := L) (M0 := M0) hw hm (fun M3 f h3 f3 hL => hF hL M3 h3.g f3) (fun M3 D f h3 f3 hS hL => hN _ _ M3 D hL ⟨D, f, h3, hS, rfl⟩ f3 rfl ⟨f, h3, hS⟩) (muM m (oT σ) D (oT σ))).2 (oT σ) D f M0 (Nat.le_refl _) (Nat.le_refl _) h1 (FrG.rf _ _) hS hL
end NWM
