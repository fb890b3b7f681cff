/-! find, purely: what a way is worth, how far it is from a giving, the first best -/
def dyF (w : List (Nat × Nat)) : Nat → Nat := fun t => (w.map (fun x => x.2)).getD t 0
theorem dyF_r {T t : Nat} {D : Nat → Nat} (h : t < T) : dyF ((List.range T).map (fun t => (t, D t))) t = D t := by
  unfold dyF
  rw [List.map_map, List.getD_eq_getElem?_getD, List.getElem?_map, List.getElem?_range h]
  rfl
def hwV (σ : St) (D : Nat → Nat) (t : Nat) : Nat := minLT (fun o => decide (o ≠ t) && decide (D o = dB (oW σ) (D t))) (fun o => far (oT σ) (oRd σ) t o) (oT σ)
def owV (σ : St) (D : Nat → Nat) (t : Nat) : Nat := cntLT (fun o => decide (o ≠ t) && decide (D o = D t)) (oT σ)
def wwV (σ : St) (D : Nat → Nat) : Int32 := sumI (fun _ => true) (fun t => worthV σ t (D t) (hwV σ D t) (owV σ D t)) (oT σ)
def otN (σ : St) (l : List Nat) (D : Nat → Nat) : Nat := cntLT (fun t => !decide (numV l t = nI (D t))) (oT σ)
theorem cnt_c {p q : Nat → Bool} : ∀ {n : Nat}, (∀ i, i < n → p i = q i) → cntLT p n = cntLT q n
  | 0, _ => rfl
  | n + 1, h => by rw [cnt_s, cnt_s, h n (by omega), cnt_c (n := n) (fun i hi => h i (by omega))]
theorem min_c {p q : Nat → Bool} {g g2 : Nat → Nat} : ∀ {n : Nat}, (∀ i, i < n → p i = q i ∧ g i = g2 i) → minLT p g n = minLT q g2 n
  | 0, _ => rfl
  | n + 1, h => by rw [min_s, min_s, (h n (by omega)).1, (h n (by omega)).2, min_c (n := n) (fun i hi => h i (by omega))]
theorem sum_c {p q : Nat → Bool} {g g2 : Nat → Int32} : ∀ {n : Nat}, (∀ i, i < n → p i = q i ∧ g i = g2 i) → sumI p g n = sumI q g2 n
  | 0, _ => rfl
  | n + 1, h => by rw [sum_s, sum_s, (h n (by omega)).1, (h n (by omega)).2, sum_c (n := n) (fun i hi => h i (by omega))]
theorem hwV_c {σ : St} {D D2 : Nat → Nat} {t : Nat} (ht : t < oT σ) (h : ∀ i, i < oT σ → D i = D2 i) : hwV σ D t = hwV σ D2 t := min_c (fun i hi => ⟨by rw [h i hi, h t ht], rfl⟩)
theorem owV_c {σ : St} {D D2 : Nat → Nat} {t : Nat} (ht : t < oT σ) (h : ∀ i, i < oT σ → D i = D2 i) : owV σ D t = owV σ D2 t := cnt_c (fun i hi => by rw [h i hi, h t ht])
theorem wwV_c {σ : St} {D D2 : Nat → Nat} (h : ∀ i, i < oT σ → D i = D2 i) : wwV σ D = wwV σ D2 := sum_c (fun i hi => ⟨rfl, by rw [h i hi, hwV_c hi h, owV_c hi h]⟩)
theorem otN_c {σ : St} {l : List Nat} {D D2 : Nat → Nat} (h : ∀ i, i < oT σ → D i = D2 i) : otN σ l D = otN σ l D2 := cnt_c (fun i hi => by rw [h i hi])
theorem otN_le {σ : St} {l : List Nat} {D : Nat → Nat} : otN σ l D ≤ oT σ := cnt_le _ _
theorem cl_r (v : Int32) : -999 ≤ (cl999 v).toInt ∧ (cl999 v).toInt ≤ 999 := by
  have e1 : (nI 999).toInt = 999 := rfl
  have e2 : (-999 : Int32).toInt = -999 := rfl
  unfold cl999
  by_cases a : v ≤ nI 999
  · rw [if_pos a]
    rw [i_le, e1] at a
    by_cases b : (-999 : Int32) ≤ v
    · rw [if_pos b]
      rw [i_le, e2] at b
      exact ⟨b, a⟩
    · rw [if_neg b, e2]; omega
  · rw [if_neg a, e1]; omega
theorem worth_r {σ : St} {t e h o : Nat} : -999 ≤ (worthV σ t e h o).toInt ∧ (worthV σ t e h o).toInt ≤ 999 := cl_r _
theorem add_T {a b : Int32} (h1 : -1000000 ≤ a.toInt) (h2 : a.toInt ≤ 1000000) (h3 : -1000000 ≤ b.toInt) (h4 : b.toInt ≤ 1000000) : (a + b).toInt = a.toInt + b.toInt := by
  rw [Int32.toInt_add, bm32 (by omega) (by omega)]
def scV (σ : St) (aims : Int32) (l : List Nat) (w : List (Nat × Nat)) : Int32 := if aims = nI 2 then wwV σ (dyF w) else if aims = nI 3 then -(nI (otN σ l (dyF w))) else nI 0
abbrev Bst : Type := Option (Int32 × List (Nat × Nat))
def bstF (sc : List (Nat × Nat) → Int32) : List (List (Nat × Nat)) → Bst → Bst
  | [], a => a
  | w :: L, none => bstF sc L (some (sc w, w))
  | w :: L, some (b, v) => bstF sc L (if b < sc w then some (sc w, w) else some (b, v))
theorem bst_0 {sc : List (Nat × Nat) → Int32} {a : Bst} : bstF sc [] a = a := by cases a <;> rfl
theorem bst_n {sc : List (Nat × Nat) → Int32} {w : List (Nat × Nat)} {L : List (List (Nat × Nat))} : bstF sc (w :: L) none = bstF sc L (some (sc w, w)) := rfl
theorem bst_s {sc : List (Nat × Nat) → Int32} {w v : List (Nat × Nat)} {b : Int32} {L : List (List (Nat × Nat))} : bstF sc (w :: L) (some (b, v)) = bstF sc L (if b < sc w then some (sc w, w) else some (b, v)) := rfl
theorem bst_stop {sc : List (Nat × Nat) → Int32} {v : List (Nat × Nat)} {b : Int32} : ∀ {L : List (List (Nat × Nat))}, (∀ w ∈ L, ¬ b < sc w) → bstF sc L (some (b, v)) = some (b, v)
  | [], _ => rfl
  | w :: L, h => by
    rw [bst_s, if_neg (h w List.mem_cons_self)]
    exact bst_stop (fun x hx => h x (List.mem_cons_of_mem _ hx))
theorem bst_in {sc : List (Nat × Nat) → Int32} : ∀ {L : List (List (Nat × Nat))} {a : Bst} {b : Int32} {v : List (Nat × Nat)}, bstF sc L a = some (b, v) → v ∈ L ∨ a = some (b, v)
  | [], a, b, v, h => by rw [bst_0] at h; exact .inr h
  | w :: L, none, b, v, h => by
    rw [bst_n] at h
    rcases bst_in h with q | q
    · exact .inl (List.mem_cons_of_mem _ q)
    · injection q with q; injection q with q1 q2
      rw [← q2]; exact .inl List.mem_cons_self
  | w :: L, some (b0, v0), b, v, h => by
    rw [bst_s] at h
    rcases bst_in h with q | q
    · exact .inl (List.mem_cons_of_mem _ q)
    · split at q
      · injection q with q; injection q with q1 q2
        rw [← q2]; exact .inl List.mem_cons_self
      · exact .inr q
def fdOK (σ : St) (aims g : Int32) : Bool := isB 1 3 aims && (!decide (aims = nI 3) || (givAt σ g).isSome)
def fdL (σ : St) (g : Int32) : List Nat := match givAt σ g with
  | none => []
  | some gv => gv.2
def fdB (σ : St) (aims g : Int32) : Bst := bstF (scV σ aims (fdL σ g)) (waysV σ (oW σ)) none
def rsB (aims : Int32) : Bst → Int64
  | none => -4611686018427387903
  | some (b, _) => if aims = nI 1 then 1 else if aims = nI 2 then b.toInt64 else (-b).toInt64
def foB : Bst → Option (List Nat)
  | none => none
  | some (_, w) => some (w.map (fun x => x.2))
def pFind (σ : St) (aims g : Int32) : Int64 := if fdOK σ aims g = true then rsB aims (fdB σ aims g) else NOv
def tFind (σ : St) (aims g : Int32) : St := if fdOK σ aims g = true then sFo σ (foB (fdB σ aims g)) else σ
theorem ways_at {σ : St} {W : Nat} {w : List (Nat × Nat)} (h : w ∈ waysV σ W) : (w.map (fun x => x.2)).length = oT σ ∧ ∀ v ∈ w.map (fun x => x.2), v < W := by
  obtain ⟨ds, h1, h2, h3⟩ := exW_in _ _ _ h
  rw [rg_len] at h1
  have e : (List.zip (List.range (oT σ)) ds).map (fun x => x.2) = ds := by
    rw [List.map_snd_zip]
    rw [rg_len, h1]; exact Nat.le_refl _
  rw [List.nil_append] at h2
  rw [h2, e]
  exact ⟨h1, h3⟩
theorem WF.find {σ : St} (h : WF σ) (aims g : Int32) : WF (tFind σ aims g) := by
  have h6 := h.T6
  have hW := h.W
  unfold tFind
  split
  · obtain ⟨x0, b, c, x, tp, tx, gv, fo, ro, im, ss⟩ := h
    refine ⟨x0, b, c, x, tp, tx, gv, fun l hl => ?_, ro, im, ss⟩
    have hl : foB (fdB σ aims g) = some l := hl
    cases q : fdB σ aims g with
    | none => rw [q] at hl; cases hl
    | some a =>
      obtain ⟨b0, w⟩ := a
      rw [q] at hl
      injection hl with e
      subst e
      rcases bst_in (show bstF _ _ none = some (b0, w) from q) with y | y
      · obtain ⟨z1, z2⟩ := ways_at y
        exact ⟨by omega, fun v hv => by have := z2 v hv; omega⟩
      · cases y
  · exact h
/-- hours to a town, or 99 where it is no town -/
def hTo (σ : St) (t r : Nat) : Nat := if r = 6 then 99 else far (oT σ) (oRd σ) t r
def nrV (σ : St) (t s : Nat) : Nat → Nat
  | 0 => 6
  | k + 1 => if (k ≠ t ∧ s.testBit k = true) ∧ far (oT σ) (oRd σ) t k < minLT (fun o => decide (o ≠ t) && s.testBit o) (fun o => far (oT σ) (oRd σ) t o) k then k else nrV σ t s k
theorem nrV_s {σ : St} {t s k : Nat} : nrV σ t s (k + 1) = if (k ≠ t ∧ s.testBit k = true) ∧ far (oT σ) (oRd σ) t k < minLT (fun o => decide (o ≠ t) && s.testBit o) (fun o => far (oT σ) (oRd σ) t o) k then k else nrV σ t s k := rfl
theorem nrV_ok {σ : St} {t s : Nat} : ∀ (k : Nat), k ≤ 6 → (nrV σ t s k = 6 ∨ nrV σ t s k < k) ∧ hTo σ t (nrV σ t s k) = minLT (fun o => decide (o ≠ t) && s.testBit o) (fun o => far (oT σ) (oRd σ) t o) k
  | 0, _ => ⟨.inl rfl, rfl⟩
  | k + 1, hk => by
    obtain ⟨h1, h2⟩ := nrV_ok (σ := σ) (t := t) (s := s) k (by omega)
    rw [nrV_s, min_s]
    by_cases q : (k ≠ t ∧ s.testBit k = true) ∧ far (oT σ) (oRd σ) t k < minLT (fun o => decide (o ≠ t) && s.testBit o) (fun o => far (oT σ) (oRd σ) t o) k
    · rw [if_pos q, if_pos (by rw [decide_eq_true q.1.1, q.1.2]; rfl)]
      refine ⟨.inr (by omega), ?_⟩
      unfold hTo
      rw [if_neg (by omega)]
      have := q.2
      omega
    · rw [if_neg q]
      refine ⟨by omega, ?_⟩
      rw [h2]
      by_cases y : (decide (k ≠ t) && s.testBit k) = true
      · rw [if_pos y]
        rw [Bool.and_eq_true, decide_eq_true_eq] at y
        have : ¬ far (oT σ) (oRd σ) t k < minLT (fun o => decide (o ≠ t) && s.testBit o) (fun o => far (oT σ) (oRd σ) t o) k := fun w => q ⟨y, w⟩
        omega
      · rw [if_neg y]
theorem shl6 : ∀ t, t < 6 → ∀ s, s < 64 → (nI t <<< (nI 6 &&& 31)) ||| nI s = nI (64 * t + s) := by decide +kernel
theorem hTo_99 {σ : St} (hw : WF σ) {t r : Nat} : hTo σ t r ≤ 99 := by
  unfold hTo
  split
  · exact Nat.le_refl _
  · exact hw.far t r
section WEI
variable {d bc bs : Nat} {σ : St} {M0 : Mem} {K : Int32 → Mem → Prop}
theorem nro10 {M : Mem} {t s : Nat} (hw : WF σ) (h0 : YX σ M) (ht : t < oT σ) (hs : s < 64) (h : K (nI (nrV σ t s (oT σ))) M) : ∀ (n k : Nat), k + n = oT σ → Ex (d + 2) m_Finder_nearestOf bc bs 10 [some (.ref 53), some (.int (nI t)), some (.int (nI s)), some (.int (nI (nrV σ t s k))), some (.int (nI (minLT (fun o => decide (o ≠ t) && s.testBit o) (fun o => far (oT σ) (oRd σ) t o) k))), some (.int (nI k))] [] M (PI K) := by
  obtain ⟨hF, hL, hT⟩ := id h0
  have h6 := hw.T6
  intro n
  induction n with
  | zero =>
    intro k hk
    obtain rfl : k = oT σ := by omega
    refine k_Finder_nearestOf_10 hF ?_
    rw [hL.1]
    exact ⟨fun _ => PI.mk rfl h, fun q => absurd (nI_le (Nat.le_refl _) (by omega)) q⟩
  | succ n ih =>
    intro k hk
    have hkT : k < oT σ := by omega
    have h9 := hw.far t k
    have hmin := min_le (fun o => decide (o ≠ t) && s.testBit o) (fun o => far (oT σ) (oRd σ) t o) k
    have nx := ih (k + 1) (by omega)
    rw [nrV_s, min_s] at nx
    refine k_Finder_nearestOf_10 hF ?_
    rw [hL.1, nI_add, nI_eq (by omega) (by omega)]
    refine ⟨fun q => absurd q (by rw [nI_leI (by omega) (by omega)]; omega), fun _ => ⟨fun q => ?_, fun q => ?_⟩⟩
    · rw [if_neg (fun w => w.1.1 q), if_neg (by rw [decide_eq_false (by omega), Bool.false_and]; decide)] at nx
      exact nx
    · refine sx_hasBit hF (by omega) (by omega) ⟨hF, fun y => ?_, fun y => ?_⟩
      · rw [if_neg (fun w => by rw [y] at w; cases w.1.2), if_neg (by rw [y, Bool.and_false]; decide)] at nx
        exact nx
      · refine sx_hoursBetween hF hw hL ht hkT ⟨hF, fun z => ?_, fun z => sx_hoursBetween hF hw hL ht hkT ⟨hF, ?_⟩⟩ <;> rw [nI_leI (by omega) (by omega)] at z
        · rw [if_neg (fun w => by omega), if_pos (by rw [decide_eq_true q, y]; rfl), Nat.min_eq_left (by omega)] at nx
          exact nx
        · rw [if_pos ⟨⟨q, y⟩, by omega⟩, if_pos (by rw [decide_eq_true q, y]; rfl), Nat.min_eq_right (by omega)] at nx
          exact nx
theorem sx_nearestOf {M : Mem} {t s : Nat} (hw : WF σ) (h0 : YX σ M) (ht : t < oT σ) (hs : s < 64) (h : K (nI (nrV σ t s (oT σ))) M) : Con (d + 2) m_Finder_nearestOf 0 0 [.ref 53, .int (nI t), .int (nI s)] M (PI K) := by
  refine Con.ent (k := 3) F_Finder_nearestOf.1 rfl (Nat.le_of_ble_eq_true rfl) (k_Finder_nearestOf_0 h0.1 ?_)
  exact nro10 hw h0 ht hs h (oT σ) 0 (by omega)
theorem YX.frk {L : List Nat} {M M2 : Mem} (hw : WF σ) (h : YX σ M) (f : FrG L [] M M2) (hL : L.all (fun j => decide (48 ≤ j ∧ j < 75)) = true) : YX σ M2 := by
  obtain ⟨hF, h1, h2⟩ := h
  have hlen := hF.len
  have n : ∀ j, j < 48 → mi M2 j = mi M j := fun j a => f.row (by omega) (fun hm => by have := List.all_eq_true.mp hL j hm; simp only [decide_eq_true_eq] at this; omega)
  exact ⟨f.fx hF, h1.cg (fun j a b => n j (by omega)) hw.T6, h2.cg (f.hi (all_sub hL (fun j h => by simp only [decide_eq_true_eq] at h ⊢; omega)) rfl) (by rw [n 46 (by omega)]) (f.rrow (by omega) (by simp))⟩
/-- the rows of worths, and of the nearest -/
def wpN (t e o r : Nat) : Nat := ((t * 7 + e) * 6 + o) * 7 + r
def TwD (σ : St) (M : Mem) (t e o : Nat) : Prop := ∀ r, r = 6 ∨ r < oT σ → mi M 55 (wpN t e o r) = worthV σ t e (hTo σ t r) o
theorem sx_place {M : Mem} {t e o r : Nat} (hF : Fx M) (h : K (nI (wpN t e o r)) M) : Con (d + 1) m_Finder_worthPlace 0 0 [.int (nI t), .int (nI e), .int (nI o), .int (nI r)] M (PI K) := by
  refine Con.of (lo := [some (.int (nI t)), some (.int (nI e)), some (.int (nI o)), some (.int (nI r))]) F_Finder_worthPlace.1 rfl (Nat.le_of_ble_eq_true rfl) (k_Finder_worthPlace_0 hF (PI.mk ?_ h))
  simp only [pk_mul, nI_add]
  rfl
theorem wpN_lt {t e o r : Nat} (h1 : t < 6) (h2 : e < 7) (h3 : o < 6) (h4 : r ≤ 6) : wpN t e o r < 1764 := by unfold wpN; omega
theorem wpN_inj {t e o r t2 e2 o2 r2 : Nat} (h2 : e < 7) (h3 : o < 6) (h4 : r ≤ 6) (g2 : e2 < 7) (g3 : o2 < 6) (g4 : r2 ≤ 6) (h : wpN t e o r = wpN t2 e2 o2 r2) : t = t2 ∧ e = e2 ∧ o = o2 ∧ r = r2 := by unfold wpN at h; omega
theorem wdy32 {t e o : Nat} (hw : WF σ) (ht : t < oT σ) (he : e < 7) (ho : o < 6) (H : ∀ M2 v, YX σ M2 → FrG [48, 49, 55] [] M0 M2 → (∀ i, (∀ r, r ≤ 6 → i ≠ wpN t e o r) → mi M2 55 i = mi M0 55 i) → TwD σ M2 t e o → -999 ≤ v.toInt → v.toInt ≤ 999 → (∀ r, r = 6 ∨ r < oT σ → (worthV σ t e (hTo σ t r) o).toInt ≤ v.toInt) → K v M2) :
    ∀ (n k : Nat) (v : Int32) (M : Mem), k + n = oT σ → YX σ M → FrG [48, 49, 55] [] M0 M → (∀ i, (∀ r, r ≤ 6 → i ≠ wpN t e o r) → mi M 55 i = mi M0 55 i) → (∀ r, r = 6 ∨ r < k → mi M 55 (wpN t e o r) = worthV σ t e (hTo σ t r) o) → -999 ≤ v.toInt → v.toInt ≤ 999 → (∀ r, r = 6 ∨ r < k → (worthV σ t e (hTo σ t r) o).toInt ≤ v.toInt) → Ex (d + 4) m_Finder_weighDay bc bs 32 [some (.ref 53), some (.int (nI t)), some (.int (nI e)), some (.int (nI o)), some (.int v), some (.int (nI k)), none] [] M (PI K) := by
  have h6 := hw.T6
  intro n
  induction n with
  | zero =>
    intro k v M hk h0 hfr hoth hw1 v1 v2 v3
    obtain rfl : k = oT σ := by omega
    refine k_Finder_weighDay_32 h0.1 ?_
    rw [h0.2.1.1]
    exact ⟨fun _ => PI.mk rfl (H M v h0 hfr hoth hw1 v1 v2 v3), fun q => absurd (nI_le (Nat.le_refl _) (by omega)) q⟩
  | succ n ih =>
    intro k v M hk h0 hfr hoth hw1 v1 v2 v3
    have hkT : k < oT σ := by omega
    refine k_Finder_weighDay_32 h0.1 ?_
    rw [h0.2.1.1, nI_add]
    refine ⟨fun q => absurd q (by rw [nI_leI (by omega) (by omega)]; omega), fun _ => ?_⟩
    refine sx_hoursBetween h0.1 hw h0.2.1 ht hkT ⟨h0.1, ?_⟩
    refine sx_worthOfDay h0.1 hw h0.2.1 h0.2.2 ht (fun M2 hF2 f2 => ⟨hF2, ?_⟩)
    have y2 := h0.frk hw f2 (by decide)
    have hl := h0.1.len
    have e55 : mi M2 55 = mi M 55 := f2.row (by omega) (by decide)
    have hlt := wpN_lt (r := k) (show t < 6 by omega) he ho (by omega)
    have hh : hTo σ t k = far (oT σ) (oRd σ) t k := by unfold hTo; rw [if_neg (by omega)]
    refine sx_place hF2 ⟨hF2, vN hlt (by decide), ?_⟩
    rw [nI_clamp (by omega)]
    have wr := worth_r (σ := σ) (t := t) (e := e) (h := far (oT σ) (oRd σ) t k) (o := o)
    have hmx : ∀ a b : Int32, (if a < b then b else a).toInt = max a.toInt b.toInt := fun a b => by
      split
      · rename_i q; rw [i_lt] at q; omega
      · rename_i q; rw [i_lt] at q; omega
    refine ih (k + 1) _ _ (by omega) (y2.frk hw ((FrG.rf [55] []).fwi (by simp)) (by decide)) ((hfr.tr (f2.wk (by simp) (by simp))).fwi (by simp)) (fun i hi => ?_) (fun r hr => ?_) ?_ ?_ (fun r hr => ?_)
    · rw [mi_w, u1_n (hi k (by omega)), e55]; exact hoth i hi
    · rw [mi_w]
      by_cases z : r = k
      · subst z; rw [u1_s, hh]
      · rw [u1_n (fun w => z (wpN_inj he ho (by omega) he ho (by omega) w).2.2.2), e55]
        exact hw1 r (by omega)
    · rw [hmx]; omega
    · rw [hmx]; omega
    · rw [hmx]
      by_cases z : r = k
      · subst z; rw [hh]; omega
      · have := v3 r (by omega); omega
theorem sx_weighDay {t e o : Nat} (hw : WF σ) (h0 : YX σ M0) (ht : t < oT σ) (he : e < 7) (ho : o < 6) (H : ∀ M2 v, YX σ M2 → FrG [48, 49, 55] [] M0 M2 → (∀ i, (∀ r, r ≤ 6 → i ≠ wpN t e o r) → mi M2 55 i = mi M0 55 i) → TwD σ M2 t e o → -999 ≤ v.toInt → v.toInt ≤ 999 → (∀ r, r = 6 ∨ r < oT σ → (worthV σ t e (hTo σ t r) o).toInt ≤ v.toInt) → K v M2) : Con (d + 4) m_Finder_weighDay 0 0 [.ref 53, .int (nI t), .int (nI e), .int (nI o)] M0 (PI K) := by
  have h6 := hw.T6
  have hl := h0.1.len
  refine Con.ent (k := 3) F_Finder_weighDay.1 rfl (Nat.le_of_ble_eq_true rfl) (k_Finder_weighDay_0 h0.1 ?_)
  refine sx_worthOfDay h0.1 hw h0.2.1 h0.2.2 ht (fun M2 hF2 f2 => ⟨hF2, ?_⟩)
  have y2 := h0.frk hw f2 (by decide)
  have e55 : mi M2 55 = mi M0 55 := f2.row (by omega) (by decide)
  have hlt := wpN_lt (r := 6) (show t < 6 by omega) he ho (by omega)
  have hh : hTo σ t 6 = 99 := rfl
  have wr := worth_r (σ := σ) (t := t) (e := e) (h := 99) (o := o)
  refine sx_place hF2 ⟨hF2, vN hlt (by decide), ?_⟩
  rw [nI_clamp (by omega)]
  refine wdy32 hw ht he ho H (oT σ) 0 _ _ (by omega) (y2.frk hw ((FrG.rf [55] []).fwi (by simp)) (by decide)) ((f2.wk (by simp) (by simp)).fwi (by simp)) (fun i hi => ?_) (fun r hr => ?_) wr.1 wr.2 (fun r hr => ?_)
  · rw [mi_w, u1_n (hi 6 (by omega)), e55]
  · obtain rfl : r = 6 := by omega
    rw [mi_w, u1_s, hh]
  · obtain rfl : r = 6 := by omega
    rw [hh]; omega
end WEI
