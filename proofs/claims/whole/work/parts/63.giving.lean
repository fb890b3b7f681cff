/-! giving, both sides -/
def allLT (p : Nat → Bool) : Nat → Bool
  | 0 => true
  | n + 1 => allLT p n && p n
theorem allLT_s {p : Nat → Bool} {n : Nat} : allLT p (n + 1) = (allLT p n && p n) := rfl
theorem allLT_t {p : Nat → Bool} : ∀ {n : Nat}, allLT p n = true ↔ ∀ i, i < n → p i = true
  | 0 => ⟨fun _ i hi => absurd hi (Nat.not_lt_zero _), fun _ => rfl⟩
  | n + 1 => by
    rw [allLT_s, Bool.and_eq_true, allLT_t]
    constructor
    · intro ⟨a, b⟩ i hi
      rcases Nat.lt_succ_iff_lt_or_eq.mp hi with q | q
      · exact a i q
      · rw [q]; exact b
    · exact fun a => ⟨fun i hi => a i (by omega), a n (by omega)⟩
theorem allLT_f {p : Nat → Bool} {i n : Nat} (hi : i < n) (h : p i = false) : allLT p n = false := by
  cases q : allLT p n with
  | false => rfl
  | true => rw [allLT_t.mp q i hi] at h; cases h
theorem allLT_m {p : Nat → Bool} {m n : Nat} (hi : m ≤ n) (h : allLT p m = false) : allLT p n = false := by
  cases q : allLT p n with
  | false => rfl
  | true => rw [allLT_t.mpr (fun i hi2 => allLT_t.mp q i (by omega))] at h; cases h
def numB (W : Nat) (k v : Int32) : Bool := if k = nI 1 ∨ k = nI 5 then isB 0 7 v else isB 0 ((W : Int) - 1) v
def tellB (σ : St) (k : Int32) (s : Nat) : Bool := allLT (fun t => numB (oW σ) k (oSc σ s t)) (oT σ)
def toldL (σ : St) (s : Nat) : List Nat := (List.range (oT σ)).map (fun t => (oSc σ s t).toNatClampNeg)
def newG (σ : St) (k s : Nat) : St := sGv σ (oGv σ ++ [(k, toldL σ s)])
def gvG {α : Type} (σ : St) (k s : Int32) (bad no full ok : α) : α := if isB 0 5 k = true then (if isB 0 3 s = true then (if oSo σ s.toNatClampNeg = -1 then no else if oSs σ s.toNatClampNeg = oT σ ∧ tellB σ k s.toNatClampNeg = true then (if (oGv σ).length = 12 then full else ok) else bad) else bad) else bad
def pGiving (σ : St) (k s : Int32) : Int32 := gvG σ k s (-2) (-11) (-4) (nI (oGv σ).length)
def tGiving (σ : St) (k s : Int32) : St := gvG σ k s σ σ σ (newG σ k.toNatClampNeg s.toNatClampNeg)
section GVG
variable {α : Type} {σ : St} {k s : Int32} {bad no full ok : α} {i : Nat}
theorem gvG_1 (h : isB 0 5 k = false) : gvG σ k s bad no full ok = bad := by unfold gvG; rw [h]; rfl
theorem gvG_2 (h : isB 0 3 s = false) : gvG σ k s bad no full ok = bad := by unfold gvG; rw [h]; split <;> rfl
theorem gvG_3 (h : isB 0 5 k = true) (hi : i < 4) : gvG σ k (nI i) bad no full ok = if oSo σ i = -1 then no else if oSs σ i = oT σ ∧ tellB σ k i = true then (if (oGv σ).length = 12 then full else ok) else bad := by
  unfold gvG
  rw [if_pos h, if_pos (is03 hi), nI_clamp (by omega)]
end GVG
theorem toldL_len {σ : St} {s : Nat} : (toldL σ s).length = oT σ := by unfold toldL; rw [List.length_map, List.length_range]
theorem toldL_at {σ : St} {s t v : Nat} (h : (toldL σ s)[t]? = some v) : t < oT σ ∧ (oSc σ s t).toNatClampNeg = v := by
  have h1 := (List.getElem?_eq_some_iff.mp h).1
  rw [toldL_len] at h1
  unfold toldL at h
  rw [List.getElem?_map, List.getElem?_range h1] at h
  exact ⟨h1, Option.some.inj h⟩
theorem numB_7 {W : Nat} {k v : Int32} (hW : W ≤ 7) (h : numB W k v = true) : ∃ j, j ≤ 7 ∧ v = nI j := by
  unfold numB at h
  have : 0 ≤ v.toInt ∧ v.toInt < 8 := by
    split at h <;> rw [isB_t] at h <;> omega
  obtain ⟨j, hj, e⟩ : ∃ j, j < 8 ∧ v = nI j := i_of this.1 this.2 (by omega)
  exact ⟨j, by omega, e⟩
theorem tellB_at {σ : St} {k : Int32} {s t : Nat} (hw : WF σ) (h : tellB σ k s = true) (ht : t < oT σ) : ∃ j, j ≤ 7 ∧ oSc σ s t = nI j := numB_7 hw.W.2 (allLT_t.mp h t ht)
theorem WF.giving {σ : St} (h : WF σ) (k s : Int32) : WF (tGiving σ k s) := by
  have h0 := h
  unfold tGiving gvG
  split
  · rename_i q1
    split
    · split
      · exact h
      · split
        · rename_i q2
          split
          · exact h
          · rename_i q3
            obtain ⟨x0, b, c, x, tp, tx, ⟨gv1, gv2⟩, fo, ro, im, ss⟩ := h
            refine ⟨x0, b, c, x, tp, tx, ⟨?_, ?_⟩, fo, ro, im, ss⟩
            · show (oGv σ ++ [_]).length ≤ 12
              rw [List.length_append]; simp; omega
            · intro q hq
              have hq : q ∈ oGv σ ++ [(k.toNatClampNeg, toldL σ s.toNatClampNeg)] := hq
              rw [List.mem_append, List.mem_singleton] at hq
              rcases hq with hq | rfl
              · exact gv2 q hq
              · rw [isB_t] at q1
                obtain ⟨j, hj, rfl⟩ : ∃ j, j < 6 ∧ k = nI j := i_of (by omega) (by omega) (by omega)
                refine ⟨by rw [nI_clamp (by omega)]; exact hj, Nat.le_of_eq toldL_len, fun v hv => ?_⟩
                obtain ⟨t, ht, e⟩ := List.mem_map.mp hv
                rw [List.mem_range] at ht
                obtain ⟨y, hy, e2⟩ := tellB_at h0 q2.2 ht
                rw [e2, nI_clamp (by omega)] at e
                omega
        · exact h
    · exact h
  · exact h
theorem sh_nw_o {M : Mem} {k N j : Nat} {kn : Nat × Nat} (h : (sh M)[j]? = some kn) : (sh (nw M k N))[j]? = some kn := by
  show (sh M ++ [(k, N)])[j]? = some kn
  rw [List.getElem?_append_left (List.getElem?_eq_some_iff.mp h).1]; exact h
theorem sh_nw_n {M : Mem} {k N : Nat} : (sh (nw M k N))[(sh M).length]? = some (k, N) := by
  show (sh M ++ [(k, N)])[(sh M).length]? = some (k, N)
  rw [List.getElem?_append_right (Nat.le_refl _), Nat.sub_self]; rfl
theorem mi_nn {M : Mem} {k N j : Nat} (h : j < (sh M).length) : mi (nw M k N) j = mi M j := ro_n (by omega)
theorem mr_nn {M : Mem} {k N j : Nat} (h : j < (sh M).length) : mr (nw M k N) j = mr M j := ro_n (by omega)
theorem FrG.fnw {L R : List Nat} {M M2 : Mem} (h : FrG L R M M2) (k N : Nat) : FrG L R M (nw M2 k N) := by
  have hl := h.len
  obtain ⟨⟨e, he⟩, a, b⟩ := h
  refine ⟨⟨e ++ [(k, N)], by show sh M2 ++ [(k, N)] = _; rw [he, List.append_assoc]⟩, a, fun j hj => ?_⟩
  obtain ⟨x1, x2, x3⟩ := b j hj
  exact ⟨fun q => (mi_nn (by omega)).trans (x1 q), fun q => (mr_nn (by omega)).trans (x2 q), Eq.trans (show ro (ml M2) (sh M2).length (fun _ => 0) j = ml M2 j from ro_n (by omega)) x3⟩
theorem FrG.fwiN {L R : List Nat} {M M2 : Mem} {j k : Nat} {v : Int32} (h : FrG L R M M2) (hj : (sh M).length ≤ j) : FrG L R M (wi M2 j k v) := ⟨h.1, h.2.1, fun i hi => by
  obtain ⟨x1, x2, x3⟩ := h.2.2 i hi
  exact ⟨fun q => (mi_n (by omega)).trans (x1 q), x2, x3⟩⟩
theorem FrG.fwrN {L R : List Nat} {M M2 : Mem} {j k : Nat} {v : Option Nat} (h : FrG L R M M2) (hj : (sh M).length ≤ j) : FrG L R M (wr M2 j k v) := ⟨h.1, h.2.1, fun i hi => by
  obtain ⟨x1, x2, x3⟩ := h.2.2 i hi
  exact ⟨x1, fun q => (show u2 (mr M2) j k v i = mr M2 i from u2_n (by omega)).trans (x2 q), x3⟩⟩
theorem FrG.fwrowN {L R : List Nat} {M M2 : Mem} {j : Nat} {g : Nat → Int32} (h : FrG L R M M2) (hj : (sh M).length ≤ j) : FrG L R M (wrow M2 j g) := ⟨h.1, h.2.1, fun i hi => by
  obtain ⟨x1, x2, x3⟩ := h.2.2 i hi
  exact ⟨fun q => (mi_wn (by omega)).trans (x1 q), x2, x3⟩⟩
theorem sx_copyOf {d a N T : Nat} {M : Mem} {K : Option Nat → Mem → Prop} (hF : Fx M) (ha : (sh M)[a]? = some (100, N)) (hT : T < N) (h40 : T ≤ 40) (hN : N < 1000) (hl : (sh M).length < 1048576) (h : ∀ g : Nat → Int32, (∀ q, q < T → g q = mi M a q) → K (some (sh M).length) (wrow (nw M 100 T) (sh M).length g)) : Con (d + 1) m_Arrays_copyOf 1 40 [.ref a, .int (nI T)] M (PR K) := by
  have hal := (List.getElem?_eq_some_iff.mp ha).1
  refine Con.ent (k := 1) F_Arrays_copyOf.1 rfl (Nat.le_of_ble_eq_true rfl) (k_Arrays_copyOf_0 hF ⟨N, ha, fun _ => ?_, fun q => ?_⟩)
  · rw [nI_clamp (by omega)]
    refine ⟨nI_pos (by omega), by omega, ⟨Nat.le_refl _, h40⟩, hl, N, sh_nw_o ha, N, T, sh_nw_o ha, sh_nw_n, nI_pos (by decide), nI_pos (by decide), ?_⟩
    rw [if_pos (nI_lt (by omega) (by omega)), nI_clamp (n := 0) (by decide), nI_clamp (by omega)]
    refine ⟨nI_pos (by omega), by omega, by omega, PR.mk rfl (h _ (fun q hq => ?_))⟩
    rw [pk_cpy_in (by omega) (by omega), mi_nn hal, Nat.zero_add, Nat.sub_zero]
  · rw [nI_eq (by omega) (by omega)] at q; omega
theorem sx_givInit {d p u : Nat} {k : Int32} {M : Mem} {K : Mem → Prop} (hF : Fx M) (hp : (sh M)[p]? = some (3, 2)) (h : K (wr (wi M p 0 k) p 1 (some u))) : Con (d + 1) m_Giving_init 0 0 [.ref p, .int k, .ref u] M (PV K) := Con.of (lo := [some (.ref p), some (.int k), some (.ref u)]) F_Giving_init.1 rfl (Nat.le_of_ble_eq_true rfl) (k_Giving_init_0 hF ⟨hp, hp, rfl, h⟩)
theorem sx_num {d W : Nat} {k v : Int32} {M : Mem} {K : Bool → Mem → Prop} (hF : Fx M) (hW : W ≤ 7) (h : K (numB W k v) M) : Con (d + 2) m_Giving_mayTell 0 0 [.int k, .int v, .int (nI W)] M (PB K) := by
  have e7 : (nI 7).toInt = 7 := rfl
  have eW : (nI W).toInt = W := nI_T (by omega)
  refine Con.of (lo := [some (.int k), some (.int v), some (.int (nI W))]) F_Giving_mayTell.1 rfl (Nat.le_of_ble_eq_true rfl) (k_Giving_mayTell_0 hF ⟨fun z => PB.mk ?_ h, fun z => ?_⟩)
  · rw [i_lt, i_0] at z
    unfold numB
    rw [isB_f.mpr (by omega), isB_f.mpr (by omega)]; split <;> rfl
  · rw [i_lt, i_0] at z
    refine sx_isA hF ?_
    have eu : underV k (nI 1) = decide (k = nI 1 ∨ k = nI 5) := by
      unfold underV
      rw [show decide (nI 1 = nI 0) = false from rfl, show decide (nI 1 = nI 1) = true from rfl, show decide (nI 1 = nI 3) = false from rfl, Bool.false_or, Bool.false_and, Bool.or_false, Bool.true_and, Bool.decide_or]
      rw [show (decide (nI 1 = k)) = decide (k = nI 1) from decide_eq_decide.mpr ⟨Eq.symm, Eq.symm⟩]
    rw [eu]
    unfold numB at h
    refine ⟨hF, fun y => ?_, fun y => ?_⟩
    · rw [if_neg (of_decide_eq_false y)] at h
      refine ⟨fun y2 => PB.mk (Eq.symm (isB_f.mpr ?_)) h, fun y2 => PB.mk (Eq.symm (isB_t.mpr ?_)) h⟩ <;> clear h <;> rw [i_le, eW] at y2 <;> omega
    · rw [if_pos (of_decide_eq_true y)] at h
      refine ⟨fun y2 => PB.mk (Eq.symm (isB_f.mpr ?_)) h, fun y2 => PB.mk (Eq.symm (isB_t.mpr ?_)) h⟩ <;> clear h <;> rw [i_lt, e7] at y2 <;> omega
theorem mtx2 {d s : Nat} {σ : St} {k : Int32} {M : Mem} {K : Bool → Mem → Prop} (hw : WF σ) (hx : XA σ M) (hs : s < 4) (hz : oSs σ s = oT σ) (h : K (tellB σ k s) M) : ∀ (n t : Nat), t + n = oT σ → allLT (fun t => numB (oW σ) k (oSc σ s t)) t = true → Ex (d + 3) m_MD_mayTell 0 0 2 [some (.ref 0), some (.int k), some (.ref (67 + 2 * s)), some (.int (nI t))] [] M (PB K) := by
  obtain ⟨hF, hL, -, -, -, -, -, -, hS⟩ := id hx
  obtain ⟨r1, r2, r3⟩ := sheetRef hF hs
  obtain ⟨s1, s2, s3⟩ := hS s hs
  have h6 := hw.T6
  intro n
  induction n with
  | zero =>
    intro t ht ha
    obtain rfl : t = oT σ := by omega
    refine k_MD_mayTell_2 hF ⟨r1, ?_⟩
    rw [s2, hz]
    exact ⟨fun _ => PB.mk ha.symm h, fun q => absurd (nI_le (Nat.le_refl _) (by omega)) q⟩
  | succ n ih =>
    intro t ht ha
    refine k_MD_mayTell_2 hF ⟨r1, ?_⟩
    rw [s2, hz, nI_clamp (by omega), hL.2.1, nI_add]
    refine ⟨fun q => absurd q (by rw [nI_leI (by omega) (by omega)]; omega), fun _ => ⟨r1, _, r2, 40, r3, vN (by omega) (by decide), ?_⟩⟩
    rw [s3 t (by omega)]
    refine sx_num hF hw.W.2 ⟨hF, fun q => ih (t + 1) (by omega) (by rw [allLT_s, ha, q]; rfl), fun q => PB.mk (Eq.symm (allLT_f (show t < oT σ by omega) q)) h⟩
theorem XA.givS {σ : St} {k s : Nat} {M M2 : Mem} {p u : Nat} (hw : WF σ) (hx : XA σ M) (f : FrG [0] [50] M M2) (hF2 : Fx M2) (h2 : mi M2 0 2 = mi M 0 2) (h6 : mi M2 0 6 = nI ((oGv σ).length + 1)) (h50 : mr M2 50 = u1 (mr M 50) (oGv σ).length (some p)) (hp : 113 ≤ p) (hps : (sh M2)[p]? = some (3, 2)) (hk : mi M2 p 0 = nI k) (hu1 : mr M2 p 1 = some u) (hu : 113 ≤ u) (hus : (sh M2)[u]? = some (100, (toldL σ s).length)) (hn : ∀ t v, (toldL σ s)[t]? = some v → mi M2 u t = nI v) : SX (newG σ k s) M M2 := by
  obtain ⟨hF, g1, g2, g3, g4, g5, g6, g7, g8⟩ := hx
  have hlen := hF.len
  have n : ∀ j, j < 75 → j ≠ 0 → mi M2 j = mi M j := fun j a b => f.row (by omega) (by simp; omega)
  have rr : ∀ i, i < 75 → i ≠ 50 → mr M2 i = mr M i := fun i hi b => f.rrow (by omega) (by simp; omega)
  have hs := f.hi rfl rfl
  refine ⟨⟨hF2, g1.cg (fun j a b => n j (by omega) (by omega)) hw.T6, g2.cg h2 (fun j a b => n j (by omega) (by omega)), g3.cg (by rw [n 43 (by omega) (by omega)]) (n 44 (by omega) (by omega)), g4.cg hs (by rw [n 46 (by omega) (by omega)]) (rr 47 (by omega) (by omega)), ?_, g6.cg (by rw [n 53 (by omega) (by omega)]) (n 54 (by omega) (by omega)), g7.cg (by rw [n 63 (by omega) (by omega)]) (n 64 (by omega) (by omega)), g8.cg (fun j a b => n j (by omega) (by omega))⟩, fun _ hm => XA.keepM f rfl rfl hm⟩
  refine ⟨?_, fun g q ns hg => ?_⟩
  · show mi M2 0 6 = nI (oGv σ ++ [(k, toldL σ s)]).length
    rw [h6, List.length_append]; rfl
  · have hg : (oGv σ ++ [(k, toldL σ s)])[g]? = some (q, ns) := hg
    rw [h50]
    rcases ap1 hg with ⟨y, y2⟩ | ⟨y, y2⟩
    · rw [u1_n (by omega)]
      obtain ⟨p', u', e1, e2, e3, e4, e5, e6, e7, e8⟩ := g5.2 g q ns y2
      have hl := (List.getElem?_eq_some_iff.mp e3).1
      have hl2 := (List.getElem?_eq_some_iff.mp e7).1
      have a1 := hs.2 p' hl (by omega)
      exact ⟨p', u', e1, e2, hs.1 _ _ e3, by rw [a1.1]; exact e4, by rw [a1.2]; exact e5, e6, hs.1 _ _ e7, fun t v hv => by rw [(hs.2 u' hl2 (by omega)).1]; exact e8 t v hv⟩
    · injection y2 with y3 y4
      subst y y3 y4
      rw [u1_s]
      exact ⟨p, u, rfl, hp, hps, hk, hu1, hu, hus, hn⟩
theorem XA.givF {σ : St} {kk i : Nat} {g : Nat → Int32} {M : Mem} (hw : WF σ) (hx : XA σ M) (h113 : 113 ≤ (sh M).length) (hi : i < 4) (ht : tellB σ (nI kk) i = true) (hg : ∀ q, q < oT σ → g q = mi M (68 + 2 * i) q) :
    SX (newG σ kk i) M (wi (wr (wr (wi (wrow (nw (nw M 3 2) 100 (oT σ)) (sh (nw M 3 2)).length g) (sh M).length 0 (nI kk)) (sh M).length 1 (some (sh (nw M 3 2)).length)) 50 (oGv σ).length (some (sh M).length)) 0 6 (nI ((oGv σ).length + 1))) ∧ Fx (wr (wi (wrow (nw (nw M 3 2) 100 (oT σ)) (sh (nw M 3 2)).length g) (sh M).length 0 (nI kk)) (sh M).length 1 (some (sh (nw M 3 2)).length)) ∧ Fx (wr (wr (wi (wrow (nw (nw M 3 2) 100 (oT σ)) (sh (nw M 3 2)).length g) (sh M).length 0 (nI kk)) (sh M).length 1 (some (sh (nw M 3 2)).length)) 50 (oGv σ).length (some (sh M).length)) ∧ mi (wr (wi (wrow (nw (nw M 3 2) 100 (oT σ)) (sh (nw M 3 2)).length g) (sh M).length 0 (nI kk)) (sh M).length 1 (some (sh (nw M 3 2)).length)) 0 6 = nI (oGv σ).length := by
  obtain ⟨hF, hL, -, -, -, hG, -, -, hS⟩ := id hx
  have hu : (sh (nw M 3 2)).length = (sh M).length + 1 := by show (sh M ++ [_]).length = _; rw [List.length_append]; rfl
  have h6 := hw.T6
  have mi0 : ∀ j, j < (sh M).length → mi (nw (nw M 3 2) 100 (oT σ)) j = mi M j := fun j hj => by rw [mi_nn (by omega), mi_nn hj]
  have hF6 : Fx (wr (wi (wrow (nw (nw M 3 2) 100 (oT σ)) (sh (nw M 3 2)).length g) (sh M).length 0 (nI kk)) (sh M).length 1 (some (sh (nw M 3 2)).length)) := Fx.fwrN (((hF.fnw 3 2).fnw 100 (oT σ)).fwrow.fwi) _ (by omega)
  have hF7 := Fx.fwr hF6 (j := 50) (k := (oGv σ).length) (some (sh M).length) (by intro l hl a; cases hl; simp)
  have e06 : mi (wr (wi (wrow (nw (nw M 3 2) 100 (oT σ)) (sh (nw M 3 2)).length g) (sh M).length 0 (nI kk)) (sh M).length 1 (some (sh (nw M 3 2)).length)) 0 = mi M 0 := by
    show mi (wi (wrow (nw (nw M 3 2) 100 (oT σ)) (sh (nw M 3 2)).length g) (sh M).length 0 (nI kk)) 0 = mi M 0
    rw [mi_n (by omega), mi_wn (by omega), mi0 0 (by omega)]
  refine ⟨hx.givS (p := (sh M).length) (u := (sh (nw M 3 2)).length) hw (((((((FrG.rf _ _).fnw 3 2).fnw 100 (oT σ)).fwrowN (by omega)).fwiN (Nat.le_refl _)).fwrN (Nat.le_refl _)).fwr (by simp) |>.fwi (by simp)) hF7.fwi ?_ wi_e ?_ h113 (sh_nw_o sh_nw_n) ?_ ?_ (by omega) (by rw [toldL_len]; exact sh_nw_n (M := nw M 3 2)) (fun t v hv => ?_), hF6, hF7, by rw [e06]; exact hG.1⟩
  · rw [wi_f (by decide)]
    show mi (wr (wi (wrow (nw (nw M 3 2) 100 (oT σ)) (sh (nw M 3 2)).length g) (sh M).length 0 (nI kk)) (sh M).length 1 (some (sh (nw M 3 2)).length)) 0 2 = mi M 0 2
    rw [e06]
  · show u2 (u2 (mr (nw (nw M 3 2) 100 (oT σ))) (sh M).length 1 (some (sh (nw M 3 2)).length)) 50 (oGv σ).length (some (sh M).length) 50 = _
    rw [u2_s, u2_n (by omega), mr_nn (by omega), mr_nn (by omega)]
  · rw [mi_n (i := (sh M).length) (j := 0) (by omega)]
    show mi (wi (wrow (nw (nw M 3 2) 100 (oT σ)) (sh (nw M 3 2)).length g) (sh M).length 0 (nI kk)) (sh M).length 0 = nI kk
    exact wi_e
  · show u2 (u2 (mr (nw (nw M 3 2) 100 (oT σ))) (sh M).length 1 (some (sh (nw M 3 2)).length)) 50 (oGv σ).length (some (sh M).length) (sh M).length 1 = _
    rw [u2_n (by omega), u2_s, u1_s]
  · obtain ⟨h1, h2⟩ := toldL_at hv
    rw [mi_n (j := 0) (by omega)]
    show mi (wi (wrow (nw (nw M 3 2) 100 (oT σ)) (sh (nw M 3 2)).length g) (sh M).length 0 (nI kk)) (sh (nw M 3 2)).length t = nI v
    obtain ⟨j, hj, e⟩ := tellB_at hw ht h1
    rw [mi_n (by omega), mi_ws, hg t h1, (hS i hi).2.2 t (by omega), e]
    rw [e, nI_clamp (by omega)] at h2
    rw [h2]
theorem sX_giving {d : Nat} {σ : St} {k s : Int32} {M : Mem} {K : Int32 → Mem → Prop} (hw : WF σ) (hx : XA σ M) (h113 : 113 ≤ (sh M).length) (hlen2 : (sh M).length + 2 < 1048576) (h : ∀ M2, SX (tGiving σ k s) M M2 → K (pGiving σ k s) M2) : Con (d + 4) m_MD_giving 2 42 [.ref 0, .int k, .int s] M (PI K) := by
  obtain ⟨hF, hL, -, -, -, hG, -, -, hS⟩ := id hx
  have h6 := hw.T6
  have h12 := hw.2.2.2.2.2.2.1.1
  unfold tGiving pGiving at h
  have bad : (∀ (α : Type) (a b c e : α), gvG σ k s a b c e = a) → PI K (some (.int (-2))) M := fun q => PI.mk rfl (by
    have := h M (by rw [q]; exact SX.rf hx)
    rwa [q] at this)
  have e6 : (nI 6).toInt = 6 := rfl
  refine Con.ent (k := 1) F_MD_giving.1 rfl (Nat.le_of_ble_eq_true rfl) (k_MD_giving_0 hF ?_)
  refine sx_shC hF (fun q => ⟨hF, fun _ => ?_, (fun _ z => nomatch z)⟩) (fun i hi e q => ⟨hF, (fun z => nomatch z), fun a2 ea => ?_⟩)
  · have b := bad (fun α a b c e => gvG_2 q)
    exact ⟨fun _ => b, fun _ => ⟨fun _ => b, fun _ => b⟩⟩
  cases ea
  subst e
  obtain ⟨r1, r2, r3⟩ := sheetRef hF hi
  obtain ⟨s1, s2, s3⟩ := hS i hi
  refine ⟨fun z => bad (fun α a b c e => gvG_1 ?_), fun z => ⟨fun z2 => bad (fun α a b c e => gvG_1 ?_), fun z2 => ⟨r1, ?_⟩⟩⟩
  · rw [isB_f]; rw [i_lt, i_0] at z; omega
  · rw [isB_f]; rw [i_le, e6] at z2; omega
  rw [i_lt, i_0] at z; rw [i_le, e6] at z2
  have hk : isB 0 5 k = true := isB_t.mpr (by omega)
  obtain ⟨kk, hkk, rfl⟩ : ∃ j, j < 6 ∧ k = nI j := i_of (by omega) (by omega) (by omega)
  rw [gvG_3 hk hi, gvG_3 hk hi, nI_clamp (by omega), nI_clamp (by omega)] at h
  refine sx_missing hx hi ⟨hF, fun y => ⟨r1, ?_⟩, fun y => PI.mk rfl ?_⟩
  · have y := of_decide_eq_false y
    rw [if_neg y, if_neg y] at h
    rw [s2, hL.1]
    have k40 := (hw.shs hi).2
    refine ⟨fun y2 => PI.mk rfl ?_, fun y2 => ?_⟩
    · rw [nI_eq (by omega) (by omega)] at y2
      have := h M (by rw [if_neg (fun w => y2 w.1)]; exact SX.rf hx)
      rwa [if_neg (fun w => y2 w.1)] at this
    · rw [nI_eq (by omega) (by omega)] at y2
      refine Con.ent (k := 1) F_MD_mayTell.1 rfl (Nat.le_of_ble_eq_true rfl) (k_MD_mayTell_0 hF (mtx2 hw hx hi y2 ?_ (oT σ) 0 (by omega) rfl))
      refine ⟨hF, fun y3 => ?_, fun y3 => PI.mk rfl ?_⟩
      · have both : oSs σ i = oT σ ∧ tellB σ (nI kk) i = true := ⟨y2, y3⟩
        rw [if_pos both, if_pos both] at h
        rw [hG.1]
        refine ⟨fun y4 => ?_, fun y4 => PI.mk rfl ?_⟩
        · rw [nI_ltI (by omega) (by omega)] at y4
          have y5 : ¬ (oGv σ).length = 12 := by omega
          rw [if_neg y5, if_neg y5] at h
          have e18 : mi (nw M 3 2) 1 8 = nI (oT σ) := by rw [mi_nn (by omega)]; exact hL.1
          have hu : (sh (nw M 3 2)).length = (sh M).length + 1 := by show (sh M ++ [_]).length = _; rw [List.length_append]; rfl
          refine ⟨⟨by decide, by decide⟩, by omega, sh_nw_o r1, _, (by rw [mr_nn (by omega)]; exact r2), ⟨by decide, by decide⟩, ?_⟩
          rw [e18]
          refine sx_copyOf (hF.fnw 3 2) (sh_nw_o r3) (by omega) (by omega) (by decide) (by omega) (fun g hg => ⟨((hF.fnw 3 2).fnw 100 (oT σ)).fwrow, (fun z => nomatch z), fun a7 ea => ?_⟩)
          cases ea
          obtain ⟨f1, f2, f3, f4⟩ := hx.givF (kk := kk) (g := g) hw h113 hi y3 (fun q hq => by rw [hg q hq, mi_nn (by omega)])
          refine sx_givInit ((hF.fnw 3 2).fnw 100 (oT σ)).fwrow (sh_nw_o sh_nw_n) ⟨f2, ?_⟩
          rw [nI_clamp (by omega), f4, nI_add, nI_sub1 (by omega)]
          exact ⟨vN y4 (by decide), sh_nw_o sh_nw_n, f3, PI.mk rfl (h _ f1)⟩
        · rw [nI_ltI (by omega) (by omega)] at y4
          have y5 : (oGv σ).length = 12 := by omega
          have := h M (by rw [if_pos y5]; exact SX.rf hx)
          rwa [if_pos y5] at this
      · have y4 : ¬ (oSs σ i = oT σ ∧ tellB σ (nI kk) i = true) := fun w => by rw [w.2] at y3; cases y3
        have := h M (by rw [if_neg y4]; exact SX.rf hx)
        rwa [if_neg y4] at this
  · have y := of_decide_eq_true y
    have := h M (by rw [if_pos y]; exact SX.rf hx)
    rwa [if_pos y] at this
theorem sm_num {d : Nat} {σ : St} {k v : Int32} {M : Mem} {K : Bool → Mem → Prop} (hw : WF σ) (hF : Fm M) (hL : MLand σ M) (h : K (numB (oW σ) k v) M) : Con (d + 2) m_MM_isNumber 0 0 [.ref 78, .int k, .int v] M (PB K) := by
  have hW := hw.W
  unfold numB at h
  refine Con.of (lo := [some (.ref 78), some (.int k), some (.int v)]) F_MM_isNumber.1 rfl (Nat.le_of_ble_eq_true rfl) (k_MM_isNumber_0 hF ?_)
  rw [hL.2.1]
  refine ⟨fun z => sm_in0 hF (by decide) ⟨hF, PB.mk rfl ?_⟩, fun z => ⟨fun z2 => sm_in1 hF (by omega) ⟨hF, PB.mk rfl ?_⟩, fun z2 => sm_in0 hF (by decide) ⟨hF, PB.mk rfl ?_⟩⟩⟩
  · rw [if_pos (.inl z)] at h; exact h
  · rw [if_neg (fun w => w.elim z z2)] at h; exact h
  · rw [if_pos (.inr z2)] at h; exact h
theorem gvm56 {d bc bs s : Nat} {σ : St} {k : Int32} {M : Mem} {Φ : Option Value → Mem → Prop} (hw : WF σ) (hm : MA σ M) (hs : s < 4) (b : Bool) (H : ∀ l4 : Int32, Ex (d + 3) m_MM_giving bc bs 93 [some (.ref 78), some (.int k), some (.int (nI s)), some (.int (b2i (b && tellB σ k s))), some (.int l4)] [] M Φ) : ∀ (n t : Nat), t + n = oT σ → Ex (d + 3) m_MM_giving bc bs 56 [some (.ref 78), some (.int k), some (.int (nI s)), some (.int (b2i (b && allLT (fun t => numB (oW σ) k (oSc σ s t)) t))), some (.int (nI t))] [] M Φ := by
  obtain ⟨hF, -, hL, -, -, -, -, -, -, hS⟩ := id hm
  obtain ⟨s1, s2, s3⟩ := hS s hs
  have h6 := hw.T6
  intro n
  induction n with
  | zero =>
    intro t ht
    obtain rfl : t = oT σ := by omega
    refine k_MM_giving_56 hF ?_
    rw [hL.1]
    exact ⟨fun _ => H _, fun q => absurd (nI_le (Nat.le_refl _) (by omega)) q⟩
  | succ n ih =>
    intro t ht
    refine k_MM_giving_56 hF ?_
    rw [hL.1, pk_mul, nI_add, nI_add, nI_clamp (by omega), s3 t (by omega)]
    refine ⟨fun q => absurd q (by rw [nI_leI (by omega) (by omega)]; omega), fun _ => ⟨fun q => ?_, fun q => ⟨vN (by omega) (by decide), sm_num hw hF hL ⟨hF, ?_⟩⟩⟩⟩
    · have q := (b2i_0 _).mp q
      have e : (b && tellB σ k s) = false := by
        rw [Bool.and_eq_false_iff] at q ⊢
        exact q.imp id (fun w => allLT_m (by omega) w)
      rw [q]
      rw [e] at H
      exact H _
    · have q : (b && allLT (fun t => numB (oW σ) k (oSc σ s t)) t) = true := by
        cases w : (b && allLT (fun t => numB (oW σ) k (oSc σ s t)) t) with
        | true => rfl
        | false => exact absurd ((b2i_0 _).mpr w) q
      rw [Bool.and_eq_true] at q
      have := ih (t + 1) (by omega)
      rw [q.1, allLT_s, q.2, Bool.true_and, Bool.true_and] at this
      exact this
theorem gvm138 {d bc bs s G : Nat} {σ : St} {k l3 : Int32} {M0 : Mem} {Φ : Option Value → Mem → Prop} (hw : WF σ) (hF0 : Fm M0) (hs : s < 4) (hG : G < 12) (hT : mi M0 78 0 = nI (oT σ)) (h16 : mi M0 78 16 = nI G) (hc : ∀ t, t < oT σ → mi M0 102 (40 * s + t) = oSc σ s t) (H : ∀ M2, Fm M2 → FrG [91] [] M0 M2 → (∀ q, mi M2 91 q = if 6 * G ≤ q ∧ q < 6 * G + oT σ then oSc σ s (q - 6 * G) else mi M0 91 q) → Φ (some (.int (nI G))) (wi M2 78 16 (nI (G + 1)))) :
    ∀ (n t : Nat) (M : Mem), t + n = oT σ → Fm M → FrG [91] [] M0 M → (∀ q, mi M 91 q = if 6 * G ≤ q ∧ q < 6 * G + t then oSc σ s (q - 6 * G) else mi M0 91 q) → Ex (d + 1) m_MM_giving bc bs 138 [some (.ref 78), some (.int k), some (.int (nI s)), some (.int l3), some (.int (nI t))] [] M Φ := by
  have h6 := hw.T6
  have hl := hF0.len
  intro n
  induction n with
  | zero =>
    intro t M ht hF hfr hg
    obtain rfl : t = oT σ := by omega
    refine k_MM_giving_138 hF ?_
    rw [hfr.row (j := 78) (by omega) (by simp), hT, h16, nI_add, nI_sub1 (by omega)]
    exact ⟨fun _ => H M hF hfr hg, fun q => absurd (nI_le (Nat.le_refl _) (by omega)) q⟩
  | succ n ih =>
    intro t M ht hF hfr hg
    refine k_MM_giving_138 hF ?_
    rw [hfr.row (j := 78) (by omega) (by simp), hT, h16]
    simp only [pk_mul, nI_add]
    rw [nI_clamp (show 40 * s + t < 2 ^ 31 by omega), nI_clamp (show 6 * G + t < 2 ^ 31 by omega), hfr.row (j := 102) (by omega) (by simp), hc t (by omega)]
    refine ⟨fun q => absurd q (by rw [nI_leI (by omega) (by omega)]; omega), fun _ => ⟨vN (by omega) (by decide), vN (by omega) (by decide), ih (t + 1) _ (by omega) hF.fwi (hfr.fwi (by simp)) (fun q => ?_)⟩⟩
    rw [mi_w]
    by_cases y : q = 6 * G + t
    · subst y
      rw [u1_s, if_pos (by omega), Nat.add_sub_cancel_left]
    · rw [u1_n y, hg q]
      by_cases y2 : 6 * G ≤ q ∧ q < 6 * G + t
      · rw [if_pos y2, if_pos (by omega)]
      · rw [if_neg y2, if_neg (by omega)]
theorem MA.givS {σ : St} {k s : Nat} {M M2 : Mem} (hm : MA σ M) (f : FrG [78, 89, 90, 91] [] M M2) (c : ∀ k, k ≠ 16 → mi M2 78 k = mi M 78 k) (hg : MGiv (newG σ k s) M2) : SM (newG σ k s) M M2 := by
  obtain ⟨hF, h0, h1, h2, h3, h4, h5, h6, h7, h8⟩ := hm
  have hlen := hF.len
  have n : ∀ j, 79 ≤ j → j < 113 → ¬ (89 ≤ j ∧ j ≤ 91) → mi M2 j = mi M j := fun j a b c => f.row (by omega) (by simp; omega)
  exact ⟨⟨f.fm hF (by simp), by rw [f.lrow (j := 104) (by omega)]; exact h0, h1.cg (fun k hk => c k (by omega)) (fun j a b => n j (by omega) (by omega) (by omega)), h2.cg (fun k a b => c k (by omega)) (fun j a b => n j (by omega) (by omega) (by omega)), h3.cg (c 11 (by decide)) (n 86 (by omega) (by omega) (by omega)), h4.cg (c 14 (by decide)) (n 87 (by omega) (by omega) (by omega)) (n 88 (by omega) (by omega) (by omega)), hg, h6.cg (c 20 (by decide)) (c 21 (by decide)) (n 92 (by omega) (by omega) (by omega)), h7.cg (c 23 (by decide)) (n 93 (by omega) (by omega) (by omega)), h8.cg (n 100 (by omega) (by omega) (by omega)) (n 101 (by omega) (by omega) (by omega)) (n 102 (by omega) (by omega) (by omega))⟩, fun _ h6 hx => MA.keepX f rfl h6 hx⟩
theorem MGiv.new {σ : St} {kk s : Nat} {M M2 : Mem} (hw : WF σ) (hG : MGiv σ M) (ht : tellB σ (nI kk) s = true) (h16 : mi M2 78 16 = nI ((oGv σ).length + 1)) (h89 : mi M2 89 = u1 (mi M 89) (oGv σ).length (nI kk)) (h90 : mi M2 90 = u1 (mi M 90) (oGv σ).length (nI (oT σ))) (h91 : ∀ q, mi M2 91 q = if 6 * (oGv σ).length ≤ q ∧ q < 6 * (oGv σ).length + oT σ then oSc σ s (q - 6 * (oGv σ).length) else mi M 91 q) : MGiv (newG σ kk s) M2 := by
  have h6 := hw.T6
  refine ⟨?_, fun g q ns hg => ?_⟩
  · show mi M2 78 16 = nI (oGv σ ++ [(kk, toldL σ s)]).length
    rw [h16, List.length_append]; rfl
  · have hg : (oGv σ ++ [(kk, toldL σ s)])[g]? = some (q, ns) := hg
    rw [h89, h90]
    rcases ap1 hg with ⟨y, y2⟩ | ⟨y, y2⟩
    · rw [u1_n (by omega), u1_n (by omega)]
      obtain ⟨e1, e2, e3⟩ := hG.2 g q ns y2
      refine ⟨e1, e2, fun t v hv => ?_⟩
      have l1 := (List.getElem?_eq_some_iff.mp hv).1
      have l2 : ns.length ≤ oT σ := (hw.gv y2).2.2.1
      rw [h91, if_neg (by omega)]
      exact e3 t v hv
    · injection y2 with y3 y4
      subst y y3 y4
      rw [u1_s, u1_s, toldL_len]
      refine ⟨rfl, rfl, fun t v hv => ?_⟩
      obtain ⟨l1, l2⟩ := toldL_at hv
      obtain ⟨j, hj, e⟩ := tellB_at hw ht l1
      rw [h91, if_pos (by omega), Nat.add_sub_cancel_left, e]
      rw [e, nI_clamp (by omega)] at l2
      rw [l2]
theorem sM_giving {d : Nat} {σ : St} {k s : Int32} {M : Mem} {K : Int32 → Mem → Prop} (hw : WF σ) (hm : MA σ M) (h : ∀ M2, SM (tGiving σ k s) M M2 → K (pGiving σ k s) M2) : Con (d + 3) m_MM_giving 0 0 [.ref 78, .int k, .int s] M (PI K) := by
  obtain ⟨hF, -, hL, -, -, -, hG, -, -, hS⟩ := id hm
  have h6 := hw.T6
  have h12 := hw.2.2.2.2.2.2.1.1
  have hlen := hF.len
  unfold tGiving pGiving at h
  have bad : (∀ (α : Type) (a b c e : α), gvG σ k s a b c e = a) → PI K (some (.int (-2))) M := fun q => PI.mk rfl (by
    have := h M (by rw [q]; exact SM.rf hm)
    rwa [q] at this)
  refine Con.ent (k := 2) F_MM_giving.1 rfl (Nat.le_of_ble_eq_true rfl) (k_MM_giving_0 hF ?_)
  refine sm_inD hF (by omega) (fun q => ⟨hF, fun _ => bad (fun α a b c e => gvG_1 q), (fun z => nomatch z)⟩) (fun kk hk ek q => ⟨hF, (fun z => nomatch z), fun _ => ?_⟩)
  refine sm_inD hF (by omega) (fun q => ⟨hF, (fun z => nomatch z), fun _ => bad (fun α a b c e => gvG_2 q)⟩) (fun i hi ei q2 => ⟨hF, fun _ => ?_, (fun z => nomatch z)⟩)
  rw [show ((5 : Nat) : Int) = 5 from rfl] at q
  subst ek ei
  have hi4 : i < 4 := by omega
  rw [gvG_3 q hi4, gvG_3 q hi4, nI_clamp (by omega), nI_clamp (by omega)] at h
  obtain ⟨s1, s2, s3⟩ := hS i hi4
  have vi := vN hi4 (by decide)
  have k40 := (hw.shs hi4).2
  rw [nI_clamp (by omega), s1, s2, hL.1]
  refine ⟨vi, fun z => ⟨vi, ?_⟩, fun z => PI.mk rfl ?_⟩
  · rw [if_neg z, if_neg z] at h
    have s93 : ∀ (b : Bool) (hb : b = decide (oSs σ i = oT σ)) (l4 : Int32), Ex (d + 3) m_MM_giving 0 0 93 [some (.ref 78), some (.int (nI kk)), some (.int (nI i)), some (.int (b2i (b && tellB σ (nI kk) i))), some (.int l4)] [] M (PI K) := by
      intro b hb l4
      refine k_MM_giving_93 hF ?_
      rw [hG.1, hL.1]
      refine ⟨fun y => ?_, fun y => PI.mk rfl ?_⟩
      · have y : (b && tellB σ (nI kk) i) = true := by
          cases w : (b && tellB σ (nI kk) i) with
          | true => rfl
          | false => exact absurd ((b2i_0 _).mpr w) y
        rw [Bool.and_eq_true] at y
        have y1 := y.1
        rw [hb, decide_eq_true_eq] at y1
        have both : oSs σ i = oT σ ∧ tellB σ (nI kk) i = true := ⟨y1, y.2⟩
        rw [if_pos both, if_pos both] at h
        refine ⟨fun y4 => ?_, fun y4 => PI.mk rfl ?_⟩
        · rw [nI_eq (by omega) (by decide)] at y4
          rw [if_neg y4, if_neg y4] at h
          have vG := vN (show (oGv σ).length < 12 by omega) (by decide)
          rw [nI_clamp (by omega)]
          refine ⟨vG, vG, gvm138 hw hF.fwi.fwi hi4 (by omega) (by rw [mi_n (by decide), mi_n (by decide)]; exact hL.1) (by rw [mi_n (by decide), mi_n (by decide)]; exact hG.1) (fun t ht => by rw [mi_n (by decide), mi_n (by decide)]; exact s3 t (by omega)) (fun M2 hF2 f2 g => PI.mk rfl (h _ ?_)) (oT σ) 0 _ (by omega) hF.fwi.fwi (FrG.rf _ _) (fun q => by rw [if_neg (by omega)])⟩
          have r : ∀ j, j < 113 → j ≠ 91 → mi M2 j = mi (wi (wi M 89 (oGv σ).length (nI kk)) 90 (oGv σ).length (nI (oT σ))) j := fun j hj hn => f2.row (show j < (sh M).length by omega) (by simp; omega)
          refine hm.givS (((((FrG.rf _ _).fwi (by simp)).fwi (by simp)).tr (f2.wk (by simp) (by simp))).fwi (by simp)) (fun q hq => ?_) (hG.new hw y.2 wi_e ?_ ?_ (fun q => ?_))
          · rw [wi_f hq, r 78 (by decide) (by decide), mi_n (by decide), mi_n (by decide)]
          · rw [mi_n (by decide), r 89 (by decide) (by decide), mi_n (by decide), mi_w]
          · rw [mi_n (by decide), r 90 (by decide) (by decide), mi_w, mi_n (by decide)]
          · rw [mi_n (by decide), g q, mi_n (by decide), mi_n (by decide)]
        · rw [nI_eq (by omega) (by decide)] at y4
          have := h M (by rw [if_pos y4]; exact SM.rf hm)
          rwa [if_pos y4] at this
      · have y := (b2i_0 _).mp y
        have y4 : ¬ (oSs σ i = oT σ ∧ tellB σ (nI kk) i = true) := fun w => by
          rw [w.2, hb, decide_eq_true w.1] at y; cases y
        have := h M (by rw [if_neg y4]; exact SM.rf hm)
        rwa [if_neg y4] at this
    refine ⟨fun y => ?_, fun y => ?_⟩
    · rw [nI_eq (by omega) (by omega)] at y
      exact gvm56 hw hm hi4 false (s93 false (decide_eq_false y).symm) (oT σ) 0 (by omega)
    · rw [nI_eq (by omega) (by omega)] at y
      exact gvm56 hw hm hi4 true (s93 true (decide_eq_true y).symm) (oT σ) 0 (by omega)
  · have := h M (by rw [if_pos z]; exact SM.rf hm)
    rwa [if_pos z] at this
