/-! calls on the land: force, feast; that the state stays well formed -/
theorem WF.week {σ : St} (h : WF σ) (n : Int32) : WF (tWeek σ n) := by
  unfold tWeek
  split
  · rename_i q
    have q2 := isB_t.mp q
    obtain ⟨k, hk, rfl⟩ : ∃ k, k < 8 ∧ n = nI k := i_of (by omega) (by omega) (by omega)
    rw [nI_toInt (by omega)] at q2
    obtain ⟨a, b, c⟩ := h
    refine ⟨a, ?_, c⟩
    show 2 ≤ (nI k).toNatClampNeg ∧ (nI k).toNatClampNeg ≤ 7
    rw [nI_clamp (by omega)]
    omega
  · exact h
def okF (σ : St) (n : Int32) : Bool := isB 0 (((oTx σ).length : Int) - 1) n
def pForce (σ : St) (n : Int32) : Int32 := if okF σ n = true then nI (oRu σ) else -2
def tForce (σ : St) (n : Int32) : St := if okF σ n = true then sRu σ n.toNatClampNeg else σ
theorem WF.force {σ : St} (h : WF σ) (n : Int32) : WF (tForce σ n) := by
  unfold tForce
  split
  · rename_i q
    have h6 := h.ru.2.1
    obtain ⟨k, hk, rfl⟩ := isB_k q (by omega)
    obtain ⟨a, b, c, e, f, ⟨g1, g2, g3, g4⟩, r⟩ := h
    refine ⟨a, b, c, e, f, ⟨g1, g2, ?_, g4⟩, r⟩
    show (nI k).toNatClampNeg < _
    rw [nI_clamp (by omega)]
    exact hk
  · exact h
theorem sX_force {d : Nat} {σ : St} {n : Int32} {M : Mem} {K : Int32 → Mem → Prop} (hw : WF σ) (hx : XA σ M) (h : ∀ M2, SX (tForce σ n) M M2 → K (pForce σ n) M2) : Con (d + 1) m_MD_force 0 0 [.ref 0, .int n] M (PI K) := by
  obtain ⟨hF, hL, -, -, hT, hx2⟩ := id hx
  have h6 := hw.ru.2.1
  unfold tForce pForce at h
  have hno : ¬ (okF σ n = true) → K (-2) M := fun q => by
    have := h M (by rw [if_neg q]; exact SX.rf hx)
    rwa [if_neg q] at this
  have et : (nI (oTx σ).length).toInt = (oTx σ).length := nI_toInt (by omega)
  refine Con.ent (k := 1) F_MD_force.1 rfl (Nat.le_of_ble_eq_true rfl) (k_MD_force_0 hF ?_)
  rw [hT.1]
  refine ⟨fun q => PI.mk rfl (hno ?_), fun q => ⟨fun q2 => ?_, fun q2 => PI.mk rfl (hno ?_)⟩⟩
  · unfold okF; rw [isB_t]; rw [i_lt, i_0] at q; omega
  · rw [i_lt, i_0] at q; rw [i_lt, et] at q2
    have hb : okF σ n = true := by unfold okF; rw [isB_t]; omega
    obtain ⟨k, hk, rfl⟩ := isB_k hb (by omega)
    have := h (wi M 1 11 (nI k)) (by
      rw [if_pos hb, nI_clamp (by omega)]
      refine hx.landS (L := [1]) ((FrG.rf _ _).fwi (by decide)) rfl rfl ?_
      obtain ⟨g1, g2, g3, g4, g5, g6, g7, g8⟩ := hL
      have nr : ∀ i, i ≠ 1 → mi (wi M 1 11 (nI k)) i = mi M i := fun i hi => mi_n hi
      refine ⟨by rw [wi_f (by decide)]; exact g1, by rw [wi_f (by decide)]; exact g2, by rw [wi_f (by decide)]; exact g3, wi_e, ?_, ?_, ?_, ?_⟩
      · rw [nr 2 (by decide), nr 3 (by decide), nr 4 (by decide), nr 5 (by decide)]; exact g5
      · intro a b ha hb; rw [nr (7 + a) (by omega)]; exact g6 a b ha hb
      · intro a b ha hb; rw [nr (14 + a) (by omega)]; exact g7 a b ha hb
      · rw [nr 20 (by decide), nr 21 (by decide)]; exact g8)
    rw [if_pos hb] at this
    exact PI.mk hL.2.2.2.1 this
  · unfold okF; rw [isB_t]; rw [i_lt, et] at q2; omega
theorem sM_force {d : Nat} {σ : St} {n : Int32} {M : Mem} {K : Int32 → Mem → Prop} (hw : WF σ) (hm : MA σ M) (h : ∀ M2, SM (tForce σ n) M M2 → K (pForce σ n) M2) : Con (d + 2) m_MM_force 0 0 [.ref 78, .int n] M (PI K) := by
  obtain ⟨hF, hw0, hL, -, -, hT, hx2⟩ := id hm
  have h6 := hw.ru.2.1
  unfold tForce pForce at h
  refine Con.ent (k := 1) F_MM_force.1 rfl (Nat.le_of_ble_eq_true rfl) (k_MM_force_0 hF ?_)
  rw [hT.1]
  refine sm_inC hF (by omega) (fun q => ⟨hF, (fun z => nomatch z), fun _ => PI.mk rfl ?_⟩) (fun k hk e q => ⟨hF, fun _ => ?_, (fun z => nomatch z)⟩)
  · have := h M (by rw [show okF σ n = false from q]; exact SM.rf hm)
    rwa [show okF σ n = false from q] at this
  · subst e
    have hb : okF σ (nI k) = true := q
    have := h (wi M 78 15 (nI k)) (by
      rw [if_pos hb, nI_clamp (by omega)]
      refine hm.landS (L := [78]) ((FrG.rf _ _).fwi (by decide)) rfl (fun j _ _ _ h6 => wi_f h6) rfl ?_
      obtain ⟨g1, g2, g3, g4, g5, g6, g7⟩ := hL
      have nr : ∀ i, i ≠ 78 → mi (wi M 78 15 (nI k)) i = mi M i := fun i hi => mi_n hi
      refine ⟨by rw [wi_f (by decide)]; exact g1, by rw [wi_f (by decide)]; exact g2, by rw [wi_f (by decide)]; exact g3, wi_e, ?_, ?_, ?_⟩
      · rw [nr 79 (by decide), nr 80 (by decide), nr 81 (by decide), nr 82 (by decide)]; exact g5
      · rw [nr 83 (by decide)]; exact g6
      · rw [nr 84 (by decide), nr 85 (by decide)]; exact g7)
    rw [if_pos hb] at this
    exact PI.mk hL.2.2.2.1 this
/-- feast -/
def okFe (w e : Int32) : Bool := isB 0 99 w && isB 0 6 e
def pFeast (σ : St) (w e : Int32) : Int32 := if okFe w e = true then (if (oFe σ).length = 10 then -4 else nI ((oFe σ).length + 1)) else -2
def tFeast (σ : St) (w e : Int32) : St := if okFe w e = true then (if (oFe σ).length = 10 then σ else sFe σ (oFe σ ++ [(w.toNatClampNeg, e.toNatClampNeg)])) else σ
theorem okFe_k {w e : Int32} (h : okFe w e = true) : ∃ i j, i < 100 ∧ j < 7 ∧ w = nI i ∧ e = nI j := by
  unfold okFe at h
  rw [Bool.and_eq_true, isB_t, isB_t] at h
  obtain ⟨i, hi, rfl⟩ : ∃ k, k < 100 ∧ w = nI k := i_of (by omega) (by omega) (by omega)
  obtain ⟨j, hj, rfl⟩ : ∃ k, k < 7 ∧ e = nI k := i_of (by omega) (by omega) (by omega)
  exact ⟨i, j, hi, hj, rfl, rfl⟩
theorem WF.fe {σ : St} (h : WF σ) : (oFe σ).length ≤ 10 := h.x.2.2.1
theorem WF.feast {σ : St} (h : WF σ) (w e : Int32) : WF (tFeast σ w e) := by
  unfold tFeast
  split
  · rename_i q
    obtain ⟨i, j, hi, hj, rfl, rfl⟩ := okFe_k q
    split
    · exact h
    · rename_i q2
      have h10 := h.fe
      obtain ⟨a, b, c, ⟨x1, x2, x3, x4⟩, r⟩ := h
      refine ⟨a, b, c, ⟨x1, x2, ?_, ?_⟩, r⟩
      · show (oFe σ ++ [_]).length ≤ 10
        rw [List.length_append, List.length_singleton]; omega
      · intro p hp
        rcases List.mem_append.mp (show p ∈ oFe σ ++ [_] from hp) with z | z
        · exact x4 p z
        · rw [List.mem_singleton] at z
          subst z
          show (nI i).toNatClampNeg < 100 ∧ (nI j).toNatClampNeg < 7
          rw [nI_clamp (by omega), nI_clamp (by omega)]
          exact ⟨hi, hj⟩
  · exact h
theorem app_at {α : Type} {l : List α} {x : α} {i : Nat} {v : α} (h : (l ++ [x])[i]? = some v) : (i = l.length ∧ v = x) ∨ (i < l.length ∧ l[i]? = some v) := by
  rcases Nat.lt_trichotomy i l.length with q | q | q
  · rw [List.getElem?_append_left q] at h
    exact .inr ⟨q, h⟩
  · subst q
    rw [List.getElem?_append_right (Nat.le_refl _), Nat.sub_self] at h
    exact .inl ⟨rfl, (Option.some.inj h).symm⟩
  · rw [List.getElem?_eq_none (by rw [List.length_append, List.length_singleton]; omega)] at h
    cases h
theorem sX_feast {d : Nat} {σ : St} {w e : Int32} {M : Mem} {K : Int32 → Mem → Prop} (hw : WF σ) (hx : XA σ M) (h : ∀ M2, SX (tFeast σ w e) M M2 → K (pFeast σ w e) M2) : Con (d + 2) m_MD_feast 0 0 [.ref 0, .int w, .int e] M (PI K) := by
  obtain ⟨hF, hL, hx2⟩ := id hx
  have h10 := hw.fe
  unfold tFeast pFeast at h
  have hno : ¬ (okFe w e = true) → K (-2) M := fun q => by
    have := h M (by rw [if_neg q]; exact SX.rf hx)
    rwa [if_neg q] at this
  refine Con.of (lo := [some (.ref 0), some (.int w), some (.int e)]) F_MD_feast.1 rfl (Nat.le_of_ble_eq_true rfl) (k_MD_feast_0 hF ?_)
  refine sx_weekC hF (fun q => ⟨hF, fun _ => PI.mk rfl (hno (by unfold okFe; rw [q]; exact Bool.false_ne_true)), (fun z => nomatch z)⟩) (fun i hi ei q => ⟨hF, (fun z => nomatch z), fun _ => ⟨fun z => PI.mk rfl (hno ?_), fun z => ⟨fun z2 => ?_, fun z2 => PI.mk rfl (hno ?_)⟩⟩⟩)
  · unfold okFe; rw [Bool.and_eq_true, isB_t, isB_t]; rw [i_lt, i_0] at z; omega
  · rw [i_lt, i_0] at z; rw [i_lt, nI_toInt (by decide)] at z2
    obtain ⟨j, hj, rfl⟩ : ∃ k, k < 7 ∧ e = nI k := i_of (by omega) (by omega) (by omega)
    subst ei
    have hb : okFe (nI i) (nI j) = true := by unfold okFe; rw [q, Bool.true_and, isB_t]; omega
    rw [if_pos hb, nI_clamp (by omega), nI_clamp (by omega)] at h
    refine Con.of (lo := [some (.ref 1), some (.int (nI i)), some (.int (nI j))]) F_Land_hold.1 rfl (Nat.le_of_ble_eq_true rfl) (k_Land_hold_0 hF ?_)
    rw [hL.2.2.1, nI_clamp (by omega), nI_add]
    refine ⟨fun z3 => ⟨vN ?_ (by omega), vN ?_ (by omega), PB.mk rfl ⟨hF.fwi.fwi.fwi, (fun z => nomatch z), fun _ => ?_⟩⟩, fun z3 => PB.mk rfl ⟨hF, fun _ => PI.mk rfl ?_, (fun z => nomatch z)⟩⟩
    · rw [nI_ltI (by omega) (by omega)] at z3; exact z3
    · rw [nI_ltI (by omega) (by omega)] at z3; exact z3
    · rw [nI_ltI (by omega) (by omega)] at z3
      rw [if_neg (by omega)] at h
      refine PI.mk wi_e ?_
      have hh := h (wi (wi (wi M 20 (oFe σ).length (nI i)) 21 (oFe σ).length (nI j)) 1 10 (nI ((oFe σ).length + 1))) (by
        refine hx.landS (L := [1, 20, 21]) ((((FrG.rf _ _).fwi (by decide)).fwi (by decide)).fwi (by decide)) rfl rfl ?_
        obtain ⟨g1, g2, g3, g4, g5, g6, g7, g8⟩ := hL
        have nr : ∀ i', i' ≠ 1 → i' ≠ 20 → i' ≠ 21 → mi (wi (wi (wi M 20 (oFe σ).length (nI i)) 21 (oFe σ).length (nI j)) 1 10 (nI ((oFe σ).length + 1))) i' = mi M i' := fun i' a b c => by rw [mi_n a, mi_n c, mi_n b]
        refine ⟨by rw [wi_f (by decide), mi_n (by decide), mi_n (by decide)]; exact g1, by rw [wi_f (by decide), mi_n (by decide), mi_n (by decide)]; exact g2, ?_, by rw [wi_f (by decide), mi_n (by decide), mi_n (by decide)]; exact g4, ?_, ?_, ?_, ?_⟩
        · rw [wi_e]
          show nI ((oFe σ).length + 1) = nI (oFe σ ++ [(i, j)]).length
          rw [List.length_append, List.length_singleton]
        · rw [nr 2 (by decide) (by decide) (by decide), nr 3 (by decide) (by decide) (by decide), nr 4 (by decide) (by decide) (by decide), nr 5 (by decide) (by decide) (by decide)]; exact g5
        · intro a b ha hb; rw [nr (7 + a) (by omega) (by omega) (by omega)]; exact g6 a b ha hb
        · intro a b ha hb
          have h6 := hw.T6
          rw [nr (14 + a) (by omega) (by have : a < oT σ := ha; omega) (by have : a < oT σ := ha; omega)]; exact g7 a b ha hb
        · intro k u v hk
          rw [mi_n (by decide), mi_n (j := 21) (by decide), mi_w, mi_n (j := 1) (by decide), mi_w, mi_n (j := 20) (by decide)]
          rcases app_at (show (oFe σ ++ [(i, j)])[k]? = some (u, v) from hk) with ⟨e1, e2⟩ | ⟨e1, e2⟩
          · cases e2
            rw [e1, u1_s, u1_s]
            exact ⟨rfl, rfl⟩
          · rw [u1_n (by omega), u1_n (by omega)]
            exact g8 k u v e2)
      rwa [if_pos hb, if_neg (by omega)] at hh
    · rw [nI_ltI (by omega) (by omega)] at z3
      rw [if_pos (by omega)] at h
      have hh := h M (SX.rf hx)
      rwa [if_pos hb, if_pos (by omega)] at hh
  · unfold okFe; rw [Bool.and_eq_true, isB_t, isB_t]; rw [i_lt, nI_toInt (by decide)] at z2; omega
theorem sM_feast {d : Nat} {σ : St} {w e : Int32} {M : Mem} {K : Int32 → Mem → Prop} (hw : WF σ) (hm : MA σ M) (h : ∀ M2, SM (tFeast σ w e) M M2 → K (pFeast σ w e) M2) : Con (d + 3) m_MM_feast 0 0 [.ref 78, .int w, .int e] M (PI K) := by
  obtain ⟨hF, hw0, hL, hx2⟩ := id hm
  have h10 := hw.fe
  unfold tFeast pFeast at h
  have hno : ¬ (okFe w e = true) → K (-2) M := fun q => by
    have := h M (by rw [if_neg q]; exact SM.rf hm)
    rwa [if_neg q] at this
  refine Con.of (lo := [some (.ref 78), some (.int w), some (.int e)]) F_MM_feast.1 rfl (Nat.le_of_ble_eq_true rfl) (k_MM_feast_0 hF ?_)
  refine sm_weekC hF (fun q => ⟨hF, fun _ => PI.mk rfl (hno (by unfold okFe; rw [q]; exact Bool.false_ne_true)), (fun z => nomatch z)⟩) (fun i hi ei q => ⟨hF, (fun z => nomatch z), fun _ => ?_⟩)
  refine sm_inD hF (by omega) (fun q2 => ⟨hF, (fun z => nomatch z), fun _ => PI.mk rfl (hno ?_)⟩) (fun j hj ej q2 => ⟨hF, fun _ => ?_, (fun z => nomatch z)⟩)
  · rw [show ((6 : Nat) : Int) = 6 from rfl] at q2
    unfold okFe; rw [q2, Bool.and_false]; exact Bool.false_ne_true
  · rw [show ((6 : Nat) : Int) = 6 from rfl] at q2
    subst ei ej
    have hb : okFe (nI i) (nI j) = true := by unfold okFe; rw [q, q2]; rfl
    rw [if_pos hb, nI_clamp (by omega), nI_clamp (by omega)] at h
    rw [hL.2.2.1, nI_clamp (by omega), nI_add, nI_eq (by omega) (by omega)]
    refine ⟨fun z3 => ⟨vN (by omega) (by omega), vN (by omega) (by omega), PI.mk rfl ?_⟩, fun z3 => PI.mk rfl ?_⟩
    · rw [if_neg (by omega)] at h
      have hh := h (wi (wi (wi M 84 (oFe σ).length (nI i)) 85 (oFe σ).length (nI j)) 78 7 (nI ((oFe σ).length + 1))) (by
        refine hm.landS (L := [78, 84, 85]) ((((FrG.rf _ _).fwi (by decide)).fwi (by decide)).fwi (by decide)) rfl (fun k _ _ h7 _ => by rw [wi_f h7, mi_n (by decide), mi_n (by decide)]) rfl ?_
        obtain ⟨g1, g2, g3, g4, g5, g6, g7⟩ := hL
        have nr : ∀ i', i' ≠ 78 → i' ≠ 84 → i' ≠ 85 → mi (wi (wi (wi M 84 (oFe σ).length (nI i)) 85 (oFe σ).length (nI j)) 78 7 (nI ((oFe σ).length + 1))) i' = mi M i' := fun i' a b c => by rw [mi_n a, mi_n c, mi_n b]
        refine ⟨by rw [wi_f (by decide), mi_n (by decide), mi_n (by decide)]; exact g1, by rw [wi_f (by decide), mi_n (by decide), mi_n (by decide)]; exact g2, ?_, by rw [wi_f (by decide), mi_n (by decide), mi_n (by decide)]; exact g4, ?_, ?_, ?_⟩
        · rw [wi_e]
          show nI ((oFe σ).length + 1) = nI (oFe σ ++ [(i, j)]).length
          rw [List.length_append, List.length_singleton]
        · rw [nr 79 (by decide) (by decide) (by decide), nr 80 (by decide) (by decide) (by decide), nr 81 (by decide) (by decide) (by decide), nr 82 (by decide) (by decide) (by decide)]; exact g5
        · rw [nr 83 (by decide) (by decide) (by decide)]; exact g6
        · intro k u v hk
          rw [mi_n (by decide), mi_n (j := 85) (by decide), mi_w, mi_n (j := 78) (by decide), mi_w, mi_n (j := 84) (by decide)]
          rcases app_at (show (oFe σ ++ [(i, j)])[k]? = some (u, v) from hk) with ⟨e1, e2⟩ | ⟨e1, e2⟩
          · cases e2
            rw [e1, u1_s, u1_s]
            exact ⟨rfl, rfl⟩
          · rw [u1_n (by omega), u1_n (by omega)]
            exact g7 k u v e2)
      rwa [if_pos hb, if_neg (by omega)] at hh
    · rw [if_pos z3] at h
      have hh := h M (SM.rf hm)
      rwa [if_pos hb, if_pos z3] at hh
def pGivingTold (σ : St) (g w : Int32) : Int32 := match givAt σ g with
  | none => -5
  | some gv => if w = nI 0 then nI gv.1 else if w = nI 1 then nI gv.2.length else if w = nI 2 then (if gv.1 = 5 then nI 0 else nI 1) else -7
theorem sX_givingTold {d : Nat} {σ : St} {g w : Int32} {M : Mem} {K : Int32 → Mem → Prop} (hw : WF σ) (hx : XA σ M) (h : ∀ M2, SX σ M M2 → K (pGivingTold σ g w) M2) : Con (d + 2) m_MD_givingTold 0 0 [.ref 0, .int g, .int w] M (PI K) := by
  obtain ⟨hF, hL, -, -, hT, hG, -⟩ := id hx
  have hk := h M (SX.rf hx)
  unfold pGivingTold at hk
  refine Con.ent (k := 1) F_MD_givingTold.1 rfl (Nat.le_of_ble_eq_true rfl) (k_MD_givingTold_0 hF ?_)
  refine sx_givC hw hF hG (fun q => ⟨hF, fun _ => PI.mk (by rw [q]) hk, (fun _ z => nomatch z)⟩) (fun i gv p e hg q hgx => ⟨hF, (fun z => nomatch z), fun a2 ea => ?_⟩)
  cases ea
  have hg5 := (hw.gv hg).2.1
  obtain ⟨e2, e3, e4, u, e5, e6, e7, e8⟩ := hgx
  rw [q] at hk
  replace hk : K (if w = nI 0 then nI gv.1 else if w = nI 1 then nI gv.2.length else if w = nI 2 then (if gv.1 = 5 then nI 0 else nI 1) else -7) M := hk
  refine ⟨fun z => ⟨e3, PI.mk ?_ hk⟩, fun z => ⟨e3, u, e5, _, e7, PI.mk ?_ hk⟩, fun z => ⟨e3, ?_⟩, fun z0 z1 z2 => PI.mk ?_ hk⟩
  · rw [if_pos z, e4]
  · subst z; rw [if_neg (by decide), if_pos rfl]
  · refine Con.of (lo := [some (.ref p)]) F_Giving_feastsMoveIt.1 rfl (Nat.le_of_ble_eq_true rfl) (k_Giving_feastsMoveIt_0 hF ⟨e3, ?_⟩)
    rw [e4, nI_eq (by omega) (by omega)]
    subst z
    rw [if_neg (by decide), if_neg (by decide), if_pos rfl] at hk
    refine ⟨fun z => PB.mk rfl ⟨hF, fun _ => PI.mk ?_ hk, (fun z => nomatch z)⟩, fun z => PB.mk rfl ⟨hF, (fun z => nomatch z), fun _ => PI.mk ?_ hk⟩⟩
    · rw [if_pos z]
    · rw [if_neg z]
  · rw [if_neg z0, if_neg z1, if_neg z2]
theorem sM_givingTold {d : Nat} {σ : St} {g w : Int32} {M : Mem} {K : Int32 → Mem → Prop} (hw : WF σ) (hm : MA σ M) (h : ∀ M2, SM σ M M2 → K (pGivingTold σ g w) M2) : Con (d + 3) m_MM_givingTold 0 0 [.ref 78, .int g, .int w] M (PI K) := by
  obtain ⟨hF, -, hL, -, -, hT, hG, -⟩ := id hm
  have hk := h M (SM.rf hm)
  unfold pGivingTold at hk
  refine Con.of (lo := [some (.ref 78), some (.int g), some (.int w)]) F_MM_givingTold.1 rfl (Nat.le_of_ble_eq_true rfl) (k_MM_givingTold_0 hF ?_)
  refine sm_givC hw hF hG (fun q => ⟨hF, (fun z => nomatch z), fun _ => PI.mk (by rw [q]) hk⟩) (fun i gv e hg q hgm => ⟨hF, fun _ => ?_, (fun z => nomatch z)⟩)
  have hi := (hw.gv hg).1
  have hg5 := (hw.gv hg).2.1
  subst e
  rw [q] at hk
  replace hk : K (if w = nI 0 then nI gv.1 else if w = nI 1 then nI gv.2.length else if w = nI 2 then (if gv.1 = 5 then nI 0 else nI 1) else -7) M := hk
  rw [nI_clamp (by omega), hgm.1, hgm.2.1, nI_eq (by omega) (by omega), ← nI_0]
  have v := vN hi (by decide)
  refine ⟨fun z0 => ⟨fun z1 => ⟨fun z2 => PI.mk ?_ hk, fun z => ⟨v, fun y => PI.mk ?_ hk, fun y => PI.mk ?_ hk⟩⟩, fun z => ⟨v, PI.mk ?_ hk⟩⟩, fun z => ⟨v, PI.mk ?_ hk⟩⟩
  · rw [if_neg z0, if_neg z1, if_neg z2]
  · subst z; rw [if_neg (by decide), if_neg (by decide), if_pos rfl, if_neg y]
  · subst z; rw [if_neg (by decide), if_neg (by decide), if_pos rfl, if_pos y]
  · subst z; rw [if_neg (by decide), if_pos rfl]
  · rw [if_pos z]
