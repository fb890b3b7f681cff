/-! text: x's side, a TEXT as a whole -/
section RU2
variable {d bc bs : Nat} {tp : List Nat} {M0 : Mem}
theorem rl77 {O1 O2 : List Int32} {M : Mem} {K : Option Nat → Mem → Prop} (hF0 : Fx M0) (f : FPx M0 M) (h2 : mi M 43 2 = -1) (hw : Wr (O1 ++ O2) M) (h113 : (sh M).length = 75 ∨ 113 ≤ (sh M).length) (hlen : (sh M).length + 3 < 1048576) (hO : O1.length + O2.length < 160)
    (HY : ∀ h a b M2, Fx M2 → FrG [43, 45] [] M0 M2 → mi M2 43 1 = nI 0 → (h = 75 ∨ 113 ≤ h) → (sh M2).length = h + 3 → (sh M2)[h]? = some (7, 2) → mr M2 h 0 = some a → mr M2 h 1 = some b → CodeAt M2 a O1 → CodeAt M2 b O2 → K (some h) M2) : Ex (d + 46) m_Tape_readRule 3 330 77 [some (.ref 43), some (.int (nI O1.length))] [] M (PR K) := by
  have hF := f.1.fx hF0
  have hl0 := f.1.len
  have hu1 : (sh (nw (wi M 43 1 (nI 0)) 7 2)).length = (sh M).length + 1 := by show (sh M ++ [_]).length = _; rw [List.length_append]; rfl
  refine k_Tape_readRule_77 hF ⟨fun _ => ⟨⟨by decide, by decide⟩, (by show (sh M).length < _; omega), ⟨by decide, by decide⟩, ?_⟩, fun q => absurd h2 q⟩
  have hF1 : Fx (nw (wi M 43 1 (nI 0)) 7 2) := hF.fwi.fnw 7 2
  refine sx_copyRange (N := 160) hF1 (hF1.s rfl) (Nat.zero_le _) (by omega) (fun _ => by omega) (Nat.le_refl _) (by rw [hu1]; omega) (fun g1 hg1 => ?_)
  have fM1 : FrG [43, 45] [] M0 (wrow (nw (nw (wi M 43 1 (nI 0)) 7 2) 100 (O1.length - 0)) (sh (nw (wi M 43 1 (nI 0)) 7 2)).length g1) := (((f.1.fwi (by simp)).fnw 7 2).fnw 100 _).fwrowN (by rw [hu1]; omega)
  have a43 : mi (wrow (nw (nw (wi M 43 1 (nI 0)) 7 2) 100 (O1.length - 0)) (sh (nw (wi M 43 1 (nI 0)) 7 2)).length g1) 43 = mi (wi M 43 1 (nI 0)) 43 := by
    rw [mi_wn (by omega), mi_nn (by omega), mi_nn (by show 43 < (sh M).length; omega)]
  have a45 : mi (wrow (nw (nw (wi M 43 1 (nI 0)) 7 2) 100 (O1.length - 0)) (sh (nw (wi M 43 1 (nI 0)) 7 2)).length g1) 45 = mi M 45 := by
    rw [mi_wn (by omega), mi_nn (by omega), mi_nn (by show 45 < (sh M).length; omega), mi_n (by decide)]
  have b45 : mi (nw (wi M 43 1 (nI 0)) 7 2) 45 = mi M 45 := by
    rw [mi_nn (by show 45 < (sh M).length; omega), mi_n (by decide)]
  have aN : mi (wrow (nw (nw (wi M 43 1 (nI 0)) 7 2) 100 (O1.length - 0)) (sh (nw (wi M 43 1 (nI 0)) 7 2)).length g1) ((sh M).length + 1) = g1 := by
    rw [← hu1, mi_ws]
  have aS1 : (sh (wrow (nw (nw (wi M 43 1 (nI 0)) 7 2) 100 (O1.length - 0)) (sh (nw (wi M 43 1 (nI 0)) 7 2)).length g1))[(sh M).length + 1]? = some (100, O1.length) := by
    rw [← hu1]; exact sh_nw_n
  have aS0 : (sh (wrow (nw (nw (wi M 43 1 (nI 0)) 7 2) 100 (O1.length - 0)) (sh (nw (wi M 43 1 (nI 0)) 7 2)).length g1))[(sh M).length]? = some (7, 2) := sh_nw_o (sh_nw_n (M := wi M 43 1 (nI 0)))
  have aL : (sh (wrow (nw (nw (wi M 43 1 (nI 0)) 7 2) 100 (O1.length - 0)) (sh (nw (wi M 43 1 (nI 0)) 7 2)).length g1)).length = (sh M).length + 2 := by
    show (sh (nw (wi M 43 1 (nI 0)) 7 2) ++ [_]).length = _
    rw [List.length_append, hu1]; rfl
  have hF2 : Fx (wrow (nw (nw (wi M 43 1 (nI 0)) 7 2) 100 (O1.length - 0)) (sh (nw (wi M 43 1 (nI 0)) 7 2)).length g1) := (hF1.fnw 100 _).fwrow
  generalize (wrow (nw (nw (wi M 43 1 (nI 0)) 7 2) 100 (O1.length - 0)) (sh (nw (wi M 43 1 (nI 0)) 7 2)).length g1) = M1 at *
  refine ⟨hF2, (fun z => nomatch z), fun a2 ea => ?_⟩
  cases ea
  rw [hu1, a43, wi_f (by decide), hw.1]
  refine ⟨⟨by decide, by decide⟩, ?_⟩
  have hlo : (O1 ++ O2).length = O1.length + O2.length := List.length_append
  refine sx_copyRange (N := 160) hF2 (hF2.s rfl) (by omega) (by omega) (fun _ => by omega) (Nat.le_refl _) (by omega) (fun g2 hg2 => ?_)
  have e2 : (O1 ++ O2).length - O1.length = O2.length := by omega
  rw [e2] at hg2 ⊢
  rw [aL]
  have hF3 : Fx (wrow (nw M1 100 O2.length) ((sh M).length + 2) g2) := (hF2.fnw 100 _).fwrow
  refine ⟨hF3, (fun z => nomatch z), fun a6 ea => ?_⟩
  cases ea
  have r0 : (sh (wrow (nw M1 100 O2.length) ((sh M).length + 2) g2))[(sh M).length]? = some (7, 2) := sh_nw_o aS0
  have r1 : (sh (wrow (nw M1 100 O2.length) ((sh M).length + 2) g2))[(sh M).length + 1]? = some (100, O1.length) := sh_nw_o aS1
  have r2 : (sh (wrow (nw M1 100 O2.length) ((sh M).length + 2) g2))[(sh M).length + 2]? = some (100, O2.length) := by
    rw [← aL]; exact sh_nw_n
  have m1 : mi (wrow (nw M1 100 O2.length) ((sh M).length + 2) g2) ((sh M).length + 1) = g1 := by
    rw [mi_wn (by omega), mi_nn (by omega), aN]
  have m2 : mi (wrow (nw M1 100 O2.length) ((sh M).length + 2) g2) ((sh M).length + 2) = g2 := mi_ws
  have m43 : mi (wrow (nw M1 100 O2.length) ((sh M).length + 2) g2) 43 1 = nI 0 := by
    rw [mi_wn (by omega), mi_nn (by omega), a43, wi_e]
  have fM3 : FrG [43, 45] [] M0 (wrow (nw M1 100 O2.length) ((sh M).length + 2) g2) := (fM1.fnw 100 _).fwrowN (by omega)
  have aL3 : (sh (wrow (nw M1 100 O2.length) ((sh M).length + 2) g2)).length = (sh M).length + 3 := by
    show (sh M1 ++ [_]).length = _
    rw [List.length_append, aL]; rfl
  generalize (wrow (nw M1 100 O2.length) ((sh M).length + 2) g2) = M3 at *
  have hF4 : Fx (wr (wr M3 (sh M).length 0 (some ((sh M).length + 1))) (sh M).length 1 (some ((sh M).length + 2))) := (hF3.fwrN _ (by omega)).fwrN _ (by omega)
  refine Con.of (lo := [some (.ref (sh M).length), some (.ref ((sh M).length + 1)), some (.ref ((sh M).length + 2))]) F_Rule_init.1 rfl (Nat.le_of_ble_eq_true rfl) (k_Rule_init_0 hF3 ⟨r0, r0, rfl, hF4, PR.mk rfl (HY (sh M).length ((sh M).length + 1) ((sh M).length + 2) _ hF4 ((fM3.fwrN hl0).fwrN hl0) m43 h113 aL3 r0 ?_ ?_ ⟨by omega, r1, fun k c hk => ?_⟩ ⟨by omega, r2, fun k c hk => ?_⟩)⟩)
  · show u2 (u2 (mr M3) (sh M).length 0 (some ((sh M).length + 1))) (sh M).length 1 (some ((sh M).length + 2)) (sh M).length 0 = _
    rw [u2_s, u1_n (by decide), u2_s, u1_s]
  · show u2 (u2 (mr M3) (sh M).length 0 (some ((sh M).length + 1))) (sh M).length 1 (some ((sh M).length + 2)) (sh M).length 1 = _
    rw [u2_s, u1_s]
  · have hk2 := (List.getElem?_eq_some_iff.mp hk).1
    show mi M3 ((sh M).length + 1) k = _
    rw [m1, hg1 k (by omega), Nat.zero_add, b45]
    exact hw.2 k c (by rw [List.getElem?_append_left hk2]; exact hk)
  · have hk2 := (List.getElem?_eq_some_iff.mp hk).1
    show mi M3 ((sh M).length + 2) k = _
    rw [m2, hg2 k (by omega), a45]
    exact hw.2 (O1.length + k) c (by rw [List.getElem?_append_right (by omega), Nat.add_sub_cancel_left]; exact hk)
theorem txtN_t {s k v : Nat} {ts : List Tok} : txtN ((s, k, v) :: ts) = if k = 3 ∧ v = 0 then txt1 (mR ts true true [] []) else .inl s := rfl
theorem txtW_t {O1 : List Int32} {s k v : Nat} {ts : List Tok} : txtW O1 ((s, k, v) :: ts) = if k = 3 ∧ v = 1 then txt2 O1 (mR ts true true [] []) else .inl s := rfl
theorem txt3_t {O1 O2 : List Int32} {s k v : Nat} {ts : List Tok} : txt3 O1 O2 ((s, k, v) :: ts) = if k = 0 then .inr (O1, O2) else .inl s := rfl
def FNp (A : Mem) (K : Option Nat → Mem → Prop) (X : Txt) : Prop := ∀ f, X = .inl f → ∀ M2, FrG [43, 45] [] A M2 → mi M2 43 2 = nI f → mi M2 43 1 = nI 0 → K none M2
def HYp (A : Mem) (K : Option Nat → Mem → Prop) (X : Txt) : Prop := ∀ O1 O2 h a b M2, X = .inr (O1, O2) → Fx M2 → FrG [43, 45] [] A M2 → mi M2 43 1 = nI 0 → (h = 75 ∨ 113 ≤ h) → (sh M2).length = h + 3 → (sh M2)[h]? = some (7, 2) → mr M2 h 0 = some a → mr M2 h 1 = some b → CodeAt M2 a O1 → CodeAt M2 b O2 → K (some h) M2
theorem xk_c {k v c : Nat} (h : k = 0 ∨ kOK k v) (hc : c = 59 ∨ c = 256 ∨ c = 259 ∨ c = 260) : xtk k v = nI c ↔ (c = 59 ∧ k = 59) ∨ (c = 256 ∧ k = 0) ∨ (c = 259 ∧ k = 3 ∧ v = 0) ∨ (c = 260 ∧ k = 3 ∧ v = 1) := by
  have hx := xtk_c h
  rw [i_eq, nI_T (by omega)]
  omega
theorem st7 {A M : Mem} {K : Option Nat → Mem → Prop} {O1 O2 : List Int32} {ts : List Tok} (hFA : Fx A) (h160 : tp.length ≤ 160) (hg : GX tp ts [] (O1 ++ O2) A M) (h113 : (sh M).length = 75 ∨ 113 ≤ (sh M).length) (hlen : (sh M).length + 3 < 1048576) (hO : O1.length + O2.length < 160) (FN : FNp A K (txt3 O1 O2 ts)) (HY : HYp A K (txt3 O1 O2 ts)) : C7 (d + 45) 3 330 (nI O1.length) (PR K) M := by
  obtain ⟨s4, k4, v4, tl4, e4, g54, hk4, g64⟩ := hg.hd
  subst e4
  rw [txt3_t] at FN HY
  unfold C7
  rw [g54, xk_c hk4 (by omega)]
  refine ⟨fun q => ?_, fun q => ?_⟩
  · rw [if_pos (by omega)] at HY
    exact rl77 (d := d) hFA hg.1 hg.2.2.2.2.1 hg.2.2.2.1 h113 hlen hO (fun h a b M8 hF8 f8 a1 a2 a3 a4 a5 a6 a7 a8 => HY O1 O2 h a b M8 rfl hF8 f8 a1 a2 a3 a4 a5 a6 a7 a8)
  · rw [if_neg (by omega)] at FN
    refine sx_failG (d := d + 44) hFA h160 (by rw [List.length_append]; omega) hg rfl (fun M8 x8 => ⟨x8.1.1.fx hFA, ?_⟩)
    refine k_Tape_readRule_77 (x8.1.1.fx hFA) ⟨fun q2 => absurd q2 ?_, fun _ => PR.mk rfl (FN s4 rfl _ (x8.1.1.fwi (by simp)) ?_ wi_e)⟩
    · have := x8.2.2.1
      rw [x8.2.1, i_eq, nI_T (by omega)]
      have : (-1 : Int32).toInt = -1 := rfl
      omega
    · rw [wi_f (by decide)]; exact x8.2.1
/-- the second E, from behind its key -/
theorem st5 {A M : Mem} {K : Option Nat → Mem → Prop} {O1 : List Int32} {ts : List Tok} (hFA : Fx A) (tA : TBx tp A) (hb : ∀ i, byt tp i < 256) (h160 : tp.length ≤ 160) (hg : GX tp ts [] O1 A M) (h113 : (sh A).length = 75 ∨ 113 ≤ (sh A).length) (hle : (sh M).length ≤ (sh A).length) (hlen : (sh A).length + 3 < 1048576) (hO : O1.length + ts.length ≤ 159) (FN : FNp A K (txt2 O1 (mR ts true true [] []))) (HY : HYp A K (txt2 O1 (mR ts true true [] []))) : C5 (d + 45) 3 330 (nI O1.length) (PR K) M := by
  have hE := (all_lv hFA tA hb h160 5).2.2 (d + 45) (by omega)
  have hpre : mR ts true true [] O1 = pre O1 (mR ts true true [] []) := by
    have := mR_pre (P := O1) ts true true [] []
    rw [List.append_nil] at this
    exact this
  unfold C5
  refine Con.lenV (hE ts [] O1 M true _ rfl (fun c e => by cases e) rfl hg (by simp only [List.length_nil]; omega) (fun S3 ts4 W3 mn4 M6 r3 sr3 st3 g6b l3 l4 n6 => ⟨g6b.1.1.fx hFA, ?_⟩) (fun f M6 r3 x6 _ => ⟨x6.1.1.fx hFA, fl6 hFA x6 (FN f ?_)⟩))
  · obtain ⟨s3, k3, v3, tl3, e3, g53, hk3, g63⟩ := g6b.hd
    subst e3
    obtain ⟨em1, em2⟩ := erd_end sr3 st3
    simp only [List.length_cons, List.length_nil] at l3 l4
    have j59 := xk_c (c := 59) hk3 (by omega)
    unfold C6
    refine Con.lenV (sx_expectG (d := d + 37) hFA tA hb h160 (by rw [List.length_append, List.length_map]; omega) (fun z => by have := j59.mp z; omega) g6b rfl (fun z M7 x7 _ => ⟨x7.1.1.fx hFA, fl7 hFA x7 (FN s3 ?_)⟩) (fun z M7 g7 n7 => ⟨g7.1.1.fx hFA, ?_⟩))
    · have hr := r3.trans (em2 (fun y => z (j59.mpr (by omega))))
      rw [hpre] at hr
      cases eR : mR ts true true [] [] with
      | inl f =>
        rw [eR] at hr
        injection hr with hr
        rw [hr]; rfl
      | inr x => rw [eR] at hr; cases hr
    · have z := j59.mp z
      have hr := r3.trans (em1 (by omega))
      rw [hpre] at hr
      cases eR : mR ts true true [] [] with
      | inl f => rw [eR] at hr; cases hr
      | inr x =>
        obtain ⟨O2, tsx⟩ := x
        rw [eR] at hr FN HY
        injection hr with hr
        injection hr with hr1 hr2
        subst hr2
        rw [← hr1] at g7
        have hlen2 : O1.length + O2.length = W3.length + S3.length := by
          have := congrArg List.length hr1
          rw [List.length_append, List.length_append, List.length_map] at this
          exact this
        have hl7 := g7.1.1.len
        exact st7 hFA h160 g7 (by omega) (by omega) (by omega) FN HY
  · rw [hpre] at r3
    cases eR : mR ts true true [] [] with
    | inl f2 =>
      rw [eR] at r3
      injection r3 with r3
      rw [r3]; rfl
    | inr x => rw [eR] at r3; cases r3
theorem st4 {A M : Mem} {K : Option Nat → Mem → Prop} {O1 : List Int32} {ts : List Tok} (hFA : Fx A) (tA : TBx tp A) (hb : ∀ i, byt tp i < 256) (h160 : tp.length ≤ 160) (hg : GX tp ts [] O1 A M) (h113 : (sh A).length = 75 ∨ 113 ≤ (sh A).length) (hle : (sh M).length ≤ (sh A).length) (hlen : (sh A).length + 3 < 1048576) (hO : O1.length + ts.length ≤ 160) (FN : FNp A K (txtW O1 ts)) (HY : HYp A K (txtW O1 ts)) : C4 (d + 45) 3 330 (nI O1.length) (PR K) M := by
  obtain ⟨s2, k2, v2, tl2, e2, g52, hk2, g62⟩ := hg.hd
  subst e2
  rw [List.length_cons] at hO
  have i260 := xk_c (c := 260) hk2 (by omega)
  rw [txtW_t] at FN HY
  unfold C4
  refine Con.lenV (sx_expectG (d := d + 37) hFA tA hb h160 (by omega) (fun z => by have := i260.mp z; omega) hg rfl (fun z M5 x5 _ => ⟨x5.1.1.fx hFA, fl5 hFA x5 (FN s2 ?_)⟩) (fun z M5 g5b n5 => ⟨g5b.1.1.fx hFA, ?_⟩))
  · rw [if_neg (fun y => z (i260.mpr (by omega)))]
  · have z := i260.mp z
    rw [if_pos (by omega)] at FN HY
    exact st5 hFA tA hb h160 g5b h113 (by omega) hlen (by omega) FN HY
/-- the first E, from behind its key -/
theorem sq2 {A M : Mem} {K : Option Nat → Mem → Prop} {ts : List Tok} (hFA : Fx A) (tA : TBx tp A) (hb : ∀ i, byt tp i < 256) (h160 : tp.length ≤ 160) (hg : GX tp ts [] [] A M) (h113 : (sh A).length = 75 ∨ 113 ≤ (sh A).length) (hle : (sh M).length ≤ (sh A).length) (hlen : (sh A).length + 3 < 1048576) (hO : ts.length ≤ 160) (FN : FNp A K (txt1 (mR ts true true [] []))) (HY : HYp A K (txt1 (mR ts true true [] []))) : C2 (d + 45) 3 330 (PR K) M := by
  have hE := (all_lv hFA tA hb h160 5).2.2 (d + 45) (by omega)
  unfold C2
  refine Con.lenV (hE ts [] [] M true _ rfl (fun c e => by cases e) rfl hg (by simp only [List.length_nil]; omega) (fun S ts2 W1 mn2 M3 r sr st g3 l1 l2 n3 => ⟨g3.1.1.fx hFA, ?_⟩) (fun f M3 r x3 _ => ⟨x3.1.1.fx hFA, fl3 hFA x3 (FN f (by rw [r]; rfl))⟩))
  obtain ⟨s1, k1, v1, tl1, e1, g51, hk1, g61⟩ := g3.hd
  subst e1
  obtain ⟨en1, en2⟩ := erd_end sr st
  simp only [List.length_cons, List.length_nil] at l1 l2
  have i59 := xk_c (c := 59) hk1 (by omega)
  unfold C3
  refine Con.lenV (sx_expectG (d := d + 37) hFA tA hb h160 (by rw [List.length_append, List.length_map]; omega) (fun z => by have := i59.mp z; omega) g3 rfl (fun z M4 x4 _ => ⟨x4.1.1.fx hFA, fl4 hFA x4 (FN s1 ?_)⟩) (fun z M4 g4 n4 => ⟨g4.1.1.fx hFA, ?_⟩))
  · rw [r, en2 (fun y => z (i59.mpr (by omega)))]; rfl
  · have z := i59.mp z
    have hR1 := r.trans (en1 (by omega))
    rw [hR1] at FN HY
    have hO1 : (W1 ++ S.map nI).length = W1.length + S.length := by rw [List.length_append, List.length_map]
    have e9 : mi M4 43 9 = nI (W1 ++ S.map nI).length := g4.2.2.2.1.1
    rw [e9]
    exact st4 hFA tA hb h160 g4 h113 (by omega) hlen (by omega) FN HY
theorem sx_readRule {M : Mem} {K : Option Nat → Mem → Prop} (hF : Fx M) (ht : TBx tp M) (hb : ∀ i, byt tp i < 256) (h160 : tp.length ≤ 160) (h113 : (sh M).length = 75 ∨ 113 ≤ (sh M).length) (hlen : (sh M).length + 3 < 1048576)
    (HN : ∀ f M2, txtR tp = .inl f → Fx M2 → FrG [43, 45] [] M M2 → mi M2 43 2 = nI f → mi M2 43 1 = nI 0 → K none M2)
    (HY : ∀ O1 O2 h a b M2, txtR tp = .inr (O1, O2) → Fx M2 → FrG [43, 45] [] M M2 → mi M2 43 1 = nI 0 → (h = 75 ∨ 113 ≤ h) → (sh M2).length = h + 3 → (sh M2)[h]? = some (7, 2) → mr M2 h 0 = some a → mr M2 h 1 = some b → CodeAt M2 a O1 → CodeAt M2 b O2 → K (some h) M2) : Con (d + 46) m_Tape_readRule 3 330 [.ref 43] M (PR K) := by
  refine Con.ent (k := 1) F_Tape_readRule.1 rfl (Nat.le_of_ble_eq_true rfl) (k_Tape_readRule_0 hF ?_)
  have fA : FrG [43, 45] [] M (wi (wi (wi (wi M 43 2 (-1)) 43 3 (nI 0)) 43 7 (nI 0)) 43 9 (nI 0)) := ((((FrG.rf _ _).fwi (by simp)).fwi (by simp)).fwi (by simp)).fwi (by simp)
  have hFA : Fx (wi (wi (wi (wi M 43 2 (-1)) 43 3 (nI 0)) 43 7 (nI 0)) 43 9 (nI 0)) := hF.fwi.fwi.fwi.fwi
  have tA : TBx tp (wi (wi (wi (wi M 43 2 (-1)) 43 3 (nI 0)) 43 7 (nI 0)) 43 9 (nI 0)) := ⟨by rw [wi_f (by decide), wi_f (by decide), wi_f (by decide), wi_f (by decide)]; exact ht.1, fun i hi => by rw [mi_n (by decide), mi_n (by decide), mi_n (by decide), mi_n (by decide)]; exact ht.2 i hi⟩
  have i2 : mi (wi (wi (wi (wi M 43 2 (-1)) 43 3 (nI 0)) 43 7 (nI 0)) 43 9 (nI 0)) 43 2 = -1 := by rw [wi_f (by decide), wi_f (by decide), wi_f (by decide), wi_e]
  have i3 : mi (wi (wi (wi (wi M 43 2 (-1)) 43 3 (nI 0)) 43 7 (nI 0)) 43 9 (nI 0)) 43 3 = nI 0 := by rw [wi_f (by decide), wi_f (by decide), wi_e]
  have i7 : mi (wi (wi (wi (wi M 43 2 (-1)) 43 3 (nI 0)) 43 7 (nI 0)) 43 9 (nI 0)) 43 7 = nI 0 := by rw [wi_f (by decide), wi_e]
  have i9 : mi (wi (wi (wi (wi M 43 2 (-1)) 43 3 (nI 0)) 43 7 (nI 0)) 43 9 (nI 0)) 43 9 = nI 0 := wi_e
  have lA : (sh (wi (wi (wi (wi M 43 2 (-1)) 43 3 (nI 0)) 43 7 (nI 0)) 43 9 (nI 0))).length = (sh M).length := rfl
  generalize (wi (wi (wi (wi M 43 2 (-1)) 43 3 (nI 0)) 43 7 (nI 0)) 43 9 (nI 0)) = A at *
  have hTL := TL.o tp
  have hkk := hTL.k.1
  have hl161 := hTL.k.2
  have FN : FNp A K (txtR tp) := fun f e M2 f2 a b => HN f M2 e (f2.fx hFA) (fA.tr f2) a b
  have HY : HYp A K (txtR tp) := fun O1 O2 h a b M2 e q1 q2 => HY O1 O2 h a b M2 e q1 (fA.tr q2)
  have er : txtR tp = txtN (tks tp (tp.length + 1) 0) := rfl
  rw [er] at FN HY
  generalize tks tp (tp.length + 1) 0 = ts0 at *
  refine Con.lenV (sx_advance hb hFA tA h160 i3 hTL (fun M1 f1 c1 n1 => ⟨f1.1.fx hFA, ?_⟩))
  have g1 : GX tp ts0 [] [] A M1 := ⟨⟨f1.1.wk (by simp) (by simp), fun k hk => f1.2 k (fun z => hk (.inr (.inl ⟨z.1, by omega⟩)))⟩, c1, by rw [f1.2 7 (by omega)]; exact i7, ⟨by rw [f1.2 9 (by omega)]; exact i9, fun i c hi => by cases hi⟩, by rw [f1.2 2 (by omega)]; exact i2, hkk⟩
  obtain ⟨s0, k0, v0, tl0, e0, g5, hk0, g6⟩ := g1.hd
  subst e0
  rw [List.length_cons] at hl161
  have i259 := xk_c (c := 259) hk0 (by omega)
  rw [txtN_t] at FN HY
  refine Con.lenV (sx_expectG (d := d + 37) hFA tA hb h160 (Nat.zero_le _) (fun z => by have := i259.mp z; omega) g1 rfl (fun z M2 x2 _ => ⟨x2.1.1.fx hFA, fl2 hFA x2 (FN s0 ?_)⟩) (fun z M2 g2 n2 => ⟨g2.1.1.fx hFA, ?_⟩))
  · rw [if_neg (fun y => z (i259.mpr (by omega)))]
  · have z := i259.mp z
    rw [if_pos (by omega)] at FN HY
    exact sq2 hFA tA hb h160 g2 (by omega) (by omega) (by omega) (by omega) FN HY
end RU2
