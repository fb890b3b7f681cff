/-! find: m's side, the call -/
theorem MA.foundS {σ : St} {o : Option (List Nat)} {M M2 : Mem} (hm : MA σ M) (f : FrG LFm [] M M2) (c : c78 M M2) (hr : MFound (sFo σ o) M2) : SM (sFo σ o) M M2 := by
  obtain ⟨hF, h0, h1, h2, h3, h4, h5, h6, h7, h8⟩ := hm
  have hlen := hF.len
  have n : ∀ j, 79 ≤ j → j < 103 → j ≠ 92 → mi M2 j = mi M j := fun j a b c => f.row (by omega) (by unfold LFm; simp; omega)
  exact ⟨⟨f.fm hF (by simp), by rw [f.lrow (j := 104) (by omega)]; exact h0, h1.cg (fun k hk => c k (by omega) (by omega)) (fun j a b => n j (by omega) (by omega) (by omega)), h2.cg (fun k a b => c k (by omega) (by omega)) (fun j a b => n j (by omega) (by omega) (by omega)), h3.cg (c 11 (by decide) (by decide)) (n 86 (by omega) (by omega) (by omega)), h4.cg (c 14 (by decide) (by decide)) (n 87 (by omega) (by omega) (by omega)) (n 88 (by omega) (by omega) (by omega)), h5.cg (c 16 (by decide) (by decide)) (n 89 (by omega) (by omega) (by omega)) (n 90 (by omega) (by omega) (by omega)) (n 91 (by omega) (by omega) (by omega)), hr, h7.cg (c 23 (by decide) (by decide)) (n 93 (by omega) (by omega) (by omega)), h8.cg (n 100 (by omega) (by omega) (by omega)) (n 101 (by omega) (by omega) (by omega)) (n 102 (by omega) (by omega) (by omega))⟩, fun _ h6 hx => MA.keepX f rfl h6 hx⟩
theorem FdM.found {σ : St} {B : Bst} {M : Mem} (h : FdM σ B M) (hB : ∀ b w, B = some (b, w) → w ∈ waysV σ (oW σ)) : MFound (sFo σ (foB B)) M := by
  unfold FdM at h
  cases B with
  | none => exact h
  | some x =>
    obtain ⟨b, w⟩ := x
    obtain ⟨z1, z2⟩ := ways_at (hB b w rfl)
    refine ⟨h.1, by rw [h.2.1, z1], fun t v q => ?_⟩
    have q : (w.map (fun x => x.2))[t]? = some v := q
    have ht := (List.getElem?_eq_some_iff.mp q).1
    rw [h.2.2 t (by omega)]
    unfold dyF
    rw [List.getD_eq_getElem?_getD, q]
    rfl
section FN3
variable {d bc bs : Nat} {σ : St} {l : List Nat} {aims g : Int32} {M0 : Mem} {K : Int64 → Mem → Prop}
theorem fnd62 {M : Mem} {l3 : Int32} (hw : WF σ) (ha : aims = nI 1 ∨ aims = nI 2 ∨ aims = nI 3) (H : HE σ aims (bstF (scV σ aims l) (waysV σ (oW σ)) none) M0 K) (h0 : GM σ M) (hf : FrG LFm [] M0 M) (hc : c78 M0 M) (h20 : mi M 78 20 = 0) (h3 : aims = nI 2 → F103 σ M ∧ CW σ M) (hg : GvB σ g l aims M) : Ex (d + 6) m_MM_find bc bs 62 [some (.ref 78), some (.int aims), some (.int g), some (.int l3), none, none] [] M (PL K) := by
  have h6 := hw.T6
  have hl := h0.1.len
  refine k_MM_find_62 h0.1 ?_
  refine sm_all hw h0.1 h0.2.1 ⟨h0.1, ?_⟩
  have em : exW σ (oW σ) (memT (oT σ) (2 ^ oT σ - 1)) [] = waysV σ (oW σ) := by
    rw [(memT_63 (oT σ) (by omega)).2]; rfl
  refine sm_nextB hw (pa_lt h6) h0 (fun hL M2 g2 f2 => ⟨g2.1, ?_⟩) (fun w L2 M2 D hL i2 f2 ew hfs => ⟨i2.g.1, ?_⟩) <;> rw [em] at hL
  · rw [hL] at H
    have e78 : mi M2 78 = mi M 78 := f2.row (by omega) (by decide)
    have hd : FdM σ none M2 := by
      show mi M2 78 20 = 0
      rw [e78]; exact h20
    exact fnd0 (B := none) g2.1 hd rfl (H M2 g2.1 (hf.tr (f2.wk (by unfold LFm; simp) (by simp))) (fun k a b => by rw [e78]; exact hc k a b) hd)
  · have e78 : mi M2 78 = mi M 78 := f2.row (by omega) (by decide)
    obtain ⟨f, hf1, hf2⟩ := hfs
    obtain ⟨hy, hd⟩ := Wy.of h6 ew hf1 hf2
    have hd0 : FdM σ none M2 := by
      show mi M2 78 20 = 0
      rw [e78]; exact h20
    have fi : FI σ aims L2 M0 M2 := ⟨i2, hf.tr (f2.wk (by unfold LFm; simp) (by simp)), fun k a b => by rw [e78]; exact hc k a b, fun e => ⟨by unfold F103; rw [f2.row (by omega) (by decide)]; exact (h3 e).1, by unfold CW; rw [f2.row (j := 110) (by omega) (by decide), f2.row (j := 111) (by omega) (by decide)]; exact (h3 e).2⟩⟩
    have hg2 : GvB σ g l aims M2 := hg.k h0.1 (f2.wk (by unfold LFm; simp) (by simp))
    by_cases h1 : aims = nI 1
    · have e0 : scV σ aims l w = nI 0 := by
        unfold scV
        rw [if_neg (by rw [h1]; decide), if_neg (by rw [h1]; decide)]
      have eB : bstF (scV σ aims l) (waysV σ (oW σ)) none = some (nI 0, w) := by
        rw [hL, bst_n, e0]
        refine bst_stop (fun x hx => ?_)
        unfold scV
        rw [if_neg (by rw [h1]; decide), if_neg (by rw [h1]; decide)]
        decide
      rw [eB] at H
      refine k_MM_find_75 fi.1.g.1 ⟨fun q => absurd q (by decide), fun _ => ⟨fun q => absurd h1 q, fun _ => ⟨fun _ => ?_, fun q => absurd hd0 q⟩⟩⟩
      refine k_MM_find_137 fi.1.g.1 ?_
      refine sm_keeps hw fi.1.g hy (fun M3 f3 c3 a1 a2 a3 => ?_)
      obtain ⟨x1, x2, x3⟩ := kpFI (w := w) (s := nI 0) fi hg2 f3 c3 a1 a2 a3 hd
      refine ⟨x1.1.g.1, k_MM_find_144 x1.1.g.1 ⟨fun _ => ?_, fun q => absurd h1 q⟩⟩
      refine fnd0 (B := some (nI 0, w)) x1.1.g.1 x2 ?_ (H M3 x1.1.g.1 x1.2.1 x1.2.2.1 x2)
      unfold bmV
      simp only [if_pos h1]
    · exact fnd75 hw H (ha.resolve_left h1) (w :: L2) w L2 rfl none D M2 fi hd0 (fun _ _ q => by cases q) hg2 hy hd (by rw [hL])
theorem fnd37 (hw : WF σ) (ha : aims = nI 1 ∨ aims = nI 2 ∨ aims = nI 3) (H : HE σ aims (bstF (scV σ aims l) (waysV σ (oW σ)) none) M0 K) : ∀ (n i : Nat) (M : Mem), i + n = 29400 → GM σ M → FrG LFm [] M0 M → c78 M0 M → mi M 78 20 = 0 → F103 σ M → GvB σ g l aims M → (∀ k, k < i → mi M 111 k = nI 0) → Ex (d + 6) m_MM_find bc bs 37 [some (.ref 78), some (.int aims), some (.int g), some (.int (nI i)), none, none] [] M (PL K) := by
  have h6 := hw.T6
  intro n
  induction n with
  | zero =>
    intro i M hi h0 hf hc h20 h3 hg hz
    have go : Ex (d + 6) m_MM_find bc bs 62 [some (.ref 78), some (.int aims), some (.int g), some (.int (nI i)), none, none] [] M (PL K) := fnd62 hw ha H h0 hf hc h20 (fun _ => ⟨h3, fun t e h o a1 a2 a3 a4 q => absurd (hz _ (by have := kwN_lt (t := t) (by omega) a2 a3 a4; omega)) q⟩) hg
    exact k_MM_find_37 h0.1 ⟨fun _ => go, fun q => absurd (nI_le (by omega) (by omega)) q⟩
  | succ n ih =>
    intro i M hi h0 hf hc h20 h3 hg hz
    refine k_MM_find_37 h0.1 ⟨fun q => absurd q (by rw [nI_leI (by omega) (by omega)]; omega), fun _ => ⟨fun q => fnd62 hw ha H h0 hf hc h20 (fun e => absurd e q) hg, fun _ => ⟨vN (by omega) (by decide), ?_⟩⟩⟩
    have hl := h0.1.len
    rw [nI_clamp (by omega), nI_add]
    have f2 : FrG [111] [] M (wi M 111 i (nI 0)) := (FrG.rf _ _).fwi (by simp)
    refine ih (i + 1) _ (by omega) ⟨h0.1.fwi, h0.2.1.cg (fun k _ => by rw [mi_n (by decide)]) (fun j a b => mi_n (by omega)), h0.2.2.1.cg (by rw [mi_n (by decide)]) (mi_n (by decide)) (mi_n (by decide)), ?_⟩ (hf.fwi (by decide)) (fun k a b => by rw [mi_n (by decide)]; exact hc k a b) (by rw [mi_n (by decide)]; exact h20) ?_ (hg.k h0.1 (f2.wk (by unfold LFm; simp) (by simp))) (fun k hk => ?_)
    · unfold G108; rw [mi_n (by decide)]; exact h0.2.2.2
    · unfold F103; rw [mi_n (by decide)]; exact h3
    · rw [mi_w]
      by_cases y : k = i
      · subst y; rw [u1_s]
      · rw [u1_n y]; exact hz k (by omega)
theorem sM_find {M : Mem} (hw : WF σ) (hm : MA σ M) (h : ∀ M2, SM (tFind σ aims g) M M2 → K (pFind σ aims g) M2) : Con (d + 6) m_MM_find 0 0 [.ref 78, .int aims, .int g] M (PL K) := by
  obtain ⟨hF, -, hL, -, -, hT, hG, -⟩ := id hm
  have h6 := hw.T6
  have hl := hF.len
  have e1 : (nI 1).toInt = 1 := rfl
  have e3 : (nI 3).toInt = 3 := rfl
  unfold tFind pFind at h
  have bad : fdOK σ aims g = false → PL K (some (.long (-4611686018427387904))) M := fun q => PL.mk rfl (by
    have := h M (by rw [q, if_neg (by decide)]; exact SM.rf hm)
    rwa [q, if_neg (by decide)] at this)
  have run : aims = nI 1 ∨ aims = nI 2 ∨ aims = nI 3 → GvB σ g (fdL σ g) aims M → fdOK σ aims g = true → Ex (d + 6) m_MM_find 0 0 26 [some (.ref 78), some (.int aims), some (.int g), none, none, none] [] M (PL K) := fun ha hg hok => by
    rw [if_pos hok, if_pos hok] at h
    refine k_MM_find_26 hF (sm_looks hF hw hL hT (fun M2 hF2 f2 g103 g108 => ⟨hF2, ?_⟩))
    have fM := f2.M hF rfl
    have hl2 := hF2.len
    have e78 : mi M2 78 = mi M 78 := f2.row (by omega) (by decide)
    have f3 : FrG LFm [] M (wi M2 78 20 (nI 0)) := (f2.wk (by unfold LFm; simp) (by simp)).fwi (by decide)
    refine fnd37 (M0 := M) (l := fdL σ g) hw ha (fun M3 hF3 f3 c3 d3 => h M3 (hm.foundS f3 c3 (FdM.found d3 (fun b w q => fdB_in (aims := aims) (g := g) q)))) 29400 0 _ rfl ⟨hF2.fwi, (hL.fr fM).cg (fun k hk => by rw [wi_f (by omega)]) (fun j a b => mi_n (by omega)), (hT.fr fM).cg (by rw [wi_f (by decide)]) (mi_n (by decide)) (mi_n (by decide)), ?_⟩ f3 (fun k a b => by rw [wi_f a, e78]) wi_e ?_ (hg.k hF f3) (fun k hk => absurd hk (Nat.not_lt_zero _))
    · unfold G108; rw [mi_n (by decide)]; exact g108
    · unfold F103; rw [mi_n (by decide)]; exact g103
  refine Con.ent (k := 3) F_MM_find.1 rfl (Nat.le_of_ble_eq_true rfl) (k_MM_find_0 hF ?_)
  refine sm_in hF ⟨hF, fun q => bad ?_, fun q => ?_⟩
  · rw [e1, e3] at q
    unfold fdOK
    rw [q, Bool.false_and]
  · rw [e1, e3] at q
    have ha : aims = nI 1 ∨ aims = nI 2 ∨ aims = nI 3 := by
      rw [isB_t] at q
      simp only [i_eq]
      rw [e1, e3, show (nI 2).toInt = 2 from rfl]
      omega
    refine ⟨fun q3 => run ha (fun z => absurd z q3) ?_, fun q3 => ?_⟩
    · unfold fdOK
      rw [q, decide_eq_false q3]; rfl
    · refine sm_givC hw hF hG (fun y => ⟨hF, (fun z => nomatch z), fun _ => bad ?_⟩) (fun i gv e hi y hgm => ⟨hF, fun _ => run ha (fun _ => ⟨i, gv, e, (hw.gv hi).1, by unfold fdL; rw [y], hgm, (hw.gv hi).2⟩) ?_, (fun z => nomatch z)⟩)
      · unfold fdOK
        rw [q, y, decide_eq_true q3]; rfl
      · unfold fdOK
        rw [q, y, decide_eq_true q3]; rfl
end FN3
