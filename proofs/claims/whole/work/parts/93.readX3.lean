/-! TEXT: x's readers, from ONE to E -/
section RDY
variable {bc bs N : Nat} {tp : List Nat} {M0 : Mem}
theorem sum6 {D : Nat} (hF0 : Fx M0) (ht : TBx tp M0) (hb : ∀ i, byt tp i < 256) (h160 : tp.length ≤ 160) (hop : PLv tp M0 m_Tape_readTerm 6 6 false (D + 7) N) {H : List Nat} {R : Res} {B C : Nat} {K : Mem → Prop} (hT : Tp 5 H) (hN : opnN H + N = 5) (hB : B ≤ 160)
    (HG : ∀ S ts2 W1 mn2 M2, R = mR ts2 false mn2 (S ++ H) W1 → (∀ c ∈ S, 5 ≤ rnk c) → Stq 5 ts2 (mR ts2 false mn2 (S ++ H) W1) → GX tp ts2 H (W1 ++ S.map nI) M0 M2 → ts2.length < C → W1.length + S.length + H.length + ts2.length ≤ B → K M2) (HF : ∀ f M2, R = .inl f → XF f M0 M2 → K M2) :
    ∀ (n i : Nat) (S : List Nat) (ts : List Tok) (W : List Int32) (mn : Bool) (M : Mem), ts.length = n → i + ts.length ≤ 160 → ts.length < C → R = mR ts false mn (S ++ H) W → (∀ c ∈ S, 5 ≤ rnk c) → Stq 6 ts (mR ts false mn (S ++ H) W) → GX tp ts H (W ++ S.map nI) M0 M → W.length + S.length + H.length + ts.length ≤ B → Ex (D + 8) m_Tape_readSum bc bs 6 [some (.ref 43), some (.int (nI i)), none] [] M (PV K) := by
  intro n
  induction n using Nat.strongRecOn with
  | _ n ih =>
    intro i S ts W mn M hn hi hC hR hS hst hg hlen
    obtain ⟨s, k, v, tl, e, g5, hk, g6⟩ := hg.hd
    subst e
    have hx := xtk_c hk
    have hF := hg.1.1.fx hF0
    rw [List.length_cons] at hn hi hlen
    have i43 : xtk k v = nI 43 ↔ k = 43 := by
      rw [i_eq]
      show (xtk k v).toInt = (43 : Int) ↔ k = 43
      omega
    have i45 : xtk k v = nI 45 ↔ k = 45 := by
      rw [i_eq]
      show (xtk k v).toInt = (45 : Int) ↔ k = 45
      omega
    have st : ∀ (xop : Int32), (k = 43 ∨ k = 45) → xop = xc (nI (sgn k)) → Con (D + 7) m_Tape_advance 0 0 [.ref 43] M (PV fun M1 => Fx M1 ∧ Con (D + 7) m_Tape_readTerm 0 0 [.ref 43] M1 (PV fun M2 => Fx M2 ∧ Con (D + 7) m_Tape_write 0 0 [.ref 43, .int xop] M2 (PV fun M3 => Fx M3 ∧ Ex (D + 8) m_Tape_readSum bc bs 6 [some (.ref 43), some (.int (nI i + nI 1)), none] [] M3 (PV K)))) := by
      intro xop hkk hxop
      have h99 : sgn k ≠ 99 := by rcases hkk with e | e <;> subst e <;> decide
      have hbt : btL (sgn k) = 5 := by rcases hkk with e | e <;> subst e <;> rfl
      have hr5 : rnk (sgn k) = 5 := by rcases hkk with e | e <;> subst e <;> rfl
      have hd : false = decide (sgn k ≤ 12) := by rcases hkk with e | e <;> subst e <;> rfl
      refine opstep (k := k) (s := s) (v := v) (tl := tl) (H := H) (S := S) (W := W) (B := B) (mn := mn) hF0 ht hb h160 hop (fun f M K => termB hF0) h99 (by rw [hbt]; exact hS) (by rw [hbt]; exact hT) (fun z => by omega) (by omega) hd hN hxop hg (by omega) hB (fun S2 ts2 W2 mn2 M3 r2 s2 st2 g2 l1 l2 => ?_) (fun f M3 r2 x2 => sumB6 hF0 x2 (fun M4 x4 => HF f M4 (hR.trans r2) x4))
      rw [nI_add]
      refine ih ts2.length (by omega) (i + 1) (S2 ++ [sgn k]) ts2 W2 mn2 M3 rfl (by omega) (by rw [List.length_cons] at hC; omega) ?_ (fun x hx2 => ?_) ?_ g2 (by rw [List.length_append, List.length_singleton]; omega)
      · rw [hR, r2, List.append_assoc]; rfl
      · rcases List.mem_append.mp hx2 with z | z
        · exact Nat.le_trans (by decide) (s2 x z)
        · rw [List.mem_singleton] at z; rw [z, hr5]; exact Nat.le_refl _
      · rw [List.append_assoc]; exact st2
    have g31 : k = 43 ∨ k = 45 → Ex (D + 8) m_Tape_readSum bc bs 31 [some (.ref 43), some (.int (nI i)), none] [] M (PV K) := fun hkk => by
      refine k_Tape_readSum_31 hF ?_
      rw [g5, i43]
      refine ⟨fun q => st _ hkk ?_, fun q => st _ hkk ?_⟩
      · rw [hkk.resolve_left q]; rfl
      · rw [q]; rfl
    refine k_Tape_readSum_6 hF ?_
    rw [g5, i43, i45]
    refine ⟨fun q => absurd q (by rw [nI_leI (by omega) (by omega)]; omega), fun _ => ⟨fun q => g31 (.inl q), fun q => ⟨fun q2 => ⟨rfl, HG S _ W mn M hR hS (hst.lo ?_) hg hC (by rw [List.length_cons]; omega)⟩, fun q2 => g31 (.inr q2)⟩⟩⟩
    intro s2 k2 v2 tl2 e2 h99 hl
    injection e2 with e2 _
    injection e2 with _ e2
    injection e2 with e2 _
    subst e2
    rcases (sgn_in k).resolve_left h99 with z | z | z | z | z | z | z <;> rw [z] at hl ⊢ <;> first | decide | exact absurd hl (by decide) | exact absurd (sgn_16 z) q | exact absurd (sgn_17 z) q2
theorem sum_lv {D : Nat} (hF0 : Fx M0) (ht : TBx tp M0) (hb : ∀ i, byt tp i < 256) (h160 : tp.length ≤ 160) (hop : PLv tp M0 m_Tape_readTerm 6 6 false (D + 7) N) : PLv tp M0 m_Tape_readSum 5 5 false (D + 8) N := by
  intro ts H W M mn K hN hT hm hg hl HG HF
  refine Con.ent (k := 2) F_Tape_readSum.1 rfl (Nat.le_of_ble_eq_true rfl) (k_Tape_readSum_0 (hg.1.1.fx hF0) (hop ts H W M mn _ hN (hT.mono (by decide)) hm hg hl (fun S ts2 W1 mn2 M2 r s st g l1 l2 => ⟨g.1.1.fx hF0, ?_⟩) (fun f M2 r x => ⟨x.1.1.fx hF0, sumB6 hF0 x (fun M3 x3 => HF f M3 r x3)⟩)))
  exact sum6 hF0 ht hb h160 hop hT hN hl HG HF ts2.length 0 S ts2 W1 mn2 M2 rfl (by omega) l1 r (fun c hc => Nat.le_trans (by decide) (s c hc)) st g l2
theorem trm_lv {D : Nat} (hF0 : Fx M0) (ht : TBx tp M0) (hb : ∀ i, byt tp i < 256) (h160 : tp.length ≤ 160) (hop : PLv tp M0 m_Tape_readOne 7 7 false (D + 7) N) : PLv tp M0 m_Tape_readTerm 6 6 false (D + 8) N := by
  intro ts H W M mn K hN hT hm hg hl HG HF
  refine Con.ent (k := 1) F_Tape_readTerm.1 rfl (Nat.le_of_ble_eq_true rfl) (k_Tape_readTerm_0 (hg.1.1.fx hF0) (hop ts H W M mn _ hN (hT.mono (by decide)) hm hg hl (fun S ts2 W1 mn2 M2 r s st g l1 l2 => ⟨g.1.1.fx hF0, ?_⟩) (fun f M2 r x => ⟨x.1.1.fx hF0, termB6 hF0 x (fun M3 x3 => HF f M3 r x3)⟩)))
  exact trm6 hF0 ht hb h160 hop hT hN hl HG HF ts2.length 0 S ts2 W1 mn2 M2 rfl (by omega) l1 r (fun c hc => Nat.le_trans (by decide) (s c hc)) st g l2
theorem bth_lv {D : Nat} (hF0 : Fx M0) (ht : TBx tp M0) (hb : ∀ i, byt tp i < 256) (h160 : tp.length ≤ 160) (hop : PLv tp M0 m_Tape_readNot 3 4 true (D + 7) N) : PLv tp M0 m_Tape_readBoth 2 2 true (D + 8) N := by
  intro ts H W M mn K hN hT hm hg hl HG HF
  refine Con.ent (k := 1) F_Tape_readBoth.1 rfl (Nat.le_of_ble_eq_true rfl) (k_Tape_readBoth_0 (hg.1.1.fx hF0) (hop ts H W M mn _ hN (hT.mono (by decide)) hm hg hl (fun S ts2 W1 mn2 M2 r s st g l1 l2 => ⟨g.1.1.fx hF0, ?_⟩) (fun f M2 r x => ⟨x.1.1.fx hF0, bothB6 hF0 x (fun M3 x3 => HF f M3 r x3)⟩)))
  exact bth6 hF0 ht hb h160 hop hT hN hl HG HF ts2.length 0 S ts2 W1 mn2 M2 rfl (by omega) l1 r (fun c hc => Nat.le_trans (by decide) (s c hc)) st g l2
theorem eit_lv {D : Nat} (hF0 : Fx M0) (ht : TBx tp M0) (hb : ∀ i, byt tp i < 256) (h160 : tp.length ≤ 160) (hop : PLv tp M0 m_Tape_readBoth 2 2 true (D + 7) N) : PLv tp M0 m_Tape_readEither 1 1 true (D + 8) N := by
  intro ts H W M mn K hN hT hm hg hl HG HF
  refine Con.ent (k := 1) F_Tape_readEither.1 rfl (Nat.le_of_ble_eq_true rfl) (k_Tape_readEither_0 (hg.1.1.fx hF0) (hop ts H W M mn _ hN (hT.mono (by decide)) hm hg hl (fun S ts2 W1 mn2 M2 r s st g l1 l2 => ⟨g.1.1.fx hF0, ?_⟩) (fun f M2 r x => ⟨x.1.1.fx hF0, eithB6 hF0 x (fun M3 x3 => HF f M3 r x3)⟩)))
  exact eit6 hF0 ht hb h160 hop hT hN hl HG HF ts2.length 0 S ts2 W1 mn2 M2 rfl (by omega) l1 r (fun c hc => Nat.le_trans (by decide) (s c hc)) st g l2
theorem not_lv {D : Nat} (hF0 : Fx M0) (ht : TBx tp M0) (hb : ∀ i, byt tp i < 256) (h160 : tp.length ≤ 160) (hop : PLv tp M0 m_Tape_readSum 5 5 false (D + 7) N) (hin : ∀ N2, N = N2 + 1 → PLv tp M0 m_Tape_readNot 3 4 true (D + 7) N2) : PLv tp M0 m_Tape_readNot 3 4 true (D + 8) N := by
  intro ts H W M mn K hN hT hm hg hl HG HF
  have hm : mn = true := hm
  subst hm
  obtain ⟨s, k, v, tl, e, g5, hk, g6⟩ := hg.hd
  subst e
  have hx := xtk_c hk
  have i14 : xtk k v = -14 ↔ k = 6 := by
    rw [i_eq]
    show (xtk k v).toInt = (-14 : Int) ↔ k = 6
    omega
  rw [List.length_cons] at hl
  refine Con.ent (k := 1) F_Tape_readNot.1 rfl (Nat.le_of_ble_eq_true rfl) (k_Tape_readNot_0 (hg.1.1.fx hF0) ?_)
  rw [g5, i14]
  refine ⟨fun q => ?_, fun q => ?_⟩
  · refine hop _ H W M true _ hN (hT.mono (by decide)) (fun s2 k2 v2 tl2 e2 hk6 => ?_) hg (by rw [List.length_cons]; omega) (fun S ts2 W1 mn2 M2 r sr st g l1 l2 => ⟨g.1.1.fx hF0, ?_⟩) (fun f M2 r x => ⟨x.1.1.fx hF0, ?_⟩)
    · injection e2 with e2 _
      injection e2 with _ e2
      injection e2 with e2 _
      exact absurd (e2.trans hk6) q
    · obtain ⟨s1, k1, v1, tl1, e1, g51, hk1, g61⟩ := g.hd
      subst e1
      have hx1 := xtk_c hk1
      have i60 : xtk k1 v1 = nI 60 ↔ k1 = 60 := by
        rw [i_eq]
        show (xtk k1 v1).toInt = (60 : Int) ↔ k1 = 60
        omega
      have i61 : xtk k1 v1 = nI 61 ↔ k1 = 61 := by
        rw [i_eq]
        show (xtk k1 v1).toInt = (61 : Int) ↔ k1 = 61
        omega
      rw [List.length_cons] at l2
      have chain : ∀ xop, (k1 = 60 ∨ k1 = 61) → xop = xc (nI (sgn k1)) → Con (D + 7) m_Tape_advance 0 0 [.ref 43] M2 (PV fun M1 => Fx M1 ∧ Con (D + 7) m_Tape_readSum 0 0 [.ref 43] M1 (PV fun M2 => Fx M2 ∧ Con (D + 7) m_Tape_write 0 0 [.ref 43, .int xop] M2 (PV fun M3 => Fx M3 ∧ PV K none M3))) := by
        intro xop hkk hxop
        have h99 : sgn k1 ≠ 99 := by rcases hkk with e | e <;> subst e <;> decide
        have hbt : btL (sgn k1) = 5 := by rcases hkk with e | e <;> subst e <;> rfl
        have hr4 : rnk (sgn k1) = 4 := by rcases hkk with e | e <;> subst e <;> rfl
        have hd : false = decide (sgn k1 ≤ 12) := by rcases hkk with e | e <;> subst e <;> rfl
        refine opstep (k := k1) (s := s1) (v := v1) (tl := tl1) (H := H) (S := S) (W := W1) (B := W.length + H.length + (tl.length + 1)) (mn := mn2) hF0 ht hb h160 hop (fun f M K => sumB hF0) h99 (by rw [hbt]; exact sr) (by rw [hbt]; exact hT.mono (by decide)) (fun _ => hd4_f hT) (by omega) hd hN hxop g (by omega) (by omega) (fun S2 ts2 W2 mn3 M3 r2 s2 st2 g2 l3 l4 => ⟨rfl, ?_⟩) (fun f M3 r2 x2 => ⟨rfl, HF f M3 (r.trans r2) x2⟩)
        have eS : (S2 ++ [sgn k1]) ++ H = S2 ++ sgn k1 :: H := by rw [List.append_assoc]; rfl
        refine HG (S2 ++ [sgn k1]) ts2 W2 mn3 M3 (by rw [eS]; exact r.trans r2) (fun x hx2 => ?_) ?_ g2 (by simp only [List.length_cons] at l1 ⊢; omega) (by rw [List.length_append, List.length_singleton, List.length_cons]; omega)
        · rcases List.mem_append.mp hx2 with z | z
          · exact Nat.le_trans (by decide) (s2 x z)
          · rw [List.mem_singleton] at z; rw [z, hr4]; decide
        · rw [eS]
          intro s4 k4 v4 tl4 e4 h994 hl4
          by_cases y : 5 ≤ rnk (sgn k4)
          · exact st2 s4 k4 v4 tl4 e4 h994 y
          · have y4 : rnk (sgn k4) = 4 := by have := sgn_rk k4 h994; omega
            obtain ⟨u1, u2⟩ := un_app (l := 5) (H := sgn k1 :: H) S2 s2
            obtain ⟨u3, u4⟩ := un_top (l := 5) (H := sgn k1 :: H) (Tp.cons (by omega))
            have hbt4 : btL (sgn k4) = 5 := if_pos y4
            have k59 : k4 ≠ 59 := fun e => by subst e; exact h994 rfl
            have k41 : k4 ≠ 41 := fun e => by subst e; exact h994 rfl
            rw [e4, mR_n3, if_neg k59, if_neg k41, if_neg h994, hbt4, u1, u3, if_pos ⟨y4, by show decide (rnk (sgn k1) = 4) = true; rw [hr4]; rfl⟩]
      have g63 : (k1 = 60 ∨ k1 = 61) → Ex (D + 8) m_Tape_readNot 0 0 63 [some (.ref 43), none] [] M2 (PV K) := fun hkk => by
        refine k_Tape_readNot_63 (g.1.1.fx hF0) ?_
        rw [g51, i60]
        refine ⟨fun q => chain _ hkk ?_, fun q => chain _ hkk ?_⟩
        · rw [hkk.resolve_left q]; rfl
        · rw [q]; rfl
      rw [g51, i60, i61]
      refine ⟨fun q => g63 (.inl q), fun q1 => ⟨fun q2 => ⟨rfl, HG S _ W1 mn2 M2 r (fun c hc => Nat.le_trans (by decide) (sr c hc)) (st.lo ?_) g l1 (by rw [List.length_cons, List.length_cons]; omega)⟩, fun q => g63 (.inr q)⟩⟩
      intro s2 k2 v2 tl2 e2 h99 hl2
      injection e2 with e2 _
      injection e2 with _ e2
      injection e2 with e2 _
      subst e2
      rcases (sgn_in k1).resolve_left h99 with z | z | z | z | z | z | z <;> rw [z] at hl2 ⊢ <;> first | decide | exact absurd hl2 (by decide) | exact absurd (sgn_14 z) q1 | exact absurd (sgn_15 z) q2
    · rw [x.2.2.2.1]
      exact ⟨fun q => absurd q (by decide), fun _ => ⟨fun _ => ⟨rfl, HF f M2 r x⟩, fun q => absurd q (by decide)⟩⟩
  · subst q
    have hR : mR ((s, 6, v) :: tl) true true H W = if opnN H = 5 then .inl s else mR tl true true (13 :: H) W := rfl
    refine sx_opensG (c := 13) hF0 h160 (by omega) (by omega) (by omega) hg rfl (fun y M2 x2 => ⟨x2.1.1.fx hF0, fun _ => ⟨rfl, HF s M2 (by rw [hR, if_pos y]) x2⟩, (fun z => nomatch z)⟩) (fun y M2 g2 => ⟨g2.1.1.fx hF0, (fun z => nomatch z), fun _ => ?_⟩)
    rw [if_neg y] at hR
    obtain ⟨N2, rfl⟩ : ∃ N2, N = N2 + 1 := ⟨N - 1, by omega⟩
    have eo : opnN (13 :: H) = opnN H + 1 := rfl
    refine sx_advG hF0 ht hb h160 g2 rfl (by decide) (fun M3 g3 => ⟨g3.1.1.fx hF0, ?_⟩)
    refine hin N2 rfl tl (13 :: H) W M3 true _ (by omega) (Tp.cons (by decide)) rfl g3 (by rw [List.length_cons]; omega) (fun S ts2 W1 mn2 M4 r sr st g4 l1 l2 => ⟨g4.1.1.fx hF0, ?_⟩) (fun f M4 r x4 => ⟨x4.1.1.fx hF0, sx_writeB hF0 x4.w (fun M5 x5 => ⟨x5.1.1.fx hF0, rfl, HF f M5 (hR.trans r) x5⟩)⟩)
    rw [List.length_cons] at l2
    refine sx_writeG (c := nI 13) hF0 (by rw [List.length_append, List.length_map]; omega) (sx_closeG (by omega) (by omega) g4) rfl (fun M5 g5 => ⟨g5.1.1.fx hF0, rfl, ?_⟩)
    have eS : (S ++ [13]) ++ H = S ++ 13 :: H := by rw [List.append_assoc]; rfl
    refine HG (S ++ [13]) ts2 W1 mn2 M5 (by rw [eS]; exact hR.trans r) (fun x hx2 => ?_) (by rw [eS]; exact st) (by rw [List.map_append, ← List.append_assoc]; exact g5) (by rw [List.length_cons]; omega) (by rw [List.length_append, List.length_singleton, List.length_cons]; omega)
    rcases List.mem_append.mp hx2 with z | z
    · exact sr x z
    · rw [List.mem_singleton] at z; rw [z]; decide
theorem xc_nam : ∀ v, v < 6 → xc (nI v) = -1 - nI v := by decide +kernel
theorem one_lv {D : Nat} (hF0 : Fx M0) (ht : TBx tp M0) (hb : ∀ i, byt tp i < 256) (h160 : tp.length ≤ 160) (h1 : ∀ N2, N = N2 + 1 → POne tp M0 (D + 8) N2) (hE : ∀ N2, N = N2 + 1 → PLv tp M0 m_Tape_readEither 1 1 true (D + 8) N2) : POne tp M0 (D + 9) N := by
  intro ts H W M mn K hN hm hg hl HG HF
  obtain ⟨s, k, v, tl, e, g5, hk, g6⟩ := hg.hd
  subst e
  have hx := xtk_c hk
  have hF := hg.1.1.fx hF0
  have hm6 : ¬ (k = 6 ∧ mn = true) := fun z => by
    have := hm s k v tl rfl z.1
    rw [z.2] at this; cases this
  rw [List.length_cons] at hl
  have eq : ∀ c : Nat, c < 1000 → (xtk k v = nI c ↔ (xtk k v).toInt = (c : Int)) := fun c hc => by rw [i_eq, nI_T (by omega)]
  have em1 : (-1 < xtk k v ↔ (-1 : Int) < (xtk k v).toInt) := by rw [i_lt]; rfl
  have em6 : (xtk k v < -6 ↔ (xtk k v).toInt < (-6 : Int)) := by rw [i_lt]; rfl
  have put : ∀ c xv : Int32, (k = 1 ∨ k = 2) → xv = xc c → mR ((s, k, v) :: tl) true mn H W = mR tl false mn (unH 7 H) (W ++ c :: unO 7 H) → Con (D + 8) m_Tape_write 0 0 [.ref 43, .int xv] M (PV fun M1 => Fx M1 ∧ Con (D + 8) m_Tape_advance 0 0 [.ref 43] M1 (PV fun M2 => Fx M2 ∧ PV K none M2)) := by
    intro c xv hk12 hxv hR
    refine sx_writeG (c := c) hF0 (by omega) hg hxv (fun M1 g1 => ⟨g1.1.1.fx hF0, sx_advG hF0 ht hb h160 g1 rfl (by omega) (fun M2 g2 => ⟨g2.1.1.fx hF0, rfl, HG tl (W ++ [c]) mn M2 ?_ g2 (by rw [List.length_cons]; omega) (by rw [List.length_append, List.length_singleton, List.length_cons]; omega)⟩)⟩)
    rw [hR, List.append_assoc]; rfl
  have f143 : (k ≠ 1 ∧ k ≠ 2 ∧ k ≠ 45 ∧ k ≠ 40) → Ex (D + 9) m_Tape_readOne 0 0 143 [some (.ref 43)] [] M (PV K) := fun q => by
    refine k_Tape_readOne_143 hF (sx_failG hF0 h160 (by omega) hg rfl (fun M2 x2 => ⟨x2.1.1.fx hF0, rfl, HF s M2 ?_ x2⟩))
    rw [mR_w3, if_neg q.1, if_neg q.2.1, if_neg hm6, if_neg q.2.2.1, if_neg q.2.2.2]
  have f100 : (k ≠ 1 ∧ k ≠ 2 ∧ k ≠ 45) → Ex (D + 9) m_Tape_readOne 0 0 100 [some (.ref 43)] [] M (PV K) := fun q => by
    refine k_Tape_readOne_100 hF ?_
    rw [g5, eq 40 (by decide)]
    refine ⟨fun z => f143 ⟨q.1, q.2.1, q.2.2, fun e => z (by rw [e] at hx ⊢; omega)⟩, fun z => ?_⟩
    have k40 : k = 40 := by omega
    subst k40
    have hR : mR ((s, 40, v) :: tl) true mn H W = if opnN H = 5 then .inl s else mR tl true true (0 :: H) W := by
      rw [mR_w3, if_neg (by decide), if_neg (by decide), if_neg hm6, if_neg (by decide), if_pos rfl]
    refine sx_opensG (c := 0) hF0 h160 (by omega) (by omega) (by omega) hg rfl (fun y M2 x2 => ⟨x2.1.1.fx hF0, fun _ => ?_, (fun z => nomatch z)⟩) (fun y M2 g2 => ⟨g2.1.1.fx hF0, (fun z => nomatch z), fun _ => ?_⟩)
    · exact k_Tape_readOne_143 (x2.1.1.fx hF0) (sx_failB hF0 x2 (fun M3 x3 => ⟨x3.1.1.fx hF0, rfl, HF s M3 (by rw [hR, if_pos y]) x3⟩))
    · rw [if_neg y] at hR
      obtain ⟨N2, rfl⟩ : ∃ N2, N = N2 + 1 := ⟨N - 1, by omega⟩
      have eo : opnN (0 :: H) = opnN H + 1 := rfl
      refine sx_advG hF0 ht hb h160 g2 rfl (by decide) (fun M3 g3 => ⟨g3.1.1.fx hF0, ?_⟩)
      refine hE N2 rfl tl (0 :: H) W M3 true _ (by omega) (Tp.cons (by decide)) rfl g3 (by rw [List.length_cons]; omega) (fun S ts2 W1 mn2 M4 r sr st g4 l1 l2 => ⟨g4.1.1.fx hF0, ?_⟩) (fun f M4 r x4 => ⟨x4.1.1.fx hF0, sx_expectB hF0 (by decide) x4 (fun M5 x5 => ⟨x5.1.1.fx hF0, rfl, HF f _ (hR.trans r) x5.w⟩)⟩)
      rw [List.length_cons] at l2
      obtain ⟨s1, k1, v1, tl1, e1, g51, hk1, g61⟩ := g4.hd
      subst e1
      have hx1 := xtk_c hk1
      rw [List.length_cons] at l1 l2
      have i41 : xtk k1 v1 = nI 41 ↔ k1 = 41 := by
        rw [i_eq]
        show (xtk k1 v1).toInt = (41 : Int) ↔ k1 = 41
        omega
      obtain ⟨u1, u2⟩ := un_app (l := 1) (H := 0 :: H) S sr
      have u3 : unH 1 (0 :: H) = 0 :: H := rfl
      have u4 : unO 1 (0 :: H) = [] := rfl
      refine sx_expectG hF0 ht hb h160 (by rw [List.length_append, List.length_map]; omega) (fun z => by have := i41.mp z; omega) g4 rfl (fun z M5 x5 => ⟨x5.1.1.fx hF0, rfl, HF s1 _ (hR.trans (r.trans ?_)) x5.w⟩) (fun z M5 g5b => ⟨g5b.1.1.fx hF0, rfl, ?_⟩)
      · rw [i41] at z
        by_cases y99 : sgn k1 = 99
        · rw [mR_n3]
          by_cases y59 : k1 = 59
          · rw [if_pos y59, u1, u3, if_neg (List.cons_ne_nil _ _)]
          · rw [if_neg y59, if_neg z, if_pos y99]
        · exact st s1 k1 v1 tl1 rfl y99 (sgn_rk k1 y99).1
      · have k41 := i41.mp z
        subst k41
        refine HG tl1 (W1 ++ S.map nI) mn2 _ (hR.trans (r.trans ?_)) (sx_closeG (by omega) (by omega) g5b) (by rw [List.length_cons]; omega) (by rw [List.length_append, List.length_map, List.length_cons]; omega)
        rw [mR_n3, if_neg (by decide), if_pos rfl, u1, u2, u3, u4, if_neg (List.cons_ne_nil _ _), List.append_nil]
        rfl
  have f57 : (k ≠ 1 ∧ k ≠ 2) → Ex (D + 9) m_Tape_readOne 0 0 57 [some (.ref 43)] [] M (PV K) := fun q => by
    refine k_Tape_readOne_57 hF ?_
    rw [g5, eq 45 (by decide)]
    refine ⟨fun z => f100 ⟨q.1, q.2, fun e => z (by rw [e] at hx ⊢; omega)⟩, fun z => ?_⟩
    have k45 : k = 45 := by omega
    subst k45
    have hR : mR ((s, 45, v) :: tl) true mn H W = if opnN H = 5 then .inl s else mR tl true false (19 :: H) W := by
      rw [mR_w3, if_neg (by decide), if_neg (by decide), if_neg hm6, if_pos rfl]
    refine sx_opensG (c := 19) hF0 h160 (by omega) (by omega) (by omega) hg rfl (fun y M2 x2 => ⟨x2.1.1.fx hF0, fun _ => ?_, (fun z => nomatch z)⟩) (fun y M2 g2 => ⟨g2.1.1.fx hF0, (fun z => nomatch z), fun _ => ?_⟩)
    · refine k_Tape_readOne_100 (x2.1.1.fx hF0) ?_
      rw [x2.2.2.2.1]
      exact ⟨fun _ => k_Tape_readOne_143 (x2.1.1.fx hF0) (sx_failB hF0 x2 (fun M3 x3 => ⟨x3.1.1.fx hF0, rfl, HF s M3 (by rw [hR, if_pos y]) x3⟩)), fun q => absurd q (by decide)⟩
    · rw [if_neg y] at hR
      obtain ⟨N2, rfl⟩ : ∃ N2, N = N2 + 1 := ⟨N - 1, by omega⟩
      have eo : opnN (19 :: H) = opnN H + 1 := rfl
      refine sx_advG hF0 ht hb h160 g2 rfl (by decide) (fun M3 g3 => ⟨g3.1.1.fx hF0, ?_⟩)
      refine h1 N2 rfl tl (19 :: H) W M3 false _ (by omega) (fun _ _ _ _ _ _ => rfl) g3 (by rw [List.length_cons]; omega) (fun ts2 W1 mn2 M4 r g4 l1 l2 => ⟨g4.1.1.fx hF0, ?_⟩) (fun f M4 r x4 => ⟨x4.1.1.fx hF0, sx_writeB hF0 x4.w (fun M5 x5 => ⟨x5.1.1.fx hF0, rfl, HF f M5 (hR.trans r) x5⟩)⟩)
      rw [List.length_cons] at l2
      refine sx_writeG (c := nI 19) hF0 (by omega) (sx_closeG (by omega) (by omega) g4) rfl (fun M5 g5b => ⟨g5b.1.1.fx hF0, rfl, ?_⟩)
      refine HG ts2 (W1 ++ [nI 19]) mn2 M5 (hR.trans (r.trans ?_)) g5b (by rw [List.length_cons]; omega) (by rw [List.length_append, List.length_singleton, List.length_cons]; omega)
      rw [List.append_assoc]; rfl
  refine Con.of (lo := [some (.ref 43)]) F_Tape_readOne.1 rfl (Nat.le_of_ble_eq_true rfl) (k_Tape_readOne_0 hF ?_)
  rw [g5, eq 258 (by decide), em1, em6]
  refine ⟨fun q => ⟨fun q2 => f57 ⟨by omega, by omega⟩, fun q2 => ⟨fun q3 => f57 ⟨by omega, by omega⟩, fun q3 => ?_⟩⟩, fun q => ?_⟩
  · obtain ⟨k2, v6⟩ : k = 2 ∧ v < 6 := by omega
    subst k2
    refine put (nI v) _ (.inr rfl) ?_ ?_
    · rw [xc_nam v v6]; rfl
    · rw [mR_w3, if_neg (by decide), if_pos rfl]
  · obtain ⟨k1, v1⟩ : k = 1 ∧ v < 10000 := by omega
    rw [g6 k1]
    subst k1
    exact put (nI (100000 + v)) _ (.inl rfl) (xc_num (by omega)).symm (by rw [mR_w3, if_pos rfl])
/-- all of them -/
theorem all_lv (hF0 : Fx M0) (ht : TBx tp M0) (hb : ∀ i, byt tp i < 256) (h160 : tp.length ≤ 160) : ∀ (N : Nat), (∀ X, 10 + 6 * N ≤ X → POne tp M0 X N) ∧ (∀ X, 13 + 6 * N ≤ X → PLv tp M0 m_Tape_readNot 3 4 true X N) ∧ (∀ X, 15 + 6 * N ≤ X → PLv tp M0 m_Tape_readEither 1 1 true X N) := by
  have step : ∀ N, (∀ N2, N = N2 + 1 → (∀ X, 10 + 6 * N2 ≤ X → POne tp M0 X N2) ∧ (∀ X, 13 + 6 * N2 ≤ X → PLv tp M0 m_Tape_readNot 3 4 true X N2) ∧ (∀ X, 15 + 6 * N2 ≤ X → PLv tp M0 m_Tape_readEither 1 1 true X N2)) → (∀ X, 10 + 6 * N ≤ X → POne tp M0 X N) ∧ (∀ X, 13 + 6 * N ≤ X → PLv tp M0 m_Tape_readNot 3 4 true X N) ∧ (∀ X, 15 + 6 * N ≤ X → PLv tp M0 m_Tape_readEither 1 1 true X N) := by
    intro N h
    have a1 : ∀ X, 10 + 6 * N ≤ X → POne tp M0 X N := fun X hX => by
      obtain ⟨D, rfl⟩ : ∃ D, X = D + 9 := ⟨X - 9, by omega⟩
      exact one_lv hF0 ht hb h160 (fun N2 e => (h N2 e).1 _ (by omega)) (fun N2 e => (h N2 e).2.2 _ (by omega))
    have a2 : ∀ X, 11 + 6 * N ≤ X → PLv tp M0 m_Tape_readTerm 6 6 false X N := fun X hX => by
      obtain ⟨D, rfl⟩ : ∃ D, X = D + 8 := ⟨X - 8, by omega⟩
      exact trm_lv hF0 ht hb h160 (a1 _ (by omega)).lv
    have a3 : ∀ X, 12 + 6 * N ≤ X → PLv tp M0 m_Tape_readSum 5 5 false X N := fun X hX => by
      obtain ⟨D, rfl⟩ : ∃ D, X = D + 8 := ⟨X - 8, by omega⟩
      exact sum_lv hF0 ht hb h160 (a2 _ (by omega))
    have a4 : ∀ X, 13 + 6 * N ≤ X → PLv tp M0 m_Tape_readNot 3 4 true X N := fun X hX => by
      obtain ⟨D, rfl⟩ : ∃ D, X = D + 8 := ⟨X - 8, by omega⟩
      exact not_lv hF0 ht hb h160 (a3 _ (by omega)) (fun N2 e => (h N2 e).2.1 _ (by omega))
    have a5 : ∀ X, 14 + 6 * N ≤ X → PLv tp M0 m_Tape_readBoth 2 2 true X N := fun X hX => by
      obtain ⟨D, rfl⟩ : ∃ D, X = D + 8 := ⟨X - 8, by omega⟩
      exact bth_lv hF0 ht hb h160 (a4 _ (by omega))
    exact ⟨a1, a4, fun X hX => by
      obtain ⟨D, rfl⟩ : ∃ D, X = D + 8 := ⟨X - 8, by omega⟩
      exact eit_lv hF0 ht hb h160 (a5 _ (by omega))⟩
  intro N
  induction N with
  | zero => exact step 0 (fun N2 e => by omega)
  | succ N ih => exact step (N + 1) (fun N2 e => by
      obtain rfl : N = N2 := by omega
      exact ih)
end RDY
