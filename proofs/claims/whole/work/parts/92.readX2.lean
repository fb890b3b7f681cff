/-! TEXT: x's readers, each against how it is read purely -/
def Stq (l : Nat) (ts : List Tok) (R : Res) : Prop := ∀ s k v tl, ts = (s, k, v) :: tl → sgn k ≠ 99 → l ≤ rnk (sgn k) → R = .inl s
def MC (b : Bool) (ts : List Tok) (mn : Bool) : Prop := match b with
  | true => mn = true
  | false => ∀ s k v tl, ts = (s, k, v) :: tl → k = 6 → mn = false
def PLv (tp : List Nat) (M0 : Mem) (y : Mth) (l lc : Nat) (b : Bool) (D N : Nat) : Prop := ∀ (ts : List Tok) (H : List Nat) (W : List Int32) (M : Mem) (mn : Bool) (K : Mem → Prop), opnN H + N = 5 → Tp lc H → MC b ts mn → GX tp ts H W M0 M → W.length + H.length + ts.length ≤ 160 → (∀ S ts2 W1 mn2 M2, mR ts true mn H W = mR ts2 false mn2 (S ++ H) W1 → (∀ c ∈ S, l ≤ rnk c) → Stq l ts2 (mR ts2 false mn2 (S ++ H) W1) → GX tp ts2 H (W1 ++ S.map nI) M0 M2 → ts2.length < ts.length → W1.length + S.length + H.length + ts2.length ≤ W.length + H.length + ts.length → K M2) → (∀ f M2, mR ts true mn H W = .inl f → XF f M0 M2 → K M2) → Con D y 0 0 [.ref 43] M (PV K)
def POne (tp : List Nat) (M0 : Mem) (D N : Nat) : Prop := ∀ (ts : List Tok) (H : List Nat) (W : List Int32) (M : Mem) (mn : Bool) (K : Mem → Prop), opnN H + N = 5 → MC false ts mn → GX tp ts H W M0 M → W.length + H.length + ts.length ≤ 160 → (∀ ts2 W1 mn2 M2, mR ts true mn H W = mR ts2 false mn2 (unH 7 H) (W1 ++ unO 7 H) → GX tp ts2 H W1 M0 M2 → ts2.length < ts.length → W1.length + H.length + ts2.length ≤ W.length + H.length + ts.length → K M2) → (∀ f M2, mR ts true mn H W = .inl f → XF f M0 M2 → K M2) → Con D m_Tape_readOne 0 0 [.ref 43] M (PV K)
theorem sgn_rk (k : Nat) (h : sgn k ≠ 99) : 1 ≤ rnk (sgn k) ∧ rnk (sgn k) ≤ 6 ∧ rnk (sgn k) ≠ 3 := by
  rcases (sgn_in k).resolve_left h with e | e | e | e | e | e | e <;> rw [e] <;> decide
theorem POne.lv {tp : List Nat} {M0 : Mem} {D N : Nat} (h : POne tp M0 D N) : PLv tp M0 m_Tape_readOne 7 7 false D N := by
  intro ts H W M mn K hN hT hm hg hl HG HF
  refine h ts H W M mn K hN hm hg hl (fun ts2 W1 mn2 M2 hR g2 l1 l2 => ?_) HF
  obtain ⟨u1, u2⟩ := un_top hT
  rw [u1, u2, List.append_nil] at hR
  refine HG [] ts2 W1 mn2 M2 hR (fun c hc => by cases hc) (fun s k v tl _ h1 h2 => ?_) ?_ l1 (by rw [List.length_nil]; omega)
  · have := sgn_rk k h1; omega
  · rw [List.map_nil, List.append_nil]; exact g2
theorem GX.hd {tp : List Nat} {ts : List Tok} {H : List Nat} {W : List Int32} {M0 M : Mem} (h : GX tp ts H W M0 M) : ∃ s k v tl, ts = (s, k, v) :: tl ∧ mi M 43 5 = xtk k v ∧ (k = 0 ∨ kOK k v) ∧ (k = 1 → mi M 43 6 = nI v) := by
  obtain ⟨f, ⟨s, k, v, tl, e, g4, g5, g6, g3, hs⟩, ho, hw, h2, hk⟩ := h
  exact ⟨s, k, v, tl, e, g5, hk (s, k, v) (by rw [e]; exact List.mem_cons_self), g6⟩
theorem hd4_f {H : List Nat} (h : Tp 4 H) : hd4 H = false := by
  cases H with
  | nil => rfl
  | cons c H =>
    have := h c rfl
    exact decide_eq_false (by omega)
theorem mR_op {s k v : Nat} {tl : List Tok} {mn : Bool} {H S : List Nat} {W : List Int32} (h99 : sgn k ≠ 99) (h1 : ∀ x ∈ S, btL (sgn k) ≤ rnk x) (h2 : Tp (btL (sgn k)) H) (h3 : rnk (sgn k) = 4 → hd4 H = false) : mR ((s, k, v) :: tl) false mn (S ++ H) W = mR tl true (decide (sgn k ≤ 12)) (sgn k :: H) (W ++ S.map nI) := by
  obtain ⟨u1, u2⟩ := un_app (H := H) S h1
  obtain ⟨u3, u4⟩ := un_top h2
  have k59 : k ≠ 59 := fun e => by subst e; exact h99 rfl
  have k41 : k ≠ 41 := fun e => by subst e; exact h99 rfl
  rw [mR_n3, if_neg k59, if_neg k41, if_neg h99, u1, u2, u3, u4, List.append_nil, if_neg (fun z => by rw [h3 z.1] at z; exact absurd z.2 (by decide))]
section RDX
variable {d bc bs N : Nat} {tp : List Nat} {M0 : Mem}
/-- an operator, and what stands behind it -/
theorem opstep {op : Mth} {lo lc D B : Nat} {b : Bool} {s k v : Nat} {tl : List Tok} {mn : Bool} {H S : List Nat} {W : List Int32} {M : Mem} {xop : Int32} {Nx : Mem → Prop} (hF0 : Fx M0) (ht : TBx tp M0) (hb : ∀ i, byt tp i < 256) (h160 : tp.length ≤ 160)
    (hop : PLv tp M0 op lo lc b (D + 7) N) (hopB : ∀ f M K, XF f M0 M → (∀ M2, XF f M0 M2 → K M2) → Con (D + 7) op 0 0 [.ref 43] M (PV K)) (h99 : sgn k ≠ 99) (h1 : ∀ x ∈ S, btL (sgn k) ≤ rnk x) (h2 : Tp (btL (sgn k)) H) (h3 : rnk (sgn k) = 4 → hd4 H = false) (h4 : rnk (sgn k) < lc) (h6 : b = decide (sgn k ≤ 12)) (hN : opnN H + N = 5)
    (hx : xop = xc (nI (sgn k))) (hg : GX tp ((s, k, v) :: tl) H (W ++ S.map nI) M0 M) (hB : W.length + S.length + H.length + (tl.length + 1) ≤ B) (hB2 : B ≤ 160)
    (HS : ∀ S2 ts2 W2 mn2 M3, mR ((s, k, v) :: tl) false mn (S ++ H) W = mR ts2 false mn2 (S2 ++ sgn k :: H) W2 → (∀ x ∈ S2, lo ≤ rnk x) → Stq lo ts2 (mR ts2 false mn2 (S2 ++ sgn k :: H) W2) → GX tp ts2 H (W2 ++ (S2 ++ [sgn k]).map nI) M0 M3 → ts2.length < tl.length → W2.length + (S2.length + 1) + H.length + ts2.length ≤ B → Nx M3)
    (HF : ∀ f M3, mR ((s, k, v) :: tl) false mn (S ++ H) W = .inl f → XF f M0 M3 → Nx M3) : Con (D + 7) m_Tape_advance 0 0 [.ref 43] M (PV fun M1 => Fx M1 ∧ Con (D + 7) op 0 0 [.ref 43] M1 (PV fun M2 => Fx M2 ∧ Con (D + 7) m_Tape_write 0 0 [.ref 43, .int xop] M2 (PV fun M3 => Fx M3 ∧ Nx M3))) := by
  have hk0 : k ≠ 0 := fun e => by subst e; exact h99 rfl
  have hsg := (sgn_in k).resolve_left h99
  have ho : opnN (sgn k :: H) = opnN H := by
    show opnN H + _ = _
    rw [if_neg (by omega), Nat.add_zero]
  have hR := mR_op (s := s) (v := v) (tl := tl) (mn := mn) (W := W) h99 h1 h2 h3
  refine sx_advG hF0 ht hb h160 hg rfl hk0 (fun M1 g1 => ⟨g1.1.1.fx hF0, ?_⟩)
  have g1' : GX tp tl (sgn k :: H) (W ++ S.map nI) M0 M1 := ⟨g1.1, g1.2.1, by rw [ho]; exact g1.2.2.1, g1.2.2.2⟩
  refine hop tl (sgn k :: H) (W ++ S.map nI) M1 (decide (sgn k ≤ 12)) _ (by rw [ho]; exact hN) (Tp.cons h4) ?_ g1' (by rw [List.length_append, List.length_map, List.length_cons]; omega) (fun S2 ts2 W2 mn2 M2 r2 s2 st2 g2 l1 l2 => ⟨g2.1.1.fx hF0, ?_⟩) (fun f M2 r2 x2 => ⟨x2.1.1.fx hF0, ?_⟩)
  · cases b with
    | true => exact h6.symm
    | false => exact fun _ _ _ _ _ _ => h6.symm
  · rw [List.length_append, List.length_map, List.length_cons] at l2
    have g2' : GX tp ts2 H (W2 ++ S2.map nI) M0 M2 := ⟨g2.1, g2.2.1, by rw [← ho]; exact g2.2.2.1, g2.2.2.2⟩
    refine sx_writeG (c := nI (sgn k)) hF0 (by rw [List.length_append, List.length_map]; omega) g2' hx (fun M3 g3 => ⟨g3.1.1.fx hF0, HS S2 ts2 W2 mn2 M3 (hR.trans r2) s2 st2 ?_ l1 (by omega)⟩)
    rw [List.map_append, ← List.append_assoc]
    exact g3
  · exact sx_writeB hF0 x2 (fun M3 x3 => ⟨x3.1.1.fx hF0, HF f M3 (hR.trans r2) x3⟩)
theorem Stq.lo {l l2 : Nat} {ts : List Tok} {R : Res} (h : Stq l ts R) (q : ∀ s k v tl, ts = (s, k, v) :: tl → sgn k ≠ 99 → l2 ≤ rnk (sgn k) → l ≤ rnk (sgn k)) : Stq l2 ts R := fun s k v tl e h1 h2 => h s k v tl e h1 (q s k v tl e h1 h2)
theorem sgn_11 {k : Nat} (h : sgn k = 11) : k = 4 := by
  unfold sgn at h
  repeat' split at h
  all_goals omega
theorem sgn_12 {k : Nat} (h : sgn k = 12) : k = 5 := by
  unfold sgn at h
  repeat' split at h
  all_goals omega
theorem sgn_18 {k : Nat} (h : sgn k = 18) : k = 42 := by
  unfold sgn at h
  repeat' split at h
  all_goals omega
theorem sgn_14 {k : Nat} (h : sgn k = 14) : k = 60 := by
  unfold sgn at h
  repeat' split at h
  all_goals omega
theorem sgn_15 {k : Nat} (h : sgn k = 15) : k = 61 := by
  unfold sgn at h
  repeat' split at h
  all_goals omega
theorem sgn_16 {k : Nat} (h : sgn k = 16) : k = 43 := by
  unfold sgn at h
  repeat' split at h
  all_goals omega
theorem sgn_17 {k : Nat} (h : sgn k = 17) : k = 45 := by
  unfold sgn at h
  repeat' split at h
  all_goals omega
theorem trm6 {D : Nat} (hF0 : Fx M0) (ht : TBx tp M0) (hb : ∀ i, byt tp i < 256) (h160 : tp.length ≤ 160) (hop : PLv tp M0 m_Tape_readOne 7 7 false (D + 7) N) {H : List Nat} {R : Res} {B C : Nat} {K : Mem → Prop} (hT : Tp 6 H) (hN : opnN H + N = 5) (hB : B ≤ 160)
    (HG : ∀ S ts2 W1 mn2 M2, R = mR ts2 false mn2 (S ++ H) W1 → (∀ c ∈ S, 6 ≤ rnk c) → Stq 6 ts2 (mR ts2 false mn2 (S ++ H) W1) → GX tp ts2 H (W1 ++ S.map nI) M0 M2 → ts2.length < C → W1.length + S.length + H.length + ts2.length ≤ B → K M2) (HF : ∀ f M2, R = .inl f → XF f M0 M2 → K M2) :
    ∀ (n i : Nat) (S : List Nat) (ts : List Tok) (W : List Int32) (mn : Bool) (M : Mem), ts.length = n → i + ts.length ≤ 160 → ts.length < C → R = mR ts false mn (S ++ H) W → (∀ c ∈ S, 6 ≤ rnk c) → Stq 7 ts (mR ts false mn (S ++ H) W) → GX tp ts H (W ++ S.map nI) M0 M → W.length + S.length + H.length + ts.length ≤ B → Ex (D + 8) m_Tape_readTerm bc bs 6 [some (.ref 43), some (.int (nI i))] [] M (PV K) := by
  intro n
  induction n using Nat.strongRecOn with
  | _ n ih =>
    intro i S ts W mn M hn hi hC hR hS hst hg hlen
    obtain ⟨s, k, v, tl, e, g5, hk, g6⟩ := hg.hd
    subst e
    have hx := xtk_c hk
    have hF := hg.1.1.fx hF0
    rw [List.length_cons] at hn hi hlen
    have rk := sgn_rk k
    refine k_Tape_readTerm_6 hF ?_
    rw [g5]
    refine ⟨fun q => absurd q (by rw [nI_leI (by omega) (by omega)]; omega), fun _ => ⟨fun q => ⟨rfl, HG S _ W mn M hR hS (hst.lo ?_) hg hC (by rw [List.length_cons]; omega)⟩, fun q => ?_⟩⟩
    · intro s2 k2 v2 tl2 e2 h99 hl
      injection e2 with e2 _
      injection e2 with _ e2
      injection e2 with e2 _
      subst e2
      have hk4 : k ≠ 42 := fun z => q (by rw [i_eq]; rw [z] at hx ⊢; show _ = (42 : Int); omega)
      rcases (sgn_in k).resolve_left h99 with z | z | z | z | z | z | z <;> rw [z] at hl ⊢ <;> first | decide | exact absurd hl (by decide) | exact absurd (sgn_18 z) hk4
    · have hk4 : k = 42 := by
        rw [i_eq] at q
        have q : (xtk k v).toInt = (42 : Int) := q
        omega
      subst hk4
      refine opstep (k := 42) (s := s) (v := v) (tl := tl) (H := H) (S := S) (W := W) (B := B) (mn := mn) hF0 ht hb h160 hop (fun f M K => oneB hF0) (by decide) hS hT (fun z => absurd z (by decide)) (by decide) (by decide) hN (by decide) hg (by omega) hB (fun S2 ts2 W2 mn2 M3 r2 s2 st2 g2 l1 l2 => ?_) (fun f M3 r2 x2 => termB6 hF0 x2 (fun M4 x4 => HF f M4 (hR.trans r2) x4))
      rw [nI_add]
      refine ih ts2.length (by omega) (i + 1) (S2 ++ [18]) ts2 W2 mn2 M3 rfl (by omega) (by rw [List.length_cons] at hC; omega) ?_ (fun x hx2 => ?_) ?_ g2 (by rw [List.length_append, List.length_singleton]; omega)
      · rw [hR, r2, List.append_assoc]; rfl
      · rcases List.mem_append.mp hx2 with z | z
        · exact Nat.le_trans (by decide) (s2 x z)
        · rw [List.mem_singleton] at z; rw [z]; decide
      · rw [List.append_assoc]; exact st2
theorem bth6 {D : Nat} (hF0 : Fx M0) (ht : TBx tp M0) (hb : ∀ i, byt tp i < 256) (h160 : tp.length ≤ 160) (hop : PLv tp M0 m_Tape_readNot 3 4 true (D + 7) N) {H : List Nat} {R : Res} {B C : Nat} {K : Mem → Prop} (hT : Tp 2 H) (hN : opnN H + N = 5) (hB : B ≤ 160)
    (HG : ∀ S ts2 W1 mn2 M2, R = mR ts2 false mn2 (S ++ H) W1 → (∀ c ∈ S, 2 ≤ rnk c) → Stq 2 ts2 (mR ts2 false mn2 (S ++ H) W1) → GX tp ts2 H (W1 ++ S.map nI) M0 M2 → ts2.length < C → W1.length + S.length + H.length + ts2.length ≤ B → K M2) (HF : ∀ f M2, R = .inl f → XF f M0 M2 → K M2) :
    ∀ (n i : Nat) (S : List Nat) (ts : List Tok) (W : List Int32) (mn : Bool) (M : Mem), ts.length = n → i + ts.length ≤ 160 → ts.length < C → R = mR ts false mn (S ++ H) W → (∀ c ∈ S, 2 ≤ rnk c) → Stq 3 ts (mR ts false mn (S ++ H) W) → GX tp ts H (W ++ S.map nI) M0 M → W.length + S.length + H.length + ts.length ≤ B → Ex (D + 8) m_Tape_readBoth bc bs 6 [some (.ref 43), some (.int (nI i))] [] M (PV K) := by
  intro n
  induction n using Nat.strongRecOn with
  | _ n ih =>
    intro i S ts W mn M hn hi hC hR hS hst hg hlen
    obtain ⟨s, k, v, tl, e, g5, hk, g6⟩ := hg.hd
    subst e
    have hx := xtk_c hk
    have hF := hg.1.1.fx hF0
    rw [List.length_cons] at hn hi hlen
    have rk := sgn_rk k
    refine k_Tape_readBoth_6 hF ?_
    rw [g5]
    refine ⟨fun q => absurd q (by rw [nI_leI (by omega) (by omega)]; omega), fun _ => ⟨fun q => ⟨rfl, HG S _ W mn M hR hS (hst.lo ?_) hg hC (by rw [List.length_cons]; omega)⟩, fun q => ?_⟩⟩
    · intro s2 k2 v2 tl2 e2 h99 hl
      injection e2 with e2 _
      injection e2 with _ e2
      injection e2 with e2 _
      subst e2
      have hk4 : k ≠ 5 := fun z => q (by rw [i_eq]; rw [z] at hx ⊢; show _ = (-8 : Int); omega)
      rcases (sgn_in k).resolve_left h99 with z | z | z | z | z | z | z <;> rw [z] at hl ⊢ <;> first | decide | exact absurd hl (by decide) | exact absurd (sgn_12 z) hk4
    · have hk4 : k = 5 := by
        rw [i_eq] at q
        have q : (xtk k v).toInt = (-8 : Int) := q
        omega
      subst hk4
      refine opstep (k := 5) (s := s) (v := v) (tl := tl) (H := H) (S := S) (W := W) (B := B) (mn := mn) hF0 ht hb h160 hop (fun f M K => notB hF0) (by decide) hS hT (fun z => absurd z (by decide)) (by decide) (by decide) hN (by decide) hg (by omega) hB (fun S2 ts2 W2 mn2 M3 r2 s2 st2 g2 l1 l2 => ?_) (fun f M3 r2 x2 => bothB6 hF0 x2 (fun M4 x4 => HF f M4 (hR.trans r2) x4))
      rw [nI_add]
      refine ih ts2.length (by omega) (i + 1) (S2 ++ [12]) ts2 W2 mn2 M3 rfl (by omega) (by rw [List.length_cons] at hC; omega) ?_ (fun x hx2 => ?_) ?_ g2 (by rw [List.length_append, List.length_singleton]; omega)
      · rw [hR, r2, List.append_assoc]; rfl
      · rcases List.mem_append.mp hx2 with z | z
        · exact Nat.le_trans (by decide) (s2 x z)
        · rw [List.mem_singleton] at z; rw [z]; decide
      · rw [List.append_assoc]; exact st2
theorem eit6 {D : Nat} (hF0 : Fx M0) (ht : TBx tp M0) (hb : ∀ i, byt tp i < 256) (h160 : tp.length ≤ 160) (hop : PLv tp M0 m_Tape_readBoth 2 2 true (D + 7) N) {H : List Nat} {R : Res} {B C : Nat} {K : Mem → Prop} (hT : Tp 1 H) (hN : opnN H + N = 5) (hB : B ≤ 160)
    (HG : ∀ S ts2 W1 mn2 M2, R = mR ts2 false mn2 (S ++ H) W1 → (∀ c ∈ S, 1 ≤ rnk c) → Stq 1 ts2 (mR ts2 false mn2 (S ++ H) W1) → GX tp ts2 H (W1 ++ S.map nI) M0 M2 → ts2.length < C → W1.length + S.length + H.length + ts2.length ≤ B → K M2) (HF : ∀ f M2, R = .inl f → XF f M0 M2 → K M2) :
    ∀ (n i : Nat) (S : List Nat) (ts : List Tok) (W : List Int32) (mn : Bool) (M : Mem), ts.length = n → i + ts.length ≤ 160 → ts.length < C → R = mR ts false mn (S ++ H) W → (∀ c ∈ S, 1 ≤ rnk c) → Stq 2 ts (mR ts false mn (S ++ H) W) → GX tp ts H (W ++ S.map nI) M0 M → W.length + S.length + H.length + ts.length ≤ B → Ex (D + 8) m_Tape_readEither bc bs 6 [some (.ref 43), some (.int (nI i))] [] M (PV K) := by
  intro n
  induction n using Nat.strongRecOn with
  | _ n ih =>
    intro i S ts W mn M hn hi hC hR hS hst hg hlen
    obtain ⟨s, k, v, tl, e, g5, hk, g6⟩ := hg.hd
    subst e
    have hx := xtk_c hk
    have hF := hg.1.1.fx hF0
    rw [List.length_cons] at hn hi hlen
    have rk := sgn_rk k
    refine k_Tape_readEither_6 hF ?_
    rw [g5]
    refine ⟨fun q => absurd q (by rw [nI_leI (by omega) (by omega)]; omega), fun _ => ⟨fun q => ⟨rfl, HG S _ W mn M hR hS (hst.lo ?_) hg hC (by rw [List.length_cons]; omega)⟩, fun q => ?_⟩⟩
    · intro s2 k2 v2 tl2 e2 h99 hl
      injection e2 with e2 _
      injection e2 with _ e2
      injection e2 with e2 _
      subst e2
      have hk4 : k ≠ 4 := fun z => q (by rw [i_eq]; rw [z] at hx ⊢; show _ = (-7 : Int); omega)
      rcases (sgn_in k).resolve_left h99 with z | z | z | z | z | z | z <;> rw [z] at hl ⊢ <;> first | decide | exact absurd hl (by decide) | exact absurd (sgn_11 z) hk4
    · have hk4 : k = 4 := by
        rw [i_eq] at q
        have q : (xtk k v).toInt = (-7 : Int) := q
        omega
      subst hk4
      refine opstep (k := 4) (s := s) (v := v) (tl := tl) (H := H) (S := S) (W := W) (B := B) (mn := mn) hF0 ht hb h160 hop (fun f M K => bothB hF0) (by decide) hS hT (fun z => absurd z (by decide)) (by decide) (by decide) hN (by decide) hg (by omega) hB (fun S2 ts2 W2 mn2 M3 r2 s2 st2 g2 l1 l2 => ?_) (fun f M3 r2 x2 => eithB6 hF0 x2 (fun M4 x4 => HF f M4 (hR.trans r2) x4))
      rw [nI_add]
      refine ih ts2.length (by omega) (i + 1) (S2 ++ [11]) ts2 W2 mn2 M3 rfl (by omega) (by rw [List.length_cons] at hC; omega) ?_ (fun x hx2 => ?_) ?_ g2 (by rw [List.length_append, List.length_singleton]; omega)
      · rw [hR, r2, List.append_assoc]; rfl
      · rcases List.mem_append.mp hx2 with z | z
        · exact Nat.le_trans (by decide) (s2 x z)
        · rw [List.mem_singleton] at z; rw [z]; decide
      · rw [List.append_assoc]; exact st2
end RDX
