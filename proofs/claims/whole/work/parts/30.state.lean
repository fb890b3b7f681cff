/-! the pure state, and what it means that x's rows, that m's rows hold it -/
abbrev Img : Type := Nat × Nat × (Nat → Nat) × (Nat → Int32) × (Nat → Int32) × (Nat → Nat → Nat) × (List (Nat × Nat)) × Nat
abbrev St : Type := Nat × Nat × (Nat → Nat) × (Nat → Nat) × (Nat → Int32) × (Nat → Int32) × (Nat → Nat → Nat) × (List (Nat × Nat)) × (List Nat) × (List (List Int32 × List Int32)) × Nat × (List (Nat × List Nat)) × (Option (List Nat)) × (List Nat) × (Option Img) × (Nat → Int32) × (Nat → Nat) × (Nat → Nat → Int32)
def iT (g : Img) : Nat := g.1
def iW (g : Img) : Nat := g.2.1
def iMy (g : Img) : Nat → Nat := g.2.2.1
def iWi (g : Img) : Nat → Int32 := g.2.2.2.1
def iBe (g : Img) : Nat → Int32 := g.2.2.2.2.1
def iRd (g : Img) : Nat → Nat → Nat := g.2.2.2.2.2.1
def iFe (g : Img) : List (Nat × Nat) := g.2.2.2.2.2.2.1
def iRu (g : Img) : Nat := g.2.2.2.2.2.2.2
def oT (σ : St) : Nat := σ.1
def oW (σ : St) : Nat := σ.2.1
def oSz (σ : St) : Nat → Nat := σ.2.2.1
def oMy (σ : St) : Nat → Nat := σ.2.2.2.1
def oWi (σ : St) : Nat → Int32 := σ.2.2.2.2.1
def oBe (σ : St) : Nat → Int32 := σ.2.2.2.2.2.1
def oRd (σ : St) : Nat → Nat → Nat := σ.2.2.2.2.2.2.1
def oFe (σ : St) : List (Nat × Nat) := σ.2.2.2.2.2.2.2.1
def oTp (σ : St) : List Nat := σ.2.2.2.2.2.2.2.2.1
def oTx (σ : St) : List (List Int32 × List Int32) := σ.2.2.2.2.2.2.2.2.2.1
def oRu (σ : St) : Nat := σ.2.2.2.2.2.2.2.2.2.2.1
def oGv (σ : St) : List (Nat × List Nat) := σ.2.2.2.2.2.2.2.2.2.2.2.1
def oFo (σ : St) : Option (List Nat) := σ.2.2.2.2.2.2.2.2.2.2.2.2.1
def oRo (σ : St) : List Nat := σ.2.2.2.2.2.2.2.2.2.2.2.2.2.1
def oIm (σ : St) : Option Img := σ.2.2.2.2.2.2.2.2.2.2.2.2.2.2.1
def oSo (σ : St) : Nat → Int32 := σ.2.2.2.2.2.2.2.2.2.2.2.2.2.2.2.1
def oSs (σ : St) : Nat → Nat := σ.2.2.2.2.2.2.2.2.2.2.2.2.2.2.2.2.1
def oSc (σ : St) : Nat → Nat → Int32 := σ.2.2.2.2.2.2.2.2.2.2.2.2.2.2.2.2.2
def sT (σ : St) (v : Nat) : St := (v, oW σ, oSz σ, oMy σ, oWi σ, oBe σ, oRd σ, oFe σ, oTp σ, oTx σ, oRu σ, oGv σ, oFo σ, oRo σ, oIm σ, oSo σ, oSs σ, oSc σ)
def sW (σ : St) (v : Nat) : St := (oT σ, v, oSz σ, oMy σ, oWi σ, oBe σ, oRd σ, oFe σ, oTp σ, oTx σ, oRu σ, oGv σ, oFo σ, oRo σ, oIm σ, oSo σ, oSs σ, oSc σ)
def sSz (σ : St) (v : Nat → Nat) : St := (oT σ, oW σ, v, oMy σ, oWi σ, oBe σ, oRd σ, oFe σ, oTp σ, oTx σ, oRu σ, oGv σ, oFo σ, oRo σ, oIm σ, oSo σ, oSs σ, oSc σ)
def sMy (σ : St) (v : Nat → Nat) : St := (oT σ, oW σ, oSz σ, v, oWi σ, oBe σ, oRd σ, oFe σ, oTp σ, oTx σ, oRu σ, oGv σ, oFo σ, oRo σ, oIm σ, oSo σ, oSs σ, oSc σ)
def sWi (σ : St) (v : Nat → Int32) : St := (oT σ, oW σ, oSz σ, oMy σ, v, oBe σ, oRd σ, oFe σ, oTp σ, oTx σ, oRu σ, oGv σ, oFo σ, oRo σ, oIm σ, oSo σ, oSs σ, oSc σ)
def sBe (σ : St) (v : Nat → Int32) : St := (oT σ, oW σ, oSz σ, oMy σ, oWi σ, v, oRd σ, oFe σ, oTp σ, oTx σ, oRu σ, oGv σ, oFo σ, oRo σ, oIm σ, oSo σ, oSs σ, oSc σ)
def sRd (σ : St) (v : Nat → Nat → Nat) : St := (oT σ, oW σ, oSz σ, oMy σ, oWi σ, oBe σ, v, oFe σ, oTp σ, oTx σ, oRu σ, oGv σ, oFo σ, oRo σ, oIm σ, oSo σ, oSs σ, oSc σ)
def sFe (σ : St) (v : List (Nat × Nat)) : St := (oT σ, oW σ, oSz σ, oMy σ, oWi σ, oBe σ, oRd σ, v, oTp σ, oTx σ, oRu σ, oGv σ, oFo σ, oRo σ, oIm σ, oSo σ, oSs σ, oSc σ)
def sTp (σ : St) (v : List Nat) : St := (oT σ, oW σ, oSz σ, oMy σ, oWi σ, oBe σ, oRd σ, oFe σ, v, oTx σ, oRu σ, oGv σ, oFo σ, oRo σ, oIm σ, oSo σ, oSs σ, oSc σ)
def sTx (σ : St) (v : List (List Int32 × List Int32)) : St := (oT σ, oW σ, oSz σ, oMy σ, oWi σ, oBe σ, oRd σ, oFe σ, oTp σ, v, oRu σ, oGv σ, oFo σ, oRo σ, oIm σ, oSo σ, oSs σ, oSc σ)
def sRu (σ : St) (v : Nat) : St := (oT σ, oW σ, oSz σ, oMy σ, oWi σ, oBe σ, oRd σ, oFe σ, oTp σ, oTx σ, v, oGv σ, oFo σ, oRo σ, oIm σ, oSo σ, oSs σ, oSc σ)
def sGv (σ : St) (v : List (Nat × List Nat)) : St := (oT σ, oW σ, oSz σ, oMy σ, oWi σ, oBe σ, oRd σ, oFe σ, oTp σ, oTx σ, oRu σ, v, oFo σ, oRo σ, oIm σ, oSo σ, oSs σ, oSc σ)
def sFo (σ : St) (v : Option (List Nat)) : St := (oT σ, oW σ, oSz σ, oMy σ, oWi σ, oBe σ, oRd σ, oFe σ, oTp σ, oTx σ, oRu σ, oGv σ, v, oRo σ, oIm σ, oSo σ, oSs σ, oSc σ)
def sRo (σ : St) (v : List Nat) : St := (oT σ, oW σ, oSz σ, oMy σ, oWi σ, oBe σ, oRd σ, oFe σ, oTp σ, oTx σ, oRu σ, oGv σ, oFo σ, v, oIm σ, oSo σ, oSs σ, oSc σ)
def sIm (σ : St) (v : Option Img) : St := (oT σ, oW σ, oSz σ, oMy σ, oWi σ, oBe σ, oRd σ, oFe σ, oTp σ, oTx σ, oRu σ, oGv σ, oFo σ, oRo σ, v, oSo σ, oSs σ, oSc σ)
def sSo (σ : St) (v : Nat → Int32) : St := (oT σ, oW σ, oSz σ, oMy σ, oWi σ, oBe σ, oRd σ, oFe σ, oTp σ, oTx σ, oRu σ, oGv σ, oFo σ, oRo σ, oIm σ, v, oSs σ, oSc σ)
def sSs (σ : St) (v : Nat → Nat) : St := (oT σ, oW σ, oSz σ, oMy σ, oWi σ, oBe σ, oRd σ, oFe σ, oTp σ, oTx σ, oRu σ, oGv σ, oFo σ, oRo σ, oIm σ, oSo σ, v, oSc σ)
def sSc (σ : St) (v : Nat → Nat → Int32) : St := (oT σ, oW σ, oSz σ, oMy σ, oWi σ, oBe σ, oRd σ, oFe σ, oTp σ, oTx σ, oRu σ, oGv σ, oFo σ, oRo σ, oIm σ, oSo σ, oSs σ, v)
/-- behind a piece of code that may have made cells, and written ints of rows of L, references of rows of R alone -/
def FrG (L R : List Nat) (M M2 : Mem) : Prop := (∃ e, sh M2 = sh M ++ e) ∧ sc M2 = sc M ∧ ∀ j, j < (sh M).length → (j ∉ L → mi M2 j = mi M j) ∧ (j ∉ R → mr M2 j = mr M j) ∧ ml M2 j = ml M j
theorem FrG.rf {M : Mem} (L R : List Nat) : FrG L R M M := ⟨⟨[], by rw [List.append_nil]⟩, rfl, fun _ _ => ⟨fun _ => rfl, fun _ => rfl, rfl⟩⟩
theorem FrG.len {L R : List Nat} {M M2 : Mem} (h : FrG L R M M2) : (sh M).length ≤ (sh M2).length := by
  obtain ⟨⟨e, he⟩, -⟩ := h
  rw [he, List.length_append]; omega
theorem FrG.tr {L R : List Nat} {M M2 M3 : Mem} (h : FrG L R M M2) (h2 : FrG L R M2 M3) : FrG L R M M3 := by
  have hl := h.len
  obtain ⟨⟨e, he⟩, a, b⟩ := h
  obtain ⟨⟨e2, he2⟩, a2, b2⟩ := h2
  refine ⟨⟨e ++ e2, by rw [he2, he, List.append_assoc]⟩, a2.trans a, fun j hj => ?_⟩
  obtain ⟨x1, x2, x3⟩ := b j hj
  obtain ⟨y1, y2, y3⟩ := b2 j (by omega)
  exact ⟨fun q => (y1 q).trans (x1 q), fun q => (y2 q).trans (x2 q), y3.trans x3⟩
theorem FrG.wk {L R L2 R2 : List Nat} {M M2 : Mem} (h : FrG L R M M2) (hs : ∀ j ∈ L, j ∈ L2) (hr : ∀ j ∈ R, j ∈ R2) : FrG L2 R2 M M2 := ⟨h.1, h.2.1, fun j hj => ⟨fun q => (h.2.2 j hj).1 (fun z => q (hs j z)), fun q => (h.2.2 j hj).2.1 (fun z => q (hr j z)), (h.2.2 j hj).2.2⟩⟩
theorem FrG.fwi {L R : List Nat} {M M2 : Mem} {j k : Nat} {v : Int32} (h : FrG L R M M2) (hj : j ∈ L) : FrG L R M (wi M2 j k v) := ⟨h.1, h.2.1, fun i hi => by
  obtain ⟨x1, x2, x3⟩ := h.2.2 i hi
  refine ⟨fun hn => ?_, x2, x3⟩
  rw [← x1 hn]
  show u2 (mi M2) j k v i = mi M2 i
  exact u2_n (fun e => hn (e ▸ hj))⟩
theorem FrG.fwr {L R : List Nat} {M M2 : Mem} {j k : Nat} {v : Option Nat} (h : FrG L R M M2) (hj : j ∈ R) : FrG L R M (wr M2 j k v) := ⟨h.1, h.2.1, fun i hi => by
  obtain ⟨x1, x2, x3⟩ := h.2.2 i hi
  refine ⟨x1, fun hn => ?_, x3⟩
  rw [← x2 hn]
  show u2 (mr M2) j k v i = mr M2 i
  exact u2_n (fun e => hn (e ▸ hj))⟩
theorem FrG.row {L R : List Nat} {M M2 : Mem} (h : FrG L R M M2) {j : Nat} (hj : j < (sh M).length) (hn : j ∉ L) : mi M2 j = mi M j := (h.2.2 j hj).1 hn
theorem FrG.rrow {L R : List Nat} {M M2 : Mem} (h : FrG L R M M2) {j : Nat} (hj : j < (sh M).length) (hn : j ∉ R) : mr M2 j = mr M j := (h.2.2 j hj).2.1 hn
theorem FrG.lrow {L R : List Nat} {M M2 : Mem} (h : FrG L R M M2) {j : Nat} (hj : j < (sh M).length) : ml M2 j = ml M j := (h.2.2 j hj).2.2
theorem FrG.shp {L R : List Nat} {M M2 : Mem} (h : FrG L R M M2) {j : Nat} {kn : Nat × Nat} (hj : (sh M)[j]? = some kn) : (sh M2)[j]? = some kn := by
  obtain ⟨⟨e, he⟩, -⟩ := h
  rw [he, List.getElem?_append_left (List.getElem?_eq_some_iff.mp hj).1]
  exact hj
theorem FrG.fz {L R : List Nat} {M M2 : Mem} {a b : Nat} (h : FrG L R M M2) (hf : Fz a b M) (hb : b ≤ (sh M).length) (hL : ∀ j ∈ R, j < a ∨ b ≤ j) : Fz a b M2 := by
  refine ⟨fun j kn h1 h2 hj => h.shp (hf.1 j kn h1 h2 hj), fun j k q l h1 h2 hj hk => ?_⟩
  rw [h.rrow (by omega) (fun hm => by have := hL j hm; omega)]
  exact hf.2 j k q l h1 h2 hj hk
theorem FrG.fx {L : List Nat} {M M2 : Mem} (h : FrG L [] M M2) (hf : Fx M) : Fx M2 := h.fz hf hf.len (fun j hj => by cases hj)
theorem FrG.fm {L R : List Nat} {M M2 : Mem} (h : FrG L R M M2) (hf : Fm M) (hR : ∀ j ∈ R, j < 78 ∨ 113 ≤ j := by decide) : Fm M2 := h.fz hf hf.len hR
/-- hours: the least sum of roads: roads alone at first, then by way of each town in turn, in place -/
def fw0 (rd : Nat → Nat → Nat) : Nat → Nat → Nat := fun a b => if a = b then 0 else if rd a b = 0 then 99 else rd a b
def fw1 (f : Nat → Nat → Nat) (m a b : Nat) : Nat → Nat → Nat := u2 f a b (min (f a b) (f a m + f m b))
def fwB (f : Nat → Nat → Nat) (m a : Nat) : Nat → Nat → Nat → Nat
  | 0 => f
  | n + 1 => fw1 (fwB f m a n) m a n
def fwA (T : Nat) (f : Nat → Nat → Nat) (m : Nat) : Nat → Nat → Nat → Nat
  | 0 => f
  | n + 1 => fwB (fwA T f m n) m n T
def fwM (T : Nat) (f : Nat → Nat → Nat) : Nat → Nat → Nat → Nat
  | 0 => f
  | n + 1 => fwA T (fwM T f n) n T
def far (T : Nat) (rd : Nat → Nat → Nat) : Nat → Nat → Nat := fwM T (fw0 rd) T
/-- m's numbers of a TEXT's steps as x has them -/
def xc (c : Int32) : Int32 := if 100000 ≤ c then c - 100000 else if c < 11 then -1 - c else if c = 11 then -7 else if c = 12 then -8 else if c = 13 then -14 else if c = 14 then -9 else if c = 15 then -10 else if c = 16 then -11 else if c = 17 then -12 else if c = 18 then -13 else -15
def CodeAt (M : Mem) (a : Nat) (l : List Int32) : Prop := ((75 ≤ a ∧ a < 78) ∨ 113 ≤ a) ∧ (sh M)[a]? = some (100, l.length) ∧ ∀ (k : Nat) (c : Int32), l[k]? = some c → mi M a k = xc c
def XLand (σ : St) (M : Mem) : Prop :=
  mi M 1 8 = nI (oT σ) ∧ mi M 1 9 = nI (oW σ) ∧ mi M 1 10 = nI (oFe σ).length ∧ mi M 1 11 = nI (oRu σ) ∧
  (∀ t, t < oT σ → mi M 2 t = nI (oSz σ t) ∧ mi M 3 t = nI (oMy σ t) ∧ mi M 4 t = oWi σ t ∧ mi M 5 t = oBe σ t) ∧
  (∀ a b, a < 6 → b < 6 → mi M (7 + a) b = nI (oRd σ a b)) ∧
  (∀ a b, a < oT σ → b < oT σ → mi M (14 + a) b = nI (far (oT σ) (oRd σ) a b)) ∧
  (∀ i w d, (oFe σ)[i]? = some (w, d) → mi M 20 i = nI w ∧ mi M 21 i = nI d)
def XKept (σ : St) (M : Mem) : Prop := match oIm σ with
  | none => mi M 0 2 = 0 ∧ mi M 22 8 = 0 ∧ ∀ a b, a < 6 → b < 6 → mi M (28 + a) b = 0
  | some g => mi M 0 2 = 1 ∧ mi M 22 8 = nI (iT g) ∧ mi M 22 9 = nI (iW g) ∧ mi M 22 10 = nI (iFe g).length ∧ mi M 22 11 = nI (iRu g) ∧
    (∀ t, t < iT g → mi M 24 t = nI (iMy g t) ∧ mi M 25 t = iWi g t ∧ mi M 26 t = iBe g t) ∧ (∀ a b, a < 6 → b < 6 → mi M (28 + a) b = nI (iRd g a b)) ∧
    (∀ i w d, (iFe g)[i]? = some (w, d) → mi M 41 i = nI w ∧ mi M 42 i = nI d)
def XTape (σ : St) (M : Mem) : Prop := mi M 43 1 = nI (oTp σ).length ∧ ∀ i b, (oTp σ)[i]? = some b → mi M 44 i = nI b
def XText (σ : St) (M : Mem) : Prop := mi M 46 2 = nI (oTx σ).length ∧ ∀ i n w, (oTx σ)[i]? = some (n, w) → ∃ r a b, mr M 47 i = some r ∧ (r = 75 ∨ 113 ≤ r) ∧ (sh M)[r]? = some (7, 2) ∧ mr M r 0 = some a ∧ mr M r 1 = some b ∧ CodeAt M a n ∧ CodeAt M b w
def XGiv (σ : St) (M : Mem) : Prop := mi M 0 6 = nI (oGv σ).length ∧ ∀ g k ns, (oGv σ)[g]? = some (k, ns) → ∃ p u, mr M 50 g = some p ∧ 113 ≤ p ∧ (sh M)[p]? = some (3, 2) ∧ mi M p 0 = nI k ∧ mr M p 1 = some u ∧ 113 ≤ u ∧ (sh M)[u]? = some (100, ns.length) ∧ ∀ t v, ns[t]? = some v → mi M u t = nI v
def XFound (σ : St) (M : Mem) : Prop := mi M 53 4 = nI ((oFo σ).getD []).length ∧ ∀ t v, ((oFo σ).getD [])[t]? = some v → mi M 54 t = nI v
def XRound (σ : St) (M : Mem) : Prop := mi M 63 3 = nI (oRo σ).length ∧ ∀ t v, (oRo σ)[t]? = some v → mi M 64 t = nI v
def XSheet (σ : St) (M : Mem) : Prop := ∀ s, s < 4 → mi M (67 + 2 * s) 1 = oSo σ s ∧ mi M (67 + 2 * s) 2 = nI (oSs σ s) ∧ ∀ i, i < 40 → mi M (68 + 2 * s) i = oSc σ s i
def XA (σ : St) (M : Mem) : Prop := Fx M ∧ XLand σ M ∧ XKept σ M ∧ XTape σ M ∧ XText σ M ∧ XGiv σ M ∧ XFound σ M ∧ XRound σ M ∧ XSheet σ M
def MLand (σ : St) (M : Mem) : Prop :=
  mi M 78 0 = nI (oT σ) ∧ mi M 78 6 = nI (oW σ) ∧ mi M 78 7 = nI (oFe σ).length ∧ mi M 78 15 = nI (oRu σ) ∧
  (∀ t, t < oT σ → mi M 79 t = nI (oSz σ t) ∧ mi M 80 t = nI (oMy σ t) ∧ mi M 81 t = oWi σ t ∧ mi M 82 t = oBe σ t) ∧
  (∀ a b, a < 6 → b < 6 → mi M 83 (6 * a + b) = nI (oRd σ a b)) ∧
  (∀ i w d, (oFe σ)[i]? = some (w, d) → mi M 84 i = nI w ∧ mi M 85 i = nI d)
def MKept (σ : St) (M : Mem) : Prop := match oIm σ with
  | none => mi M 78 25 = 0
  | some g => mi M 78 25 = 1 ∧ mi M 78 26 = nI (iT g) ∧ mi M 78 27 = nI (iW g) ∧ mi M 78 28 = nI (iFe g).length ∧ mi M 78 29 = nI (iRu g) ∧
    (∀ t, t < iT g → mi M 94 t = nI (iMy g t) ∧ mi M 95 t = iWi g t ∧ mi M 96 t = iBe g t) ∧ (∀ a b, a < 6 → b < 6 → mi M 97 (6 * a + b) = nI (iRd g a b)) ∧
    (∀ i w d, (iFe g)[i]? = some (w, d) → mi M 98 i = nI w ∧ mi M 99 i = nI d)
def MTape (σ : St) (M : Mem) : Prop := mi M 78 11 = nI (oTp σ).length ∧ ∀ i b, (oTp σ)[i]? = some b → mi M 86 i = nI b
def MText (σ : St) (M : Mem) : Prop := mi M 78 14 = nI (oTx σ).length ∧ ∀ i n w, (oTx σ)[i]? = some (n, w) → mi M 88 (4 * i) = 0 ∧ mi M 88 (4 * i + 1) = nI n.length ∧ mi M 88 (4 * i + 2) = nI (n.length + w.length) ∧ ∀ k c, (n ++ w)[k]? = some c → mi M 87 (200 * i + k) = c
def MGiv (σ : St) (M : Mem) : Prop := mi M 78 16 = nI (oGv σ).length ∧ ∀ g k ns, (oGv σ)[g]? = some (k, ns) → mi M 89 g = nI k ∧ mi M 90 g = nI ns.length ∧ ∀ t v, ns[t]? = some v → mi M 91 (6 * g + t) = nI v
def MFound (σ : St) (M : Mem) : Prop := match oFo σ with
  | none => mi M 78 20 = 0
  | some l => mi M 78 20 = 1 ∧ mi M 78 21 = nI l.length ∧ ∀ t v, l[t]? = some v → mi M 92 t = nI v
def MRound (σ : St) (M : Mem) : Prop := mi M 78 23 = nI (oRo σ).length ∧ ∀ t v, (oRo σ)[t]? = some v → mi M 93 t = nI v
def MSheet (σ : St) (M : Mem) : Prop := ∀ s, s < 4 → mi M 100 s = oSo σ s ∧ mi M 101 s = nI (oSs σ s) ∧ ∀ i, i < 40 → mi M 102 (40 * s + i) = oSc σ s i
def wordsT : List Int64 := [1852137842, 512970880104, 448546566771, 1936292453, 478694368626, 6578553, 2002873972, 2003133803, 28530, 6385252, 7237492]
def MA (σ : St) (M : Mem) : Prop := Fm M ∧ (∀ k w, wordsT[k]? = some w → ml M 104 k = w) ∧ MLand σ M ∧ MKept σ M ∧ MTape σ M ∧ MText σ M ∧ MGiv σ M ∧ MFound σ M ∧ MRound σ M ∧ MSheet σ M
/-- steps of a TEXT: the depth of the stack never falls below what a step needs, nor grows over 40; one is left -/
def okc : List Int32 → Nat → Bool
  | [], d => d == 1
  | c :: cs, d => if 100000 ≤ c ∧ c < 200000 ∨ 0 ≤ c ∧ c < 6 then decide (d < 40) && okc cs (d + 1) else if c = 13 ∨ c = 19 then decide (1 ≤ d) && okc cs d else decide (11 ≤ c ∧ c ≤ 18) && (decide (2 ≤ d) && okc cs (d - 1))
def WFx (T : Nat) (my : Nat → Nat) (wi be : Nat → Int32) (rd : Nat → Nat → Nat) (fe : List (Nat × Nat)) : Prop :=
  (∀ t, t < T → my t ≤ 127 ∧ (wi t = -1 ∨ ∃ k, k ≤ 6 ∧ wi t = nI k) ∧ (be t = -1 ∨ ∃ k, k < T ∧ k ≠ t ∧ be t = nI k)) ∧
  (∀ a b, rd a b ≤ 50 ∧ rd a b = rd b a ∧ rd a a = 0 ∧ (T ≤ a → rd a b = 0)) ∧ fe.length ≤ 10 ∧ ∀ q ∈ fe, q.1 < 100 ∧ q.2 < 7
def WF (σ : St) : Prop :=
  oT σ ≤ 6 ∧ (2 ≤ oW σ ∧ oW σ ≤ 7) ∧ (∀ t, oSz σ t ≤ 99) ∧ WFx (oT σ) (oMy σ) (oWi σ) (oBe σ) (oRd σ) (oFe σ) ∧ ((oTp σ).length ≤ 160 ∧ ∀ b ∈ oTp σ, b < 256) ∧
  (1 ≤ (oTx σ).length ∧ (oTx σ).length ≤ 6 ∧ oRu σ < (oTx σ).length ∧ ∀ q ∈ oTx σ, okc q.1 0 = true ∧ okc q.2 0 = true ∧ q.1.length + q.2.length ≤ 160) ∧
  ((oGv σ).length ≤ 12 ∧ ∀ q ∈ oGv σ, q.1 < 6 ∧ q.2.length ≤ oT σ ∧ ∀ v ∈ q.2, v ≤ 7) ∧ (∀ l, oFo σ = some l → l.length ≤ 6 ∧ ∀ v ∈ l, v < 7) ∧ ((oRo σ).length ≤ 7 ∧ ∀ v ∈ oRo σ, v < 6) ∧
  (∀ g, oIm σ = some g → iT g ≤ oT σ ∧ (2 ≤ iW g ∧ iW g ≤ 7) ∧ iRu g < (oTx σ).length ∧ WFx (iT g) (iMy g) (iWi g) (iBe g) (iRd g) (iFe g)) ∧
  (∀ s, s < 4 → (oSo σ s = -1 ∨ ∃ k, k ≤ 2 ∧ oSo σ s = nI k) ∧ oSs σ s ≤ 40)
