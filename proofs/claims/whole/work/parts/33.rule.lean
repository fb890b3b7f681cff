/-! the steps of a TEXT run on a stack -/
def twoV (c a b : Int32) : Int32 := if c = nI 11 then (if a = 0 then (if b = 0 then nI 0 else nI 1) else nI 1) else if c = nI 12 then (if a = 0 then nI 0 else if b = 0 then nI 0 else nI 1) else if c = nI 14 then (if b ≤ a then nI 0 else nI 1) else if c = nI 15 then (if a = b then nI 1 else nI 0) else if c = nI 16 then a + b else if c = nI 17 then a - b else a * b
def e1 (nm : Nat → Int32) (c : Int32) (s : Nat × (Nat → Int32)) : Nat × (Nat → Int32) :=
  if 100000 ≤ c then (s.1 + 1, u1 s.2 s.1 (c - 100000)) else if c < 11 then (s.1 + 1, u1 s.2 s.1 (nm c.toNatClampNeg)) else
  if c = nI 13 then (s.1, u1 s.2 (s.1 - 1) (if s.2 (s.1 - 1) = 0 then nI 1 else nI 0)) else if c = nI 19 then (s.1, u1 s.2 (s.1 - 1) (-(s.2 (s.1 - 1)))) else
  (s.1 - 1, u1 s.2 (s.1 - 2) (twoV c (s.2 (s.1 - 2)) (s.2 (s.1 - 1))))
def eN (nm : Nat → Int32) : List Int32 → Nat × (Nat → Int32) → Nat × (Nat → Int32)
  | [], s => s
  | c :: cs, s => eN nm cs (e1 nm c s)
def ev (nm : Nat → Int32) (cs : List Int32) : Int32 := (eN nm cs (0, fun _ => 0)).2 0
theorem c_19 {c : Int32} (h1 : 11 ≤ c) (h2 : c ≤ 18) : c = nI 11 ∨ c = nI 12 ∨ c = nI 13 ∨ c = nI 14 ∨ c = nI 15 ∨ c = nI 16 ∨ c = nI 17 ∨ c = nI 18 := by
  have e1 : (11 : Int32).toInt = 11 := rfl
  have e2 : (18 : Int32).toInt = 18 := rfl
  obtain ⟨k, hk, rfl⟩ : ∃ k, k < 19 ∧ c = nI k := i_of (by rw [i_le] at h1; omega) (by rw [i_le] at h2; omega) (by omega)
  rw [i_le, nI_toInt (by omega)] at h1
  rcases (show k = 11 ∨ k = 12 ∨ k = 13 ∨ k = 14 ∨ k = 15 ∨ k = 16 ∨ k = 17 ∨ k = 18 by omega) with rfl | rfl | rfl | rfl | rfl | rfl | rfl | rfl <;> simp
theorem okc_c {c : Int32} {cs : List Int32} {n : Nat} (h : okc (c :: cs) n = true) :
    (∃ v, v < 100000 ∧ c = nI (100000 + v) ∧ n < 40 ∧ okc cs (n + 1) = true) ∨ (∃ k, k < 6 ∧ c = nI k ∧ n < 40 ∧ okc cs (n + 1) = true) ∨
    (c = nI 13 ∧ 1 ≤ n ∧ okc cs n = true) ∨ (c = nI 19 ∧ 1 ≤ n ∧ okc cs n = true) ∨
    ((c = nI 11 ∨ c = nI 12 ∨ c = nI 14 ∨ c = nI 15 ∨ c = nI 16 ∨ c = nI 17 ∨ c = nI 18) ∧ 2 ≤ n ∧ okc cs (n - 1) = true) := by
  have a1 : (100000 : Int32).toInt = 100000 := rfl
  have a2 : (200000 : Int32).toInt = 200000 := rfl
  have a3 : (0 : Int32).toInt = 0 := rfl
  have a4 : (6 : Int32).toInt = 6 := rfl
  unfold okc at h
  split at h
  · rename_i q
    rw [Bool.and_eq_true, decide_eq_true_eq] at h
    rcases q with ⟨q1, q2⟩ | ⟨q1, q2⟩
    · rw [i_le] at q1
      rw [i_lt] at q2
      obtain ⟨k, hk, rfl⟩ : ∃ k, k < 200000 ∧ c = nI k := i_of (by omega) (by omega) (by omega)
      rw [nI_toInt (by omega)] at q1
      exact .inl ⟨k - 100000, by omega, by rw [show 100000 + (k - 100000) = k by omega], h⟩
    · rw [i_le] at q1
      rw [i_lt] at q2
      obtain ⟨k, hk, rfl⟩ : ∃ k, k < 6 ∧ c = nI k := i_of (by omega) (by omega) (by omega)
      exact .inr (.inl ⟨k, hk, rfl, h⟩)
  · split at h
    · rename_i q
      rw [Bool.and_eq_true, decide_eq_true_eq] at h
      rcases q with rfl | rfl
      · exact .inr (.inr (.inl ⟨rfl, h⟩))
      · exact .inr (.inr (.inr (.inl ⟨rfl, h⟩)))
    · rename_i q
      rw [Bool.and_eq_true, Bool.and_eq_true, decide_eq_true_eq, decide_eq_true_eq] at h
      obtain ⟨⟨h1, h2⟩, h3⟩ := h
      rcases c_19 h1 h2 with z | z | z | z | z | z | z | z
      · exact .inr (.inr (.inr (.inr ⟨.inl z, h3⟩)))
      · exact .inr (.inr (.inr (.inr ⟨.inr (.inl z), h3⟩)))
      · exact absurd (Or.inl z) q
      · exact .inr (.inr (.inr (.inr ⟨.inr (.inr (.inl z)), h3⟩)))
      · exact .inr (.inr (.inr (.inr ⟨.inr (.inr (.inr (.inl z))), h3⟩)))
      · exact .inr (.inr (.inr (.inr ⟨.inr (.inr (.inr (.inr (.inl z)))), h3⟩)))
      · exact .inr (.inr (.inr (.inr ⟨.inr (.inr (.inr (.inr (.inr (.inl z))))), h3⟩)))
      · exact .inr (.inr (.inr (.inr ⟨.inr (.inr (.inr (.inr (.inr (.inr z))))), h3⟩)))
theorem i_100k : (100000 : Int32) = nI 100000 := rfl
theorem i_11 : (11 : Int32) = nI 11 := rfl
theorem e1_num {nm : Nat → Int32} {v : Nat} {s : Nat × (Nat → Int32)} (h : v < 100000) : e1 nm (nI (100000 + v)) s = (s.1 + 1, u1 s.2 s.1 (nI v)) := by
  unfold e1
  rw [i_100k, if_pos (nI_le (by omega) (by omega)), pk_sub (by omega), show 100000 + v - 100000 = v by omega]
theorem e1_nam {nm : Nat → Int32} {k : Nat} {s : Nat × (Nat → Int32)} (h : k < 6) : e1 nm (nI k) s = (s.1 + 1, u1 s.2 s.1 (nm k)) := by
  unfold e1
  rw [i_100k, if_neg (by rw [nI_leI (by omega) (by omega)]; omega), i_11, if_pos (by rw [nI_ltI (by omega) (by omega)]; omega), nI_clamp (by omega)]
theorem e1_not {nm : Nat → Int32} {s : Nat × (Nat → Int32)} : e1 nm (nI 13) s = (s.1, u1 s.2 (s.1 - 1) (if s.2 (s.1 - 1) = 0 then nI 1 else nI 0)) := by
  unfold e1
  rw [if_neg (by decide), if_neg (by decide), if_pos rfl]
theorem e1_neg {nm : Nat → Int32} {s : Nat × (Nat → Int32)} : e1 nm (nI 19) s = (s.1, u1 s.2 (s.1 - 1) (-(s.2 (s.1 - 1)))) := by
  unfold e1
  rw [if_neg (by decide), if_neg (by decide), if_neg (by decide), if_pos rfl]
theorem e1_two {nm : Nat → Int32} {c : Int32} {s : Nat × (Nat → Int32)} (h : c = nI 11 ∨ c = nI 12 ∨ c = nI 14 ∨ c = nI 15 ∨ c = nI 16 ∨ c = nI 17 ∨ c = nI 18) : e1 nm c s = (s.1 - 1, u1 s.2 (s.1 - 2) (twoV c (s.2 (s.1 - 2)) (s.2 (s.1 - 1)))) := by
  unfold e1
  rcases h with rfl | rfl | rfl | rfl | rfl | rfl | rfl <;> rw [if_neg (by decide), if_neg (by decide), if_neg (by decide), if_neg (by decide)]
theorem eN_nm {nm nm2 : Nat → Int32} (h : ∀ k, k < 6 → nm k = nm2 k) : ∀ (cs : List Int32) (n : Nat) (g : Nat → Int32), okc cs n = true → eN nm cs (n, g) = eN nm2 cs (n, g)
  | [], _, _, _ => rfl
  | c :: cs, n, g, ho => by
    show eN nm cs (e1 nm c (n, g)) = eN nm2 cs (e1 nm2 c (n, g))
    rcases okc_c ho with ⟨v, hv, rfl, _, h2⟩ | ⟨k, hk, rfl, _, h2⟩ | ⟨rfl, _, h2⟩ | ⟨rfl, _, h2⟩ | ⟨hc, _, h2⟩
    · rw [e1_num hv, e1_num hv]; exact eN_nm h cs _ _ h2
    · rw [e1_nam hk, e1_nam hk, h k hk]; exact eN_nm h cs _ _ h2
    · rw [e1_not, e1_not]; exact eN_nm h cs _ _ h2
    · rw [e1_neg, e1_neg]; exact eN_nm h cs _ _ h2
    · rw [e1_two hc, e1_two hc]; exact eN_nm h cs _ _ h2
theorem ev_nm {nm nm2 : Nat → Int32} {cs : List Int32} (h : ∀ k, k < 6 → nm k = nm2 k) (ho : okc cs 0 = true) : ev nm cs = ev nm2 cs := by
  unfold ev
  rw [eN_nm h cs 0 _ ho]
theorem okc_len : ∀ (n : Nat), okc [] n = true → n = 1 := fun n h => by simpa [okc] using h
theorem xc_num {v : Nat} (h : v < 100000) : xc (nI (100000 + v)) = nI v := by
  unfold xc
  rw [i_100k, if_pos (nI_le (by omega) (by omega)), pk_sub (by omega), show 100000 + v - 100000 = v by omega]
theorem nI_m1 {n : Nat} (h : 1 ≤ n) : nI n + -1 = nI (n - 1) := by
  rw [← nI_sub1 h, Int32.sub_eq_add_neg]
  rfl
theorem sx_join {d : Nat} {c a b : Int32} {M : Mem} {K : Int32 → Mem → Prop} (hF : Fx M) (hc : c = nI 11 ∨ c = nI 12 ∨ c = nI 14 ∨ c = nI 15 ∨ c = nI 16 ∨ c = nI 17 ∨ c = nI 18) (h : K (twoV c a b) M) : Con (d + 1) m_Rule_join 0 0 [.int (xc c), .int a, .int b] M (PI K) := by
  refine Con.of (lo := [some (.int (xc c)), some (.int a), some (.int b)]) F_Rule_join.1 rfl (Nat.le_of_ble_eq_true rfl) (k_Rule_join_0 hF ?_)
  rcases hc with rfl | rfl | rfl | rfl | rfl | rfl | rfl
  · rw [show xc (nI 11) = -7 by decide]
    refine ⟨fun q => absurd q (by decide), fun q => absurd q (by decide), fun q => absurd q (by decide), fun q => absurd q (by decide), fun q => absurd q (by decide), fun _ => ⟨fun h1 => PI.mk ?_ h, fun h1 => ⟨fun h2 => PI.mk ?_ h, fun h2 => PI.mk ?_ h⟩⟩, fun _ _ _ _ _ q => absurd rfl q⟩
    · simp only [twoV, if_true, if_neg h1]
    · simp only [twoV, if_true, if_pos h1, if_pos h2]
    · simp only [twoV, if_true, if_pos h1, if_neg h2]
  · rw [show xc (nI 12) = -8 by decide]
    refine ⟨fun q => absurd q (by decide), fun q => absurd q (by decide), fun q => absurd q (by decide), fun q => absurd q (by decide), fun _ => ⟨fun h1 => PI.mk ?_ h, fun h1 => ⟨fun h2 => PI.mk ?_ h, fun h2 => PI.mk ?_ h⟩⟩, fun q => absurd q (by decide), fun _ _ _ _ q => absurd rfl q⟩
    · unfold twoV; rw [if_neg (by decide), if_pos rfl, if_pos h1]
    · unfold twoV; rw [if_neg (by decide), if_pos rfl, if_neg h1, if_pos h2]
    · unfold twoV; rw [if_neg (by decide), if_pos rfl, if_neg h1, if_neg h2]
  · rw [show xc (nI 14) = -9 by decide]
    refine ⟨fun q => absurd q (by decide), fun q => absurd q (by decide), fun q => absurd q (by decide), fun _ => ⟨fun h1 => PI.mk ?_ h, fun h1 => PI.mk ?_ h⟩, fun q => absurd q (by decide), fun q => absurd q (by decide), fun _ _ _ q => absurd rfl q⟩
    · unfold twoV; rw [if_neg (by decide), if_neg (by decide), if_pos rfl, if_pos h1]
    · unfold twoV; rw [if_neg (by decide), if_neg (by decide), if_pos rfl, if_neg h1]
  · rw [show xc (nI 15) = -10 by decide]
    refine ⟨fun q => absurd q (by decide), fun q => absurd q (by decide), fun _ => ⟨fun h1 => PI.mk ?_ h, fun h1 => PI.mk ?_ h⟩, fun q => absurd q (by decide), fun q => absurd q (by decide), fun q => absurd q (by decide), fun _ _ q => absurd rfl q⟩
    · unfold twoV; rw [if_neg (by decide), if_neg (by decide), if_neg (by decide), if_pos rfl, if_neg h1]
    · unfold twoV; rw [if_neg (by decide), if_neg (by decide), if_neg (by decide), if_pos rfl, if_pos h1]
  · rw [show xc (nI 16) = -11 by decide]
    refine ⟨fun q => absurd q (by decide), fun _ => PI.mk ?_ h, fun q => absurd q (by decide), fun q => absurd q (by decide), fun q => absurd q (by decide), fun q => absurd q (by decide), fun _ q => absurd rfl q⟩
    unfold twoV; rw [if_neg (by decide), if_neg (by decide), if_neg (by decide), if_neg (by decide), if_pos rfl]
  · rw [show xc (nI 17) = -12 by decide]
    refine ⟨fun _ => PI.mk ?_ h, fun q => absurd q (by decide), fun q => absurd q (by decide), fun q => absurd q (by decide), fun q => absurd q (by decide), fun q => absurd q (by decide), fun q => absurd rfl q⟩
    unfold twoV; rw [if_neg (by decide), if_neg (by decide), if_neg (by decide), if_neg (by decide), if_neg (by decide), if_pos rfl]
  · rw [show xc (nI 18) = -13 by decide]
    refine ⟨fun q => absurd q (by decide), fun q => absurd q (by decide), fun q => absurd q (by decide), fun q => absurd q (by decide), fun q => absurd q (by decide), fun q => absurd q (by decide), fun _ _ _ _ _ _ => PI.mk ?_ h⟩
    unfold twoV; rw [if_neg (by decide), if_neg (by decide), if_neg (by decide), if_neg (by decide), if_neg (by decide), if_neg (by decide)]
theorem sm_two {d : Nat} {c a b : Int32} {M : Mem} {K : Int32 → Mem → Prop} (hF : Fm M) (hc : c = nI 11 ∨ c = nI 12 ∨ c = nI 14 ∨ c = nI 15 ∨ c = nI 16 ∨ c = nI 17 ∨ c = nI 18) (h : K (twoV c a b) M) : Con (d + 1) m_MM_two 0 0 [.int c, .int a, .int b] M (PI K) := by
  refine Con.of (lo := [some (.int c), some (.int a), some (.int b)]) F_MM_two.1 rfl (Nat.le_of_ble_eq_true rfl) (k_MM_two_0 hF ?_)
  rcases hc with rfl | rfl | rfl | rfl | rfl | rfl | rfl
  · refine ⟨fun _ => ⟨fun h1 => PI.mk ?_ h, fun h1 => ⟨fun h2 => PI.mk ?_ h, fun h2 => PI.mk ?_ h⟩⟩, fun q => absurd q (by decide), fun q => absurd q (by decide), fun q => absurd q (by decide), fun q => absurd q (by decide), fun q => absurd q (by decide), fun q => absurd q (by decide), fun q => absurd rfl q⟩
    · simp only [twoV, if_true, if_neg h1]
    · simp only [twoV, if_true, if_pos h1, if_pos h2]
    · simp only [twoV, if_true, if_pos h1, if_neg h2]
  · refine ⟨fun q => absurd q (by decide), fun _ => ⟨fun h1 => PI.mk ?_ h, fun h1 => ⟨fun h2 => PI.mk ?_ h, fun h2 => PI.mk ?_ h⟩⟩, fun q => absurd q (by decide), fun q => absurd q (by decide), fun q => absurd q (by decide), fun q => absurd q (by decide), fun q => absurd q (by decide), fun _ q => absurd rfl q⟩
    · unfold twoV; rw [if_neg (by decide), if_pos rfl, if_pos h1]
    · unfold twoV; rw [if_neg (by decide), if_pos rfl, if_neg h1, if_pos h2]
    · unfold twoV; rw [if_neg (by decide), if_pos rfl, if_neg h1, if_neg h2]
  · refine ⟨fun q => absurd q (by decide), fun q => absurd q (by decide), fun q => absurd q (by decide), fun _ => ⟨fun h1 => PI.mk ?_ h, fun h1 => PI.mk ?_ h⟩, fun q => absurd q (by decide), fun q => absurd q (by decide), fun q => absurd q (by decide), fun _ _ _ q => absurd rfl q⟩
    · unfold twoV; rw [if_neg (by decide), if_neg (by decide), if_pos rfl, if_pos h1]
    · unfold twoV; rw [if_neg (by decide), if_neg (by decide), if_pos rfl, if_neg h1]
  · refine ⟨fun q => absurd q (by decide), fun q => absurd q (by decide), fun q => absurd q (by decide), fun q => absurd q (by decide), fun _ => ⟨fun h1 => PI.mk ?_ h, fun h1 => PI.mk ?_ h⟩, fun q => absurd q (by decide), fun q => absurd q (by decide), fun _ _ _ _ q => absurd rfl q⟩
    · unfold twoV; rw [if_neg (by decide), if_neg (by decide), if_neg (by decide), if_pos rfl, if_neg h1]
    · unfold twoV; rw [if_neg (by decide), if_neg (by decide), if_neg (by decide), if_pos rfl, if_pos h1]
  · refine ⟨fun q => absurd q (by decide), fun q => absurd q (by decide), fun q => absurd q (by decide), fun q => absurd q (by decide), fun q => absurd q (by decide), fun _ => PI.mk ?_ h, fun q => absurd q (by decide), fun _ _ _ _ _ q => absurd rfl q⟩
    unfold twoV; rw [if_neg (by decide), if_neg (by decide), if_neg (by decide), if_neg (by decide), if_pos rfl]
  · refine ⟨fun q => absurd q (by decide), fun q => absurd q (by decide), fun q => absurd q (by decide), fun q => absurd q (by decide), fun q => absurd q (by decide), fun q => absurd q (by decide), fun _ => PI.mk ?_ h, fun _ _ _ _ _ _ q => absurd rfl q⟩
    unfold twoV; rw [if_neg (by decide), if_neg (by decide), if_neg (by decide), if_neg (by decide), if_neg (by decide), if_pos rfl]
  · refine ⟨fun q => absurd q (by decide), fun q => absurd q (by decide), fun q => absurd q (by decide), fun q => absurd q (by decide), fun q => absurd q (by decide), fun q => absurd q (by decide), fun q => absurd q (by decide), fun _ _ _ _ _ _ _ => PI.mk ?_ h⟩
    unfold twoV; rw [if_neg (by decide), if_neg (by decide), if_neg (by decide), if_neg (by decide), if_neg (by decide), if_neg (by decide)]
/-- rows that only serve within one call -/
def AgN (n : Nat) (f g : Nat → Int32) : Prop := ∀ i, i < n → f i = g i
theorem AgN.set {n k : Nat} {f g : Nat → Int32} (h : AgN n f g) {v : Int32} : AgN n (u1 f k v) (u1 g k v) := fun i hi => by
  unfold u1
  split
  · rfl
  · exact h i hi
theorem AgN.push {n : Nat} {f g : Nat → Int32} (h : AgN n f g) {v : Int32} : AgN (n + 1) (u1 f n v) (u1 g n v) := fun i hi => by
  unfold u1
  split
  · rfl
  · exact h i (by omega)
theorem AgN.low {n m : Nat} {f g : Nat → Int32} (h : AgN n f g) (hm : m ≤ n) : AgN m f g := fun i hi => h i (by omega)
theorem mi_w (M : Mem) (j k : Nat) (v : Int32) : mi (wi M j k v) j = u1 (mi M j) k v := by
  show u2 (mi M) j k v j = _
  rw [u2_s]
theorem vN {a n : Nat} (h : a < n) (hn : n < 2 ^ 31) : vp_in (nI a) n := vp_in_nI h (by omega)
section RUN
variable {d bc bs a N : Nat} {M0 : Mem} {Φ : Option Value → Mem → Prop}
theorem run5 (hF0 : Fx M0) (ha : (sh M0)[a]? = some (100, N)) (hN : N ≤ 200) (h49 : a ≠ 49) :
    ∀ (r : List Int32) (k n : Nat) (g : Nat → Int32) (M : Mem), k + r.length = N → (∀ (j : Nat) (c : Int32), r[j]? = some c → mi M0 a (k + j) = xc c) → okc r n = true → n ≤ 40 → Fx M → FrG [49] [] M0 M → AgN n (mi M 49) g →
      (∀ M2, Fx M2 → FrG [49] [] M0 M2 → Φ (some (.int ((eN (mi M0 48) r (n, g)).2 0))) M2) →
      Ex (d + 2) m_Rule_run bc bs 5 [some (.ref a), some (.ref 48), some (.ref 49), some (.int (nI n)), some (.int (nI k)), none, none] [] M Φ := by
  intro r
  induction r with
  | nil =>
    intro k n g M hk hr ho hn hF hfr hg H
    have h1 := okc_len n ho
    subst h1
    have hk2 : k = N := by simpa using hk
    subst hk2
    refine k_Rule_run_5 hF ⟨k, hfr.shp ha, fun _ => ⟨fun q => absurd q (by decide), fun _ => ?_⟩, fun q => absurd (nI_le (Nat.le_refl k) (by omega)) q⟩
    rw [hg 0 (by omega)]
    exact H M hF hfr
  | cons c cs ih =>
    intro k n g M hk hr ho hn hF hfr hg H
    have hk2 : k < N := by simp only [List.length_cons] at hk; omega
    have hal : a < (sh M0).length := (List.getElem?_eq_some_iff.mp ha).1
    have hx : mi M a (nI k).toNatClampNeg = xc c := by
      rw [nI_clamp (by omega), hfr.row hal (by simpa using h49)]
      exact hr 0 c rfl
    have h48 : mi M 48 = mi M0 48 := hfr.row (by have := hF0.len; omega) (by decide)
    have next : ∀ (n2 : Nat) (g2 : Nat → Int32) (M2 : Mem), okc cs n2 = true → n2 ≤ 40 → Fx M2 → FrG [49] [] M0 M2 → AgN n2 (mi M2 49) g2 → e1 (mi M0 48) c (n, g) = (n2, g2) →
        Ex (d + 2) m_Rule_run bc bs 5 [some (.ref a), some (.ref 48), some (.ref 49), some (.int (nI n2)), some (.int (nI k + nI 1)), none, none] [] M2 Φ := by
      intro n2 g2 M2 ho2 hn2 hF2 hfr2 hg2 he
      rw [nI_add]
      refine ih (k + 1) n2 g2 M2 (by simp only [List.length_cons] at hk; omega) (fun j c' hj => ?_) ho2 hn2 hF2 hfr2 hg2 (fun M3 hF3 hfr3 => ?_)
      · rw [show k + 1 + j = k + (j + 1) by omega]
        exact hr (j + 1) c' (by simpa using hj)
      · have := H M3 hF3 hfr3
        rw [show eN (mi M0 48) (c :: cs) (n, g) = eN (mi M0 48) cs (e1 (mi M0 48) c (n, g)) from rfl, he] at this
        exact this
    refine k_Rule_run_5 hF ⟨N, hfr.shp ha, fun q => absurd q (by rw [nI_leI (by omega) (by omega)]; omega), fun _ => ⟨N, hfr.shp ha, vN hk2 (by omega), ?_⟩⟩
    rw [hx]
    rcases okc_c ho with ⟨v, hv, rfl, h1, h2⟩ | ⟨q, hq, rfl, h1, h2⟩ | ⟨rfl, h1, h2⟩ | ⟨rfl, h1, h2⟩ | ⟨hc, h1, h2⟩
    · rw [xc_num hv, nI_clamp (by omega)]
      refine ⟨fun q => absurd q ?_, fun _ => ⟨fun q => absurd q (by rw [nI_leI (by omega) (by omega)]; omega), fun _ => ⟨fun q => absurd q ?_, fun _ => ⟨vN h1 (by omega), ?_⟩⟩⟩⟩
      · rw [i_lt, nI_toInt (by omega), show (-6 : Int32).toInt = -6 from rfl]; omega
      · rw [i_lt, nI_toInt (by omega), i_0]; omega
      · rw [nI_add]
        exact next (n + 1) (u1 g n (nI v)) _ h2 (by omega) hF.fwi (hfr.fwi (by decide)) (by rw [mi_w]; exact hg.push) (e1_num hv)
    · have hxk : xc (nI q) < 0 ∧ ¬ xc (nI q) < -6 ∧ (-1) - xc (nI q) = nI q := by
        rcases (show q = 0 ∨ q = 1 ∨ q = 2 ∨ q = 3 ∨ q = 4 ∨ q = 5 by omega) with rfl | rfl | rfl | rfl | rfl | rfl <;> decide
      obtain ⟨x1, x2, x3⟩ := hxk
      rw [x3, nI_clamp (by omega), nI_clamp (by omega)]
      refine ⟨fun z => absurd z x2, fun _ => ⟨fun z => absurd z (by rw [nI_leI (by omega) (by omega)]; omega), fun _ => ⟨fun _ => ⟨vN hq (by omega), vN h1 (by omega), ?_⟩, fun z => absurd x1 z⟩⟩⟩
      rw [nI_add]
      refine next (n + 1) (u1 g n (mi M0 48 q)) _ h2 (by omega) hF.fwi (hfr.fwi (by decide)) ?_ (e1_nam hq)
      rw [mi_w, h48]
      exact hg.push
    · rw [nI_sub1 h1, nI_clamp (by omega), show xc (nI 13) = -14 by decide]
      refine ⟨fun _ => ⟨fun z => absurd z (by decide), fun _ => ⟨fun z => absurd z (by rw [nI_ltI (by omega) (by omega)]; omega), fun _ => ⟨vN (by omega) (by omega), fun _ => ⟨fun z => ⟨vN (by omega) (by omega), ?_⟩, fun z => ⟨vN (by omega) (by omega), ?_⟩⟩, fun z => absurd z (by decide)⟩⟩⟩, fun z => absurd (by decide) z⟩
      · rw [hg (n - 1) (by omega)] at z
        refine next n (u1 g (n - 1) (nI 0)) _ h2 hn hF.fwi (hfr.fwi (by decide)) (by rw [mi_w]; exact hg.set) ?_
        rw [e1_not, if_neg z]
      · rw [hg (n - 1) (by omega)] at z
        refine next n (u1 g (n - 1) (nI 1)) _ h2 hn hF.fwi (hfr.fwi (by decide)) (by rw [mi_w]; exact hg.set) ?_
        rw [e1_not, if_pos z]
    · rw [nI_sub1 h1, nI_clamp (by omega), show xc (nI 19) = -15 by decide]
      refine ⟨fun _ => ⟨fun z => absurd z (by decide), fun _ => ⟨fun z => absurd z (by rw [nI_ltI (by omega) (by omega)]; omega), fun _ => ⟨vN (by omega) (by omega), fun z => absurd rfl z, fun _ => ⟨vN (by omega) (by omega), ?_⟩⟩⟩⟩, fun z => absurd (by decide) z⟩
      refine next n (u1 g (n - 1) (-(g (n - 1)))) _ h2 hn hF.fwi (hfr.fwi (by decide)) (by rw [mi_w, hg (n - 1) (by omega)]; exact hg.set) ?_
      rw [e1_neg]
    · have hxk : xc c < -6 ∧ -14 < xc c := by
        rcases hc with rfl | rfl | rfl | rfl | rfl | rfl | rfl <;> decide
      rw [nI_m1 (by omega), nI_sub1 (by omega), nI_clamp (by omega), nI_clamp (by omega), hg (n - 1) (by omega), hg (n - 1 - 1) (by omega)]
      refine ⟨fun _ => ⟨fun _ => ⟨fun z => absurd z (by rw [nI_ltI (by omega) (by omega)]; omega), fun _ => ⟨vN (by omega) (by omega), vN (by omega) (by omega), ?_⟩⟩, fun z => absurd hxk.2 z⟩, fun z => absurd hxk.1 z⟩
      refine sx_join hF hc ⟨hF, vN (by omega) (by omega), ?_⟩
      refine next (n - 1) (u1 g (n - 2) (twoV c (g (n - 2)) (g (n - 1)))) _ h2 (by omega) hF.fwi (hfr.fwi (by decide)) ?_ (e1_two hc)
      rw [mi_w, show n - 1 - 1 = n - 2 by omega]
      exact (hg.low (by omega)).set
end RUN
theorem okc_b : ∀ (cs : List Int32) (n : Nat), okc cs n = true → n ≤ 40 ∨ cs ≠ [] := fun cs n h => by
  cases cs with
  | nil => exact .inl (by rw [okc_len n h]; decide)
  | cons c cs => exact .inr (by simp)
theorem sx_run {d a : Nat} {cs : List Int32} {M : Mem} {K : Int32 → Mem → Prop} (hF : Fx M) (hc : CodeAt M a cs) (ho : okc cs 0 = true) (hl : cs.length ≤ 200) (h : ∀ M2, Fx M2 → FrG [49] [] M M2 → K (ev (mi M 48) cs) M2) : Con (d + 2) m_Rule_run 0 0 [.ref a, .ref 48, .ref 49] M (PI K) := by
  obtain ⟨h1, h2, h3⟩ := hc
  refine Con.ent (k := 4) F_Rule_run.1 rfl (Nat.le_of_ble_eq_true rfl) (k_Rule_run_0 hF ?_)
  exact run5 hF h2 hl (by omega) cs 0 0 (fun _ => 0) M (by omega) (fun j c hj => by rw [Nat.zero_add]; exact h3 j c hj) ho (by omega) hF (FrG.rf _ _) (fun i hi => absurd hi (Nat.not_lt_zero _)) (fun M2 hF2 hfr2 => PI.mk rfl (h M2 hF2 hfr2))
