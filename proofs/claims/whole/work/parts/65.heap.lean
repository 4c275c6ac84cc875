/-! values, the heap -/
section VH
variable {s0 σ ρ : tx_St} {nC nF nM off md nh : Nat} {K : Nat → Nat}
theorem tk_inv {w : Nat} {s s2 : TS} (h : tk s0 w s = some s2) : ∃ t st, s.1 = t :: st ∧ fi s0 t w ∧ s2 = (st, s.2) := by
  obtain ⟨st, l⟩ := s
  cases st with
  | nil => cases h
  | cons t st =>
    unfold tk at h
    simp only at h
    by_cases hf : fi s0 t w
    · rw [if_pos hf] at h
      cases h
      exact ⟨t, st, rfl, hf, rfl⟩
    · rw [if_neg hf] at h
      cases h
theorem tT_inv {s s2 : TS} (h : tT s = some s2) : ∃ t st, s.1 = t :: st ∧ t ≠ 0 ∧ s2 = (st, s.2) := by
  obtain ⟨st, l⟩ := s
  cases st with
  | nil => cases h
  | cons t st =>
    unfold tT at h
    simp only at h
    by_cases hf : t = 0
    · rw [if_pos hf] at h
      cases h
    · rw [if_neg hf] at h
      cases h
      exact ⟨t, st, rfl, hf, rfl⟩
theorem gv_inv {t : Nat} {s s2 : TS} (h : gv t s = some s2) : s.1.length ≠ 4 ∧ s2 = (t :: s.1, s.2) := by
  unfold gv at h
  by_cases h4 : s.1.length = 4
  · rw [if_pos h4] at h
    cases h
  · rw [if_neg h4] at h
    cases h
    exact ⟨h4, rfl⟩
theorem fi_tr (hB : iv_B s0 nC nF nM) {a b c : Nat} (ha : a < nC + 2) (hb : b < nC + 2) (hc : c < nC + 2) (h1 : fi s0 a b) (h2 : fi s0 b c) : fi s0 a c := by
  have hn := B_n hB
  rcases h1 with rfl | ⟨h1, h3, h4⟩
  · exact h2
  · rcases h2 with rfl | ⟨h5, h6, h7⟩
    · exact Or.inr ⟨h1, h3, h4⟩
    · exact Or.inr ⟨h1, h6, ln_tr hn.1 (B_C hB) (by omega) (by omega) h7 _ (by omega) h4⟩
theorem fi_0 {t : Nat} (h : fi s0 t 0) : t = 0 := by
  rcases h with h | ⟨-, h, -⟩
  · exact h
  · omega
theorem fi_1 {t : Nat} (h : fi s0 t 1) : t = 1 := by
  rcases h with h | ⟨-, h, -⟩
  · exact h
  · omega
/-- the things' types -/
def okK (nC md : Nat) (K : Nat → Nat) : Prop := ∀ u, 1 ≤ u → u ≤ md → 1 ≤ K u ∧ K u < nC + 2
theorem vr_sub (hB : iv_B s0 nC nF nM) (hK : okK nC md K) {t w : Nat} {x y : Int32} (ht : t < nC + 2) (hw : w < nC + 2) (hf : fi s0 t w) (h : vr s0 K off md t x y) : vr s0 K off md w x y := by
  rcases hf with rfl | ⟨h2, h3, h4⟩
  · exact h
  · rcases h with ⟨h, -⟩ | ⟨-, h⟩
    · omega
    · refine Or.inr ⟨by omega, ?_⟩
      rcases h with h | ⟨u, u1, u2, u3, u4, u5⟩
      · exact Or.inl h
      · exact Or.inr ⟨u, u1, u2, u3, u4, fi_tr hB (hK u u1 u2).2 ht hw u5 (Or.inr ⟨h2, h3, h4⟩)⟩
theorem vr_0 {x y : Int32} : vr s0 K off md 0 x y ↔ x = y := by
  constructor
  · rintro (⟨-, h⟩ | ⟨h, -⟩)
    · exact h
    · omega
  · exact fun h => Or.inl ⟨rfl, h⟩
theorem vr_up {K2 : Nat → Nat} {md2 : Nat} (hm : md ≤ md2) (hK : ∀ u, u ≤ md → K2 u = K u) {t : Nat} {x y : Int32} (h : vr s0 K off md t x y) : vr s0 K2 off md2 t x y := by
  rcases h with h | ⟨h1, h | ⟨u, u1, u2, u3, u4, u5⟩⟩
  · exact Or.inl h
  · exact Or.inr ⟨h1, Or.inl h⟩
  · exact Or.inr ⟨h1, Or.inr ⟨u, u1, by omega, u3, u4, by rw [hK u u2]; exact u5⟩⟩
theorem vr_null {t : Nat} : vr s0 K off md t 0 0 := by
  by_cases h : t = 0
  · exact Or.inl ⟨h, rfl⟩
  · exact Or.inr ⟨by omega, Or.inl ⟨rfl, rfl⟩⟩
theorem vr_z {t : Nat} {x y : Int32} (ht : 1 ≤ t) (hmd : off + md < 2 ^ 31) (h : vr s0 K off md t x y) : x = 0 ↔ y = 0 := by
  rcases h with ⟨h, -⟩ | ⟨-, ⟨h1, h2⟩ | ⟨u, u1, u2, u3, u4, -⟩⟩
  · omega
  · exact ⟨fun _ => h2, fun _ => h1⟩
  · constructor
    · intro z
      rw [u3] at z
      have := (nI_z (by omega)).mp z
      omega
    · intro z
      rw [u4] at z
      have := (nI_z (by omega)).mp z
      omega
/-- references are the same here where they are the same there -/
theorem vr_same {t t2 : Nat} {x y x2 y2 : Int32} (ht : 1 ≤ t) (ht2 : 1 ≤ t2) (hmd : off + md < 2 ^ 31) (h : vr s0 K off md t x y) (h2 : vr s0 K off md t2 x2 y2) : x = x2 ↔ y = y2 := by
  have z1 := vr_z ht hmd h
  have z2 := vr_z ht2 hmd h2
  rcases h with ⟨h, -⟩ | ⟨-, ⟨e1, e2⟩ | ⟨u, u1, u2, u3, u4, -⟩⟩
  · omega
  · rw [e1, e2]
    exact ⟨fun z => (z2.mp z.symm).symm, fun z => (z2.mpr z.symm).symm⟩
  · rcases h2 with ⟨h2, -⟩ | ⟨-, ⟨e1, e2⟩ | ⟨w, w1, w2, w3, w4, -⟩⟩
    · omega
    · rw [e1, e2]
      exact z1
    · rw [u3, u4, w3, w4, nI_eq (by omega) (by omega), nI_eq (by omega) (by omega)]
      omega
/-- the heap, side by side -/
def hp (s0 : tx_St) (nC nF : Nat) (σ ρ : tx_St) (K : Nat → Nat) (off md nh : Nat) : Prop :=
  (σ 21 3 = nI md ∧ ρ 45 20 = nI (off + md) ∧ σ 22 0 = -1) ∧
  (okK nC md K ∧ ∀ u, 1 ≤ u → u ≤ md → σ 22 u = nI (K u) ∧ ρ 61 (off + u - 1) = nI (K u) ∧ (K u = 1 → σ 23 (4 * u) = ρ 62 (12 * (off + u - 1))) ∧ (2 ≤ K u → cw s0 (K u - 2) nF ≤ 4 ∧ ∀ f, f < nF → ow s0 (K u - 2) f → vr s0 K off md (N_ (s0 6 f)) (σ 23 (4 * u + cw s0 (K u - 2) f)) (ρ 62 (12 * (off + u - 1) + f)))) ∧
  (σ 21 4 = nI nh ∧ ρ 45 23 = nI nh ∧ nh ≤ 16 ∧ ∀ h, h < nh → ∃ u, 1 ≤ u ∧ u ≤ md ∧ σ 24 h = nI u ∧ ρ 63 h = nI (off + u))
theorem hp_eq {σ' ρ' : tx_St} (h : hp s0 nC nF σ ρ K off md nh) (h1 : ∀ p, 21 ≤ p → p ≤ 24 → σ' p = σ p) (h2 : ∀ p, 61 ≤ p → p ≤ 63 → ρ' p = ρ p) (h3 : ρ' 45 20 = ρ 45 20) (h4 : ρ' 45 23 = ρ 45 23) : hp s0 nC nF σ' ρ' K off md nh := by
  unfold hp
  rw [h1 21 (by decide) (by decide), h1 22 (by decide) (by decide), h1 23 (by decide) (by decide), h1 24 (by decide) (by decide), h2 61 (by decide) (by decide), h2 62 (by decide) (by decide), h2 63 (by decide) (by decide), h3, h4]
  exact h
theorem hp_e {σ' ρ' : tx_St} {k : Nat} (h : hp s0 nC nF σ ρ K off md nh) (h1 : eC k σ σ') (h2 : eM k ρ ρ') : hp s0 nC nF σ' ρ' K off md nh := hp_eq h (fun p _ _ => h1 p (by omega)) (fun p _ _ => h2.1 p (by omega)) (by rw [h2.1 45 (by decide)]) (by rw [h2.1 45 (by decide)])
theorem cw_mono {c : Nat} : ∀ f g, f ≤ g → cw s0 c f ≤ cw s0 c g
  | f, 0, h => by
    have : f = 0 := by omega
    rw [this]
    exact Nat.le_refl _
  | f, g + 1, h => by
    by_cases hfg : f = g + 1
    · rw [hfg]
      exact Nat.le_refl _
    · have := cw_mono (c := c) f g (by omega)
      rcases Classical.em (ow s0 c g) with ho | ho
      · rw [cw_t ho]
        omega
      · rw [cw_f ho]
        exact this
theorem cw_lt {c f g : Nat} (ho : ow s0 c f) (h : f < g) : cw s0 c f < cw s0 c g := by
  have := cw_mono (s0 := s0) (c := c) (f + 1) g (by omega)
  rw [cw_t ho] at this
  omega
theorem cw_inj {c f g : Nat} (hf : ow s0 c f) (hg : ow s0 c g) (h : cw s0 c f = cw s0 c g) : f = g := by
  rcases Nat.lt_trichotomy f g with h1 | h1 | h1
  · have := cw_lt hf h1
    omega
  · exact h1
  · have := cw_lt hg h1
    omega
/-- a field of a thing is written -/
theorem hp_setF (h : hp s0 nC nF σ ρ K off md nh) {u f : Nat} {x y : Int32} (u1 : 1 ≤ u) (u2 : u ≤ md) (hk : 2 ≤ K u) (hf : f < nF) (ho : ow s0 (K u - 2) f) (hv : vr s0 K off md (N_ (s0 6 f)) x y) (hF12 : nF ≤ 12) : hp s0 nC nF (tx_up σ 23 (4 * u + cw s0 (K u - 2) f) x) (tx_up ρ 62 (12 * (off + u - 1) + f) y) K off md nh := by
  obtain ⟨a, ⟨b0, b⟩, c⟩ := h
  have hcf : cw s0 (K u - 2) f < 4 := Nat.lt_of_lt_of_le (cw_lt ho hf) ((b u u1 u2).2.2.2 hk).1
  refine ⟨?_, ⟨b0, fun w w1 w2 => ?_⟩, ?_⟩
  · rw [tx_up_ne _ _ _ (by decide), tx_up_ne _ _ _ (by decide), tx_up_ne _ _ _ (by decide)]
    exact a
  · obtain ⟨d1, d2, d3, d4⟩ := b w w1 w2
    refine ⟨by rw [tx_up_ne _ _ _ (by decide)]; exact d1, by rw [tx_up_ne _ _ _ (by decide)]; exact d2, fun e => ?_, fun e => ⟨(d4 e).1, fun g hg hog => ?_⟩⟩
    · have hne : w ≠ u := fun z => by rw [z] at e; omega
      rw [px_upN (Or.inr (by omega)), px_upN (Or.inr (by omega))]
      exact d3 e
    · have hcg : cw s0 (K w - 2) g < 4 := Nat.lt_of_lt_of_le (cw_lt hog hg) (d4 e).1
      by_cases hwu : w = u
      · subst hwu
        by_cases hgf : g = f
        · subst hgf
          rw [px_up, px_up, if_pos rfl, if_pos rfl, if_pos rfl, if_pos rfl]
          exact hv
        · rw [px_upN (Or.inr (fun z => hgf (cw_inj hog ho (by omega)))), px_upN (Or.inr (by omega))]
          exact (d4 e).2 g hg hog
      · rw [px_upN (Or.inr (by omega)), px_upN (Or.inr (by omega))]
        exact (d4 e).2 g hg hog
  · rw [tx_up_ne _ _ _ (by decide), tx_up_ne _ _ _ (by decide), tx_up_ne _ _ _ (by decide), tx_up_ne _ _ _ (by decide)]
    exact c
/-- a cell is written -/
theorem hp_setC (h : hp s0 nC nF σ ρ K off md nh) {u : Nat} {x : Int32} (u1 : 1 ≤ u) (u2 : u ≤ md) (hk : K u = 1) (hF12 : nF ≤ 12) : hp s0 nC nF (tx_up σ 23 (4 * u) x) (tx_up ρ 62 (12 * (off + u - 1)) x) K off md nh := by
  obtain ⟨a, ⟨b0, b⟩, c⟩ := h
  refine ⟨?_, ⟨b0, fun w w1 w2 => ?_⟩, ?_⟩
  · rw [tx_up_ne _ _ _ (by decide), tx_up_ne _ _ _ (by decide), tx_up_ne _ _ _ (by decide)]
    exact a
  · obtain ⟨d1, d2, d3, d4⟩ := b w w1 w2
    refine ⟨by rw [tx_up_ne _ _ _ (by decide)]; exact d1, by rw [tx_up_ne _ _ _ (by decide)]; exact d2, fun e => ?_, fun e => ⟨(d4 e).1, fun g hg hog => ?_⟩⟩
    · by_cases hwu : w = u
      · subst hwu
        rw [px_up, px_up, if_pos rfl, if_pos rfl, if_pos rfl, if_pos rfl]
      · rw [px_upN (Or.inr (by omega)), px_upN (Or.inr (by omega))]
        exact d3 e
    · have hcg : cw s0 (K w - 2) g < 4 := Nat.lt_of_lt_of_le (cw_lt hog hg) (d4 e).1
      have hne : w ≠ u := fun z => by rw [z] at e; omega
      rw [px_upN (Or.inr (by omega)), px_upN (Or.inr (by omega))]
      exact (d4 e).2 g hg hog
  · rw [tx_up_ne _ _ _ (by decide), tx_up_ne _ _ _ (by decide), tx_up_ne _ _ _ (by decide), tx_up_ne _ _ _ (by decide)]
    exact c
end VH
/-! both sides pop, both push -/
section PP
variable {s0 σ ρ : tx_St} {nC nF nM off md k m i : Nat} {K : Nat → Nat} {s s2 : TS}
theorem pp_pop {V : Nat → Int32 → Int32 → Prop} {t : Nat} {st : List Nat} {l : Nat × Nat × Nat} (hu : ρ 45 28 = nI (k + 1)) (hk6 : k < 6) (h : TF V σ ρ k m i (t :: st, l)) (hs : st.length < 4) : ∃ x y σ' ρ', fx_Frame_pop σ (27 + 3 * k) = some (x, σ') ∧ fx_Mo_pop ρ = some (y, ρ') ∧ V t x y ∧ TF V σ' ρ' k m i (st, l) ∧ eC k σ σ' ∧ eM k ρ ρ' ∧ ρ' 45 28 = nI (k + 1) :=
  ⟨_, _, _, _, fx_Frame_pop_e h hs, fx_Mo_pop_e hu rfl hk6 h hs, (TF_pop h).2, (TF_pop h).1, eC_u σ _ (by omega) (by omega), eM_u ρ _ (Or.inl ⟨by omega, rfl⟩), by rw [tx_up_ne _ _ _ (by decide)]; exact hu⟩
theorem pp_take (hB : iv_B s0 nC nF nM) (hK : okK nC md K) {w : Nat} (hw : w < nC + 2) (hu : ρ 45 28 = nI (k + 1)) (hk6 : k < 6) (h : TF (vr s0 K off md) σ ρ k m i s) (hok : okS (nC + 2) s) (ht : tk s0 w s = some s2) : ∃ x y σ' ρ', fx_Frame_pop σ (27 + 3 * k) = some (x, σ') ∧ fx_Mo_pop ρ = some (y, ρ') ∧ vr s0 K off md w x y ∧ TF (vr s0 K off md) σ' ρ' k m i s2 ∧ eC k σ σ' ∧ eM k ρ ρ' ∧ ρ' 45 28 = nI (k + 1) ∧ okS (nC + 2) s2 := by
  have hok2 := tk_ok hok ht
  obtain ⟨t, st, e1, e2, e3⟩ := tk_inv ht
  obtain ⟨s1, l⟩ := s
  simp only at e1
  subst e1 e3
  have h4 := hok.1
  simp only [List.length_cons] at h4
  obtain ⟨x, y, σ', ρ', a, b, c, d⟩ := pp_pop hu hk6 h (by omega)
  exact ⟨x, y, σ', ρ', a, b, vr_sub hB hK (hok.2.1 t (by simp)) hw e2 c, d.1, d.2.1, d.2.2.1, d.2.2.2, hok2⟩
theorem pp_push {V : Nat → Int32 → Int32 → Prop} {t : Nat} {x y : Int32} (hu : ρ 45 28 = nI (k + 1)) (hk6 : k < 6) (h : TF V σ ρ k m i s) (hok : okS (nC + 2) s) (ht : gv t s = some s2) (hv : V t x y) : ∃ σ' ρ', fx_Frame_push σ (27 + 3 * k) x = some σ' ∧ fx_Mo_push ρ y = some ρ' ∧ TF V σ' ρ' k m i s2 ∧ eC k σ σ' ∧ eM k ρ ρ' ∧ ρ' 45 28 = nI (k + 1) := by
  obtain ⟨h4, rfl⟩ := gv_inv ht
  have hl := hok.1
  obtain ⟨s1, l⟩ := s
  refine ⟨_, _, fx_Frame_push_e h (by omega) x, fx_Mo_push_e hu rfl hk6 h (by omega) y, TF_push h hv, eC_tr (eC_u σ _ (by omega) (by omega)) (eC_u _ _ (by omega) (by omega)), eM_tr (eM_u ρ _ (Or.inr (Or.inl ⟨rfl, by omega, ?_⟩))) (eM_u _ _ (Or.inl ⟨by omega, rfl⟩)), by rw [tx_up_ne _ _ _ (by decide), tx_up_ne _ _ _ (by decide)]; exact hu⟩
  show 4 * k + s1.length < 4 * k + 4
  simp only at h4 hl
  omega
end PP
