section YG
variable {s0 σ : tx_St} {nC nF nM m L q : Nat} {P : Nat → Prop} {T : Nat → TS}
theorem y_len (hB : iv_B s0 nC nF nM) (hl : s0 12 m = nI L) (h : yF s0 σ m) : σ 56 m = nI L := by
  rw [h.1 56 (by decide) (by decide) (by decide), hB.1.2.2.2.2.2.2.2.2.2.1]
  exact hl
/-- all were reached? -/
theorem y_all (hm8 : m < 8) (hL : L ≤ 12) (hl : σ 56 m = nI L) (h7 : ∀ i, i < 12 → σ 60 (12 * m + i) = bP (P i)) : ∀ (r d F : Nat), d + r = L → r < F → fx_Mo_fitsTypes_b191 F σ (nI m) (bP (∀ i, i < d → P i)) (nI d) = some (bP (∀ i, i < L → P i), σ) := by
  intro r
  induction r with
  | zero =>
    intro d F h1 h2
    obtain ⟨F, rfl⟩ : ∃ G, F = G + 1 := ⟨F - 1, by omega⟩
    obtain rfl : d = L := by omega
    rw [fx_Mo_fitsTypes_b191, px_rd (j := m) rfl hm8 (by decide), hl, if_pos (nI_le (by omega) (by omega)), px_rz bP_r]
  | succ r ih =>
    intro d F h1 h2
    obtain ⟨F, rfl⟩ : ∃ G, F = G + 1 := ⟨F - 1, by omega⟩
    rw [fx_Mo_fitsTypes_b191, px_rd (j := m) rfl hm8 (by decide), hl, if_neg (nI_ge (by omega) (by omega))]
    unfold fx_Mo_fitsTypes_b226 fx_Mo_fitsTypes_b227
    rw [px_ix12', px_rd (j := 12 * m + d) rfl (by omega) (by decide), h7 d (by omega), nI_1]
    rw [← ih (d + 1) F (by omega) (by omega)]
    by_cases ha : ∀ i, i < d → P i
    · rw [bP_t ha, if_neg (by decide)]
      by_cases hp : P d
      · rw [bP_t hp, if_neg (by decide), bP_t (show ∀ i, i < d + 1 → P i from fun i hi => by
          by_cases h : i = d
          · exact h ▸ hp
          · exact ha i (by omega))]
      · rw [bP_f hp, if_pos rfl, bP_f (fun z => hp (z d (by omega)))]
    · rw [bP_f ha, if_pos rfl, bP_f (fun z => ha (fun i hi => z i (by omega)))]
theorem y_allN (hm8 : m < 8) (hL : L ≤ 12) (hl : σ 56 m = nI L) : ∀ (r d F : Nat), d + r = L → r < F → fx_Mo_fitsTypes_b191 F σ (nI m) 0 (nI d) = some (0, σ) := by
  intro r
  induction r with
  | zero =>
    intro d F h1 h2
    obtain ⟨F, rfl⟩ : ∃ G, F = G + 1 := ⟨F - 1, by omega⟩
    rw [fx_Mo_fitsTypes_b191, px_rd (j := m) rfl hm8 (by decide), hl, if_pos (nI_le (by omega) (by omega)), px_rz (Or.inl rfl)]
  | succ r ih =>
    intro d F h1 h2
    obtain ⟨F, rfl⟩ : ∃ G, F = G + 1 := ⟨F - 1, by omega⟩
    rw [fx_Mo_fitsTypes_b191, px_rd (j := m) rfl hm8 (by decide), hl, if_neg (nI_ge (by omega) (by omega)), if_pos rfl]
    unfold fx_Mo_fitsTypes_b226 fx_Mo_fitsTypes_b227
    rw [nI_1]
    exact ih (d + 1) F (by omega) (by omega)
theorem y_endN (hm8 : m < 8) (hL : L ≤ 12) (hl : σ 56 m = nI L) {F : Nat} (hF : 0 < F) (x : Int32) : fx_Mo_fitsTypes_b101 F σ (nI m) 0 x = some (0, σ) := by
  obtain ⟨F, rfl⟩ : ∃ G, F = G + 1 := ⟨F - 1, by omega⟩
  have e : fx_Mo_fitsTypes_b188 σ (nI m) 0 = some (0, σ) := y_allN hm8 hL hl L 0 tx_fu (by omega) (by unfold tx_fu; omega)
  rw [fx_Mo_fitsTypes_b101, e]
  split
  · rfl
  · split
    · rfl
    · rfl
theorem y_swN (hm8 : m < 8) (hL : L ≤ 12) (hl : σ 56 m = nI L) (K : tx_St → Int32 → Int32 → Int32 → Option (Int32 × tx_St)) : ∀ (r d F : Nat), d + r = L → r < F → fx_Mo_fitsTypes_b128 K F σ (nI m) 0 (nI q) (nI d) = K σ (nI m) 0 (nI (q + 1)) := by
  intro r
  induction r with
  | zero =>
    intro d F h1 h2
    obtain ⟨F, rfl⟩ : ∃ G, F = G + 1 := ⟨F - 1, by omega⟩
    rw [fx_Mo_fitsTypes_b128, px_rd (j := m) rfl hm8 (by decide), hl, if_pos (nI_le (by omega) (by omega)), nI_1]
  | succ r ih =>
    intro d F h1 h2
    obtain ⟨F, rfl⟩ : ∃ G, F = G + 1 := ⟨F - 1, by omega⟩
    rw [fx_Mo_fitsTypes_b128, px_rd (j := m) rfl hm8 (by decide), hl, if_neg (nI_ge (by omega) (by omega)), if_pos rfl]
    unfold fx_Mo_fitsTypes_b173 fx_Mo_fitsTypes_b174
    rw [nI_1]
    exact ih (d + 1) F (by omega) (by omega)
/-- in a sweep, before instruction d -/
def yI (s0 σ : tx_St) (nC nF nM m L q d : Nat) (P : Nat → Prop) (T : Nat → TS) : Prop := (σ 45 19 = 0 ∧ q + 1 ≤ ct P L ∧ ∀ i, i < d → P i → clo s0 nC nF nM m P T i) ∨ (σ 45 19 = 1 ∧ q + 2 ≤ ct P L)
theorem y_sweep (hB : iv_B s0 nC nF nM) (hm : m < nM) (hL : L ≤ 12) (hl : s0 12 m = nI L) (hop : ∀ i, i < L → ∃ o, o ≤ 19 ∧ s0 13 (12 * m + i) = nI o) (K : tx_St → Int32 → Int32 → Int32 → Option (Int32 × tx_St)) : ∀ (r d F : Nat) (σ : tx_St) (P : Nat → Prop) (T : Nat → TS), d + r = L → r < F → yJ s0 σ nC nF nM m L P T → yI s0 σ nC nF nM m L q d P T →
    (∃ ρ, fx_Mo_fitsTypes_b128 K F σ (nI m) 1 (nI q) (nI d) = K ρ (nI m) 0 (nI (q + 1)) ∧ yF s0 ρ m ∧ ¬ OKM s0 nC nF nM m L) ∨
    ∃ ρ P2 T2, fx_Mo_fitsTypes_b128 K F σ (nI m) 1 (nI q) (nI d) = K ρ (nI m) 1 (nI (q + 1)) ∧ yJ s0 ρ nC nF nM m L P2 T2 ∧ yI s0 ρ nC nF nM m L q L P2 T2 := by
  have hb := B_n hB
  intro r
  induction r with
  | zero =>
    intro d F σ P T h1 h2 hJ hI
    obtain ⟨F, rfl⟩ : ∃ G, F = G + 1 := ⟨F - 1, by omega⟩
    obtain rfl : d = L := by omega
    refine Or.inr ⟨σ, P, T, ?_, hJ, hI⟩
    rw [fx_Mo_fitsTypes_b128, px_rd (j := m) rfl (by omega) (by decide), y_len hB hl hJ.1, if_pos (nI_le (by omega) (by omega)), nI_1]
  | succ r ih =>
    intro d F σ P T h1 h2 hJ hI
    obtain ⟨F, rfl⟩ : ∃ G, F = G + 1 := ⟨F - 1, by omega⟩
    rw [fx_Mo_fitsTypes_b128, px_rd (j := m) rfl (by omega) (by decide), y_len hB hl hJ.1, if_neg (nI_ge (by omega) (by omega)), if_neg (by decide), px_ix12', px_rd (j := 12 * m + d) rfl (by omega) (by decide), hJ.2.2.1 d (by omega)]
    unfold fx_Mo_fitsTypes_b173 fx_Mo_fitsTypes_b169 fx_Mo_fitsTypes_b174
    rw [nI_1]
    by_cases hp : P d
    · rw [bP_t hp, if_neg (by decide)]
      obtain ⟨x, ρ, e1, e2⟩ := y_on hB hm hL hl hop hJ hp
      rw [e1, px_ci]
      rcases e2 with ⟨rfl, e2, e3⟩ | ⟨rfl, P2, T2, e2, e3, e4, e5, e6⟩
      · refine Or.inl ⟨ρ, ?_, e2, e3⟩
        rw [if_pos rfl]
        exact y_swN (by omega) hL (y_len hB hl e2) K r (d + 1) F (by omega) (by omega)
      · rw [if_neg (by decide)]
        refine ih (d + 1) F ρ P2 T2 (by omega) (by omega) e2 ?_
        rcases e5 with ⟨u1, rfl, rfl⟩ | ⟨u1, u2⟩
        · rcases hI with ⟨i1, i2, i3⟩ | ⟨i1, i2⟩
          · refine Or.inl ⟨u1.trans i1, i2, fun i hi hpi => ?_⟩
            by_cases hid : i = d
            · exact hid ▸ e6
            · exact i3 i (by omega) hpi
          · exact Or.inr ⟨u1.trans i1, i2⟩
        · exact Or.inr ⟨u1, by rcases hI with ⟨i1, i2, -⟩ | ⟨i1, i2⟩ <;> omega⟩
    · rw [bP_f hp, if_pos rfl]
      refine ih (d + 1) F σ P T (by omega) (by omega) hJ ?_
      rcases hI with ⟨i1, i2, i3⟩ | ⟨i1, i2⟩
      · refine Or.inl ⟨i1, i2, fun i hi hpi => ?_⟩
        by_cases hid : i = d
        · exact absurd (hid ▸ hpi) hp
        · exact i3 i (by omega) hpi
      · exact Or.inr ⟨i1, i2⟩
theorem y_rounds (hB : iv_B s0 nC nF nM) (hm : m < nM) (hL : L ≤ 12) (hl : s0 12 m = nI L) (hop : ∀ i, i < L → ∃ o, o ≤ 19 ∧ s0 13 (12 * m + i) = nI o) : ∀ (r q F : Nat) (σ : tx_St) (P : Nat → Prop) (T : Nat → TS), q + r = 13 → r + 1 < F → yJ s0 σ nC nF nM m L P T → σ 45 19 = 1 → q + 1 ≤ ct P L →
    ∃ ρ, fx_Mo_fitsTypes_b101 F σ (nI m) 1 (nI q) = some (bP (OKM s0 nC nF nM m L), ρ) ∧ yC s0 ρ nC nF nM m L := by
  have hb := B_n hB
  intro r
  induction r with
  | zero =>
    intro q F σ P T h1 h2 hJ hg hq
    have := ct_le P L
    omega
  | succ r ih =>
    intro q F σ P T h1 h2 hJ hg hq
    have hcl := ct_le P L
    obtain ⟨F, rfl⟩ : ∃ G, F = G + 1 := ⟨F - 1, by omega⟩
    rw [fx_Mo_fitsTypes_b101, if_neg (show ¬ (12 : Int32) < nI q from fun z => by
      rw [nI_12] at z
      have := (nI_ltI (by decide) (by omega)).mp z
      omega), if_neg (by rw [hg]; decide), if_neg (by decide), px_pz (Or.inl rfl)]
    have hJ2 := yJ_more hJ 0
    rcases y_sweep (q := q) hB hm hL hl hop (fx_Mo_fitsTypes_b101 F) L 0 tx_fu (tx_up σ 45 19 0) P T (by omega) (by unfold tx_fu; omega) hJ2 (Or.inl ⟨by simp [px_up], hq, fun i hi => by omega⟩) with ⟨ρ, e1, e2, e3⟩ | ⟨ρ, P2, T2, e1, e2, e3⟩
    · exact ⟨ρ, e1.trans (by rw [y_endN (by omega) hL (y_len hB hl e2) (by omega), bP_f e3]), yF_C e2 e3⟩
    · suffices key : ∃ ρ2, fx_Mo_fitsTypes_b101 F ρ (nI m) 1 (nI (q + 1)) = some (bP (OKM s0 nC nF nM m L), ρ2) ∧ yC s0 ρ2 nC nF nM m L by
        obtain ⟨ρ2, k1, k2⟩ := key
        exact ⟨ρ2, e1.trans k1, k2⟩
      rcases e3 with ⟨i1, i2, i3⟩ | ⟨i1, i2⟩
      · have he := gd_end hL e2.2.1 (fun i hi => i3 i (e2.2.1.2.2.1 i hi).1 hi)
        obtain ⟨G, rfl⟩ : ∃ G, F = G + 1 := ⟨F - 1, by omega⟩
        have e : fx_Mo_fitsTypes_b188 ρ (nI m) 1 = some (bP (OKM s0 nC nF nM m L), ρ) := by
          have h := y_all (by omega) hL (y_len hB hl e2.1) e2.2.2.1 L 0 tx_fu (by omega) (by unfold tx_fu; omega)
          rw [bP_t (show ∀ i, i < 0 → P2 i from fun i hi => by omega)] at h
          rw [bP_c he]
          exact h
        refine ⟨ρ, ?_, e2.1, fun τ hτ i hi => ?_⟩
        · rw [fx_Mo_fitsTypes_b101, e, if_pos i1]
          split
          · rfl
          · rfl
        · have hp := he.mp ⟨τ, hτ⟩ i hi
          rw [e2.2.2.2 i hp, e2.2.1.2.2.2 τ hτ i hp]
      · exact ih (q + 1) F ρ P2 T2 (by omega) (by omega) e2 i1 (by omega)
/-- the flags are cleared -/
theorem y_clear (hm8 : m < 8) (w : Int32) : ∀ (r a F : Nat) (σ : tx_St), a + r = 12 → r < F → yF s0 σ m → (∀ i, i < a → σ 60 (12 * m + i) = 0) → ∃ ρ, fx_Mo_fitsTypes_b57 F σ (nI m) w (nI a) = (tx_ci (fx_Mo_led ρ (nI m) (0 : Int32) w) fun r9 σ8 => tx_pz σ8 45 19 r9 fun σ10 => fx_Mo_fitsTypes_b101 tx_fu σ10 (nI m) r9 (0 : Int32)) ∧ yF s0 ρ m ∧ ∀ i, i < 12 → ρ 60 (12 * m + i) = 0 := by
  intro r
  induction r with
  | zero =>
    intro a F σ h1 h2 h3 h4
    obtain ⟨F, rfl⟩ : ∃ G, F = G + 1 := ⟨F - 1, by omega⟩
    exact ⟨σ, by rw [fx_Mo_fitsTypes_b57, if_pos (show (12 : Int32) ≤ nI a from nI_12 ▸ nI_le (by omega) (by omega))], h3, fun i hi => h4 i (by omega)⟩
  | succ r ih =>
    intro a F σ h1 h2 h3 h4
    obtain ⟨F, rfl⟩ : ∃ G, F = G + 1 := ⟨F - 1, by omega⟩
    rw [fx_Mo_fitsTypes_b57, if_neg (show ¬ (12 : Int32) ≤ nI a from nI_12 ▸ nI_ge (by omega) (by decide)), px_ix12', px_wz (j := 12 * m + a) rfl (by omega) (by decide) (Or.inl rfl), nI_1]
    refine ih (a + 1) F _ (by omega) (by omega) (yF_u h3 (Or.inr (Or.inr rfl))) (fun i hi => ?_)
    by_cases hia : i = a
    · simp [px_up, hia]
    · simp [px_up, hia]
      exact h4 i (by omega)
theorem y_ent (hB : iv_B s0 nC nF nM) (hm : m < nM) : fx_Mo_fitsTypes s0 (nI m) = fx_Mo_fitsTypes_b54 s0 (nI m) (nI (pk_ (ent s0 m))) := by
  have hb := B_n hB
  obtain ⟨b1, b2⟩ := B_m7 hB hm
  obtain ⟨p1, p2⟩ := pa_e hB hm
  have e52 : s0 52 m = s0 8 m := by rw [hB.1.2.2.2.2.2.1]
  have e51 : s0 51 m = nI (N_ (s0 7 m)) := by rw [hB.1.2.2.2.2.1]; exact b2
  have e54 : s0 54 m = s0 10 m := by rw [hB.1.2.2.2.2.2.2.2.1]
  unfold fx_Mo_fitsTypes fx_Mo_fitsTypes_b27
  rw [px_rd (j := m) rfl (by omega) (by decide), px_rd (j := m) rfl (by omega) (by decide), e52, e51]
  have step : ∀ (w x : Int32), (tx_rd s0 54 8 (nI m) fun v4 => if v4 < 0 then fx_Mo_fitsTypes_b54 s0 (nI m) w else tx_rd s0 54 8 (nI m) fun v6 => fx_Mo_fitsTypes_b54 s0 (nI m) (w ||| ((v6 + (1 : Int32)) <<< (((16 : Int32) + ((4 : Int32) * x)) &&& 31)))) = fx_Mo_fitsTypes_b54 s0 (nI m) (cif (s0 10 m = -1) w (w ||| ((s0 10 m + (1 : Int32)) <<< (((16 : Int32) + ((4 : Int32) * x)) &&& 31)))) := by
    intro w x
    rw [px_rd (j := m) rfl (by omega) (by decide), px_rd (j := m) rfl (by omega) (by decide), e54]
    rcases Classical.em (s0 10 m = -1) with e | e
    · rw [cif_t e, e, if_pos (by decide)]
    · rcases B_m10 hB hm with h | ⟨h1, h2⟩
      · exact absurd h e
      · rw [cif_f e, if_neg (by rw [h2]; exact nI_pos (by omega))]
  rcases Classical.em (stM s0 m) with h | h
  · have h8 : s0 8 m = 1 := ((B_m8 hB hm).resolve_left (fun z => z.1 h)).2
    rw [h8, if_neg (by decide), step]
    congr 1
    rw [show ent s0 m = ([], pa_ s0 m, 0, 0) by unfold ent; rw [cif_t h]; rfl]
    unfold pa_
    rcases Classical.em (s0 10 m = -1) with e | e
    · rw [cif_t e, cif_t e]
      exact px_ent0
    · rcases B_m10 hB hm with h' | ⟨h1, h2⟩
      · exact absurd h' e
      · rw [cif_f e, cif_f e]
        conv => lhs; rw [h2]
        exact px_ent3 _ (by omega)
  · have h8 : s0 8 m = 0 := ((B_m8 hB hm).resolve_right (fun z => h z.1)).2
    rw [h8, if_pos rfl, step, px_ent1 _ (by omega)]
    congr 1
    rw [show ent s0 m = ([], N_ (s0 7 m) + 3, pa_ s0 m, 0) by unfold ent; rw [cif_f h]; rfl]
    unfold pa_
    rcases Classical.em (s0 10 m = -1) with e | e
    · rw [cif_t e, cif_t e]
    · rcases B_m10 hB hm with h' | ⟨h1, h2⟩
      · exact absurd h' e
      · rw [cif_f e, cif_f e]
        conv => lhs; rw [h2]
        exact px_ent2 _ (by omega) _ (by omega)
theorem fx_Mo_fitsTypes_e (hB : iv_B s0 nC nF nM) (hm : m < nM) (hL : L ≤ 12) (hl : s0 12 m = nI L) (hop : ∀ i, i < L → ∃ o, o ≤ 19 ∧ s0 13 (12 * m + i) = nI o) :
    ∃ ρ, fx_Mo_fitsTypes s0 (nI m) = some (bP (OKM s0 nC nF nM m L), ρ) ∧ yC s0 ρ nC nF nM m L := by
  have hb := B_n hB
  rw [y_ent hB hm]
  unfold fx_Mo_fitsTypes_b54
  obtain ⟨σ, e1, e2, e3⟩ := y_clear (s0 := s0) (m := m) (by omega) (nI (pk_ (ent s0 m))) 12 0 tx_fu s0 (by omega) (by decide) yF_rf (fun i hi => by omega)
  rw [show (0 : Int32) = nI 0 from rfl, e1]
  unfold fx_Mo_led fx_Mo_led_b14
  rw [if_neg (by decide), px_rd (j := m) rfl (by omega) (by decide), y_len hB hl e2]
  by_cases h0 : 0 < L
  · rw [if_pos (show (0 : Int32) < nI L from nI_lt (a := 0) h0 (by omega)), Int32.add_zero, px_ix12s, px_rd (j := 12 * m) rfl (by omega) (by decide), show σ 60 (12 * m) = 0 from e3 0 (by decide), if_pos rfl, px_wz (j := 12 * m) rfl (by omega) (by decide) (Or.inr rfl), px_wr (j := 12 * m) rfl (by omega) (by decide), px_pz (Or.inr rfl), px_ci, px_pz (Or.inr rfl)]
    refine y_rounds hB hm hL hl hop 13 0 tx_fu _ (fun i => i = 0) (fun _ => ent s0 m) (by omega) (by decide) ⟨yF_u (yF_u (yF_u (yF_u e2 (Or.inr (Or.inr rfl))) (Or.inr (Or.inl ⟨rfl, 0, by decide, rfl⟩))) (Or.inl ⟨rfl, rfl⟩)) (Or.inl ⟨rfl, rfl⟩), gd_0 hB hm h0, fun i hi => ?_, fun i hi => ?_⟩ (by simp [px_up]) ?_
    · by_cases hi0 : i = 0
      · subst hi0
        rw [bP_t rfl]
        simp [px_up]
      · rw [bP_f hi0]
        simp [px_up, hi0]
        exact e3 i hi
    · subst hi
      simp [px_up]
    · have h1 := ct_add (P := fun _ => False) (j := 0) (fun h => h) L h0
      have h2 := ct_congr (P := fun i => False ∨ i = 0) (Q := fun i => i = 0) L (fun i _ => ⟨fun h => h.resolve_left (fun z => z), Or.inr⟩)
      rw [← h2, h1]
      omega
  · obtain rfl : L = 0 := by omega
    have hn : ¬ OKM s0 nC nF nM m 0 := fun ⟨τ, hτ⟩ => absurd hτ.1 (by decide)
    rw [if_neg (by decide), px_ci, px_pz (Or.inl rfl)]
    have hF : yF s0 (tx_up σ 45 19 0) m := yF_u e2 (Or.inl ⟨rfl, rfl⟩)
    exact ⟨_, by rw [y_endN (by omega) hL (y_len hB hl hF) (by decide), bP_f hn], yF_C hF hn⟩
end YG
