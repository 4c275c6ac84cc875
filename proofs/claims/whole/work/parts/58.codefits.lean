/-! Arrays.fill, and the class's check of a method's code from begin to end -/
theorem fill4_l (ka na : Nat) (hna : na < 2 ^ 31) (x : Int32) {b : Nat} (hb : b ≤ na) : ∀ (r a F : Nat) (σ : tx_St), a + r = b → r < F → ∃ ρ, fx_Arr_fill4_b10 ka na F σ (nI b) x (nI a) = some ρ ∧ (∀ k, k ≠ ka → ρ k = σ k) ∧ (∀ j, a ≤ j → j < b → ρ ka j = x) ∧ ∀ j, (j < a ∨ b ≤ j) → ρ ka j = σ ka j := by
  intro r
  induction r with
  | zero =>
    intro a F σ h1 h2
    obtain ⟨F, rfl⟩ : ∃ G, F = G + 1 := ⟨F - 1, by omega⟩
    refine ⟨σ, ?_, fun _ _ => rfl, fun j _ _ => by omega, fun _ _ => rfl⟩
    rw [fx_Arr_fill4_b10, if_pos (nI_le (by omega) (by omega))]
  | succ r ih =>
    intro a F σ h1 h2
    obtain ⟨F, rfl⟩ : ∃ G, F = G + 1 := ⟨F - 1, by omega⟩
    obtain ⟨ρ, e1, e2, e3, e4⟩ := ih (a + 1) F (tx_up σ ka a x) (by omega) (by omega)
    refine ⟨ρ, ?_, fun k hk => (e2 k hk).trans (tx_up_ne σ a x hk), fun j h3 h4 => ?_, fun j hj => ?_⟩
    · rw [fx_Arr_fill4_b10, if_neg (nI_ge (by omega) (by omega)), px_wr (j := a) rfl (by omega) hna, nI_1]
      exact e1
    · by_cases hj : j = a
      · rw [e4 j (by omega), px_up, if_pos rfl, if_pos hj]
      · exact e3 j (by omega) h4
    · rw [e4 j (by omega), px_up, if_pos rfl, if_neg (by omega)]
theorem fill2_l (ka na : Nat) (hna : na < 2 ^ 31) (x : Int32) {b : Nat} (hb : b ≤ na) : ∀ (r a F : Nat) (σ : tx_St), a + r = b → r < F → ∃ ρ, fx_Arr_fill2_b5 ka na F σ x (nI a) (nI b) = some ρ ∧ (∀ k, k ≠ ka → ρ k = σ k) ∧ (∀ j, a ≤ j → j < b → ρ ka j = x) ∧ ∀ j, (j < a ∨ b ≤ j) → ρ ka j = σ ka j := by
  intro r
  induction r with
  | zero =>
    intro a F σ h1 h2
    obtain ⟨F, rfl⟩ : ∃ G, F = G + 1 := ⟨F - 1, by omega⟩
    refine ⟨σ, ?_, fun _ _ => rfl, fun j _ _ => by omega, fun _ _ => rfl⟩
    rw [fx_Arr_fill2_b5, if_pos (nI_le (by omega) (by omega))]
  | succ r ih =>
    intro a F σ h1 h2
    obtain ⟨F, rfl⟩ : ∃ G, F = G + 1 := ⟨F - 1, by omega⟩
    obtain ⟨ρ, e1, e2, e3, e4⟩ := ih (a + 1) F (tx_up σ ka a x) (by omega) (by omega)
    refine ⟨ρ, ?_, fun k hk => (e2 k hk).trans (tx_up_ne σ a x hk), fun j h3 h4 => ?_, fun j hj => ?_⟩
    · rw [fx_Arr_fill2_b5, if_neg (nI_ge (by omega) (by omega)), px_wr (j := a) rfl (by omega) hna, nI_1]
      exact e1
    · by_cases hj : j = a
      · rw [e4 j (by omega), px_up, if_pos rfl, if_pos hj]
      · exact e3 j (by omega) h4
    · rw [e4 j (by omega), px_up, if_pos rfl, if_neg (by omega)]
theorem fill4_e {ka na a b : Nat} (hna : na < 2 ^ 31) (h4 : b - a < 400) (hab : a ≤ b) (hb : b ≤ na) (σ : tx_St) (x : Int32) : ∃ ρ, fx_Arr_fill4 ka na σ (nI a) (nI b) x = some ρ ∧ (∀ k, k ≠ ka → ρ k = σ k) ∧ (∀ j, a ≤ j → j < b → ρ ka j = x) ∧ ∀ j, (j < a ∨ b ≤ j) → ρ ka j = σ ka j := by
  obtain ⟨ρ, e1, e2⟩ := fill4_l ka na hna x hb (b - a) a 400 σ (by omega) h4
  refine ⟨ρ, ?_, e2⟩
  unfold fx_Arr_fill4 fx_Arr_rangeCheck
  rw [if_pos (nI_le hab (by omega)), if_pos (nI_pos' (by omega)), if_pos (show nI b ≤ Int32.ofNat na from nI_le hb hna), px_cv]
  exact e1
theorem fill2_e {ka na : Nat} (hna : na < 400) (σ : tx_St) (x : Int32) : ∃ ρ, fx_Arr_fill2 ka na σ x = some ρ ∧ (∀ k, k ≠ ka → ρ k = σ k) ∧ (∀ j, j < na → ρ ka j = x) ∧ ∀ j, na ≤ j → ρ ka j = σ ka j := by
  obtain ⟨ρ, e1, e2, e3, e4⟩ := fill2_l ka na (by omega) x (Nat.le_refl na) na 0 400 σ (by omega) hna
  exact ⟨ρ, e1, e2, fun j hj => e3 j (by omega) hj, fun j hj => e4 j (Or.inr hj)⟩
theorem px_s1 (n : Nat) : nI (n + 1) - 1 = nI n := by
  rw [show (1 : Int32) = nI 1 by decide, pk_sub (by omega)]
  rfl
theorem px_ix12r (m : Nat) : nI m * 12 = nI (12 * m) := by
  have h := px_ix12 m 0
  rw [show nI 0 = (0 : Int32) by decide, Int32.add_zero] at h
  exact h
section CF
variable {s0 σ : tx_St} {nC nF nM m L c : Nat} {v : Nat → Nat} {P : Nat → Prop} {T : Nat → TS}
/-- the parameter's type as a local -/
noncomputable def pa_ (σ : tx_St) (m : Nat) : Nat := cif (σ 10 m = -1) 0 (N_ (σ 10 m) + 1)
theorem pa_e (hB : iv_B σ nC nF nM) (hm : m < nM) : σ 10 m = nI (pa_ σ m) - 1 ∧ pa_ σ m ≤ nC + 2 := by
  have hb := B_n hB
  unfold pa_
  rcases B_m10 hB hm with e | ⟨e1, e2⟩
  · rw [cif_t e]
    exact ⟨e, by omega⟩
  · have hne : ¬ σ 10 m = -1 := by
      rw [e2]
      exact fun z => nI_pos (n := N_ (σ 10 m)) (by omega) (z ▸ (by decide : (-1 : Int32) < 0))
    rw [cif_f hne, px_s1]
    exact ⟨e2, by omega⟩
theorem ent_ok (hB : iv_B σ nC nF nM) (hm : m < nM) : okS (nC + 2) (ent σ m) := ((gd_0 hB hm (L := 1) (by decide)).2.2.1 0 rfl).2.1
theorem x_begin (hB : iv_B s0 nC nF nM) (hm : m < nM) : ∃ ρ, fx_Fitting_begin s0 (nI m) = some ρ ∧
    (∀ k, (k < 15 ∨ 19 < k) → ρ k = s0 k) ∧ (∀ i, (i < 12 * m ∨ 12 * m + 12 ≤ i) → ρ 16 i = s0 16 i) ∧ (∀ i, i < 12 → ρ 16 (12 * m + i) = -1) ∧ ρ 15 7 = nI m ∧ ρ 15 5 = 0 ∧ xr ρ (nC + 2) (some (ent s0 m)) := by
  have hb := B_n hB
  have hm8 : m < 8 := by omega
  have hent := ent_ok hB hm
  obtain ⟨p1, p2⟩ := pa_e hB hm
  obtain ⟨b1, b2⟩ := B_m7 hB hm
  unfold fx_Fitting_begin
  rw [px_pt, px_pz (Or.inr rfl), px_pt, px_pt]
  generalize hσ : tx_up (tx_up (tx_up (tx_up s0 15 7 (nI m)) 15 8 1) 15 5 0) 15 6 0 = σ4
  have q7 : σ4 15 7 = nI m := by rw [← hσ]; simp [px_up]
  have q8 : σ4 15 8 = 1 := by rw [← hσ]; simp [px_up]
  have q5 : σ4 15 5 = 0 := by rw [← hσ]; simp [px_up]
  have q6 : σ4 15 6 = 0 := by rw [← hσ]; simp [px_up]
  have qk : ∀ k, k ≠ 15 → σ4 k = s0 k := fun k hk => by rw [← hσ, tx_up_ne _ _ _ hk, tx_up_ne _ _ _ hk, tx_up_ne _ _ _ hk, tx_up_ne _ _ _ hk]
  obtain ⟨σ5, f1, f2, f3, f4⟩ := fill4_e (ka := 16) (na := 96) (a := 12 * m) (b := 12 * (m + 1)) (by decide) (by omega) (by omega) (by omega) σ4 (-1)
  obtain ⟨σ6, g1, g2, g3, -⟩ := fill2_e (ka := 18) (na := 3) (by decide) σ5 (-1)
  have r7 : σ6 15 7 = nI m := by rw [g2 15 (by decide), f2 15 (by decide)]; exact q7
  have rk : ∀ k, k ≠ 15 → k ≠ 16 → k ≠ 18 → σ6 k = s0 k := fun k h1 h2 h3 => by rw [g2 k h3, f2 k h2, qk k h1]
  have hst : stM σ6 m = stM s0 m := by unfold stM; rw [rk 8 (by decide) (by decide) (by decide)]
  rw [q7, nI_1, px_ix12r, px_ix12r, f1, px_cv, g1, px_cv, r7, fx_Plan_isStaticMethod_e hm8, px_ci, hst]
  have fin : ∀ (σ7 : tx_St) (a : Nat), a < 3 → (∀ k, k ≠ 18 → σ7 k = σ6 k) → (∀ j, j < 3 → tx_up σ7 18 a (s0 10 m) 18 j = nI (lo_ (ent s0 m) j) - 1) → ∃ ρ, fx_Fitting_begin_b90 σ7 (nI a) = some ρ ∧
    (∀ k, (k < 15 ∨ 19 < k) → ρ k = s0 k) ∧ (∀ i, (i < 12 * m ∨ 12 * m + 12 ≤ i) → ρ 16 i = s0 16 i) ∧ (∀ i, i < 12 → ρ 16 (12 * m + i) = -1) ∧ ρ 15 7 = nI m ∧ ρ 15 5 = 0 ∧ xr ρ (nC + 2) (some (ent s0 m)) := by
    intro σ7 a ha hk hl
    have k15 : tx_up σ7 18 a (s0 10 m) 15 = σ4 15 := by rw [tx_up_ne _ _ _ (by decide), hk 15 (by decide), g2 15 (by decide), f2 15 (by decide)]
    have k16 : tx_up σ7 18 a (s0 10 m) 16 = σ5 16 := by rw [tx_up_ne _ _ _ (by decide), hk 16 (by decide), g2 16 (by decide)]
    refine ⟨tx_up σ7 18 a (s0 10 m), ?_, fun k h => ?_, fun i hi => ?_, fun i hi => ?_, by rw [k15]; exact q7, by rw [k15]; exact q5, ?_⟩
    · unfold fx_Fitting_begin_b90
      rw [hk 15 (by decide), r7, px_rd (j := m) rfl hm8 (by decide), px_wr (j := a) rfl ha (by decide), hk 10 (by decide), rk 10 (by decide) (by decide) (by decide)]
    · rw [tx_up_ne _ _ _ (by omega), hk k (by omega), rk k (by omega) (by omega) (by omega)]
    · rw [k16, f4 i (by omega), qk 16 (by decide)]
    · rw [k16, f3 _ (by omega) (by omega)]
    · have hlen : (ent s0 m).1.length = 0 := by
        unfold ent
        rcases Classical.em (stM s0 m) with h | h
        · rw [cif_t h]; rfl
        · rw [cif_f h]; rfl
      refine ⟨⟨0, by omega, by rw [k15]; exact q6, fun k hk => by omega, fun k hk => ⟨lo_ (ent s0 m) k, lo_le hent k, hl k hk⟩⟩, (fun z => by cases z), fun s e => ?_⟩
      cases e
      exact ⟨by rw [k15]; exact q8, hent, by rw [k15, hlen]; exact q6, fun k hk => by omega, hl⟩
  have hm1 : (-1 : Int32) = nI 0 - 1 := by decide
  rcases Classical.em (stM s0 m) with h | h
  · rw [bP_t h, if_neg (by decide)]
    have he : ent s0 m = ([], pa_ s0 m, 0, 0) := by unfold ent; rw [cif_t h]; rfl
    refine fin σ6 0 (by decide) (fun _ _ => rfl) (fun j hj => ?_)
    rw [px_up, if_pos rfl, he]
    rcases (by omega : j = 0 ∨ j = 1 ∨ j = 2) with rfl | rfl | rfl
    · rw [if_pos rfl, p1]; rfl
    · rw [if_neg (by decide), g3 1 (by decide)]; exact hm1
    · rw [if_neg (by decide), g3 2 (by decide)]; exact hm1
  · rw [bP_f h, if_pos rfl, px_rd (j := m) r7 hm8 (by decide), px_wr (j := 0) (by decide) (by decide) (by decide)]
    have he : ent s0 m = ([], N_ (s0 7 m) + 3, pa_ s0 m, 0) := by unfold ent; rw [cif_f h]; rfl
    refine fin _ 1 (by decide) (fun k hk => tx_up_ne _ _ _ hk) (fun j hj => ?_)
    rw [px_up, if_pos rfl, he, px_up, if_pos rfl]
    rcases (by omega : j = 0 ∨ j = 1 ∨ j = 2) with rfl | rfl | rfl
    · rw [if_neg (by decide), if_pos rfl, rk 7 (by decide) (by decide) (by decide)]
      show (2 : Int32) + s0 7 m = nI (N_ (s0 7 m) + 3) - 1
      rw [px_s1, ← px_2, ← b2]
    · rw [if_pos rfl, p1]; rfl
    · rw [if_neg (by decide), if_neg (by decide), g3 2 (by decide)]; exact hm1
/-- the first arrival -/
theorem x_first (hB : iv_B s0 nC nF nM) (hm : m < nM) (hL : L ≤ 12) (hl : s0 12 m = nI L) : ∃ ρ ρ2, fx_Fitting_begin s0 (nI m) = some ρ ∧ fx_Fitting_arriveAt ρ 0 = some ρ2 ∧ ((xF s0 ρ2 m ∧ ¬ OKM s0 nC nF nM m L) ∨ (xJ s0 ρ2 nC nF nM m L 1 (fun _ => 0) (fun i => i = 0) (fun _ => ent s0 m) ∧ ρ2 15 8 = 1)) := by
  have hb := B_n hB
  obtain ⟨σ, e0, e1, e2, e3, e4, e5, hx⟩ := x_begin hB hm
  obtain ⟨hg, hok, hxs⟩ := hx.2.2 _ rfl
  have hn10 : nC + 2 ≤ 10 := by omega
  have hl2 : σ 12 m = nI L := by rw [e1 12 (by omega)]; exact hl
  refine ⟨σ, ?_⟩
  unfold fx_Fitting_arriveAt fx_Fitting_arriveAt_b99
  rw [if_neg (by rw [hg]; decide), e4, fx_Plan_isInstruction_e (by omega) hl2 hL, px_ci, px_bad, fx_Fitting_packed_e hn10 hok hxs, px_ci, e4, px_bad]
  by_cases hc : cI L 0
  · obtain ⟨c1, -⟩ := cI_N (by omega) hc
    have hix : 12 * m < 96 := by omega
    have hL0 : 0 < L := Nat.lt_of_le_of_lt (Nat.zero_le _) c1
    rw [bP_t hc, if_neg (by decide), Int32.add_zero, px_ix12r, px_rd (j := 12 * m) rfl hix (by decide), show σ 16 (12 * m) = -1 from e3 0 (by decide), if_pos rfl, px_wr (j := 12 * m) rfl hix (by decide), px_wr (j := 0) (by simp [px_up]; rw [e5]; rfl) (by decide) (by decide), px_pt]
    refine ⟨_, e0, rfl, Or.inr ⟨⟨⟨fun k hk => ?_, fun i hi => ?_⟩, ⟨?_, ?_, ?_⟩, gd_0 hB hm hL0, fun k hk => ?_, fun i hi => ⟨0, by decide, hi.symm⟩, fun i hi => ?_, fun i hi hn => ?_⟩, ?_⟩⟩
    · rw [tx_up_ne _ _ _ (by omega), tx_up_ne _ _ _ (by omega), tx_up_ne _ _ _ (by omega)]
      exact e1 k hk
    · have : ¬ i = 12 * m := by omega
      simp [px_up, this]
      exact e2 i hi
    · simp [px_up]
      exact e4
    · simp [px_up, e5]
      decide
    · have h1 := ct_add (P := fun _ => False) (j := 0) (fun h => h) L hL0
      have h2 : ∀ n, ct (fun _ => False) n = 0 := by
        intro n
        induction n with
        | zero => rfl
        | succ n ih => rw [ct, cif_f (fun h => h), ih]
      rw [h2] at h1
      exact h1.symm.trans (ct_congr L (fun i _ => ⟨fun h => h.resolve_left (fun z => z), Or.inr⟩))
    · obtain rfl : k = 0 := by omega
      exact ⟨rfl, by simp [px_up]; rfl⟩
    · subst hi
      simp [px_up]
    · simp [px_up, hn]
      exact e3 i hi
    · simp [px_up]
      exact hg
  · rw [bP_f hc, if_pos rfl]
    refine ⟨_, e0, rfl, Or.inl ⟨⟨⟨fun k hk => ?_, fun i hi => ?_⟩, ?_, by simp [px_up]⟩, ?_⟩⟩
    · rw [tx_up_ne _ _ _ (by omega)]
      exact e1 k hk
    · rw [tx_up_ne _ _ _ (by decide)]
      exact e2 i hi
    · simp [px_up]
      exact e4
    · rintro ⟨τ, h0, -⟩
      exact hc ⟨0, h0, by decide⟩
theorem x_leaveN (h : σ 15 8 = 0) (i op a : Int32) : fx_Fitting_leave σ i op a = some σ := by
  unfold fx_Fitting_leave fx_Fitting_leave_b11 fx_Fitting_leave_b16 fx_Fitting_leave_b34
  by_cases h5 : op = 5
  · rw [if_pos h5, x_arriveN h, px_cv, if_pos h5]
  · rw [if_neg h5]
    by_cases h6 : op = 6
    · rw [if_pos h6, x_arriveN h, px_cv, if_neg h5, if_neg (by rw [h6]; decide), x_arriveN h, px_cv]
    · rw [if_neg h6, if_neg h5]
      by_cases h19 : op = 19
      · rw [if_pos h19]
      · rw [if_neg h19, x_arriveN h, px_cv]
theorem x_cfN (h : σ 15 8 = 0) {F : Nat} (hF : 0 < F) (x : Int32) : fx_Fitting_codeFits_b12 F σ x = some (0, σ) := by
  obtain ⟨F, rfl⟩ : ∃ G, F = G + 1 := ⟨F - 1, by omega⟩
  have e : fx_Fitting_codeFits_b117 σ = some (0, σ) := by
    unfold fx_Fitting_codeFits_b117 fx_Fitting_codeFits_b147 fx_Fitting_codeFits_b148
    rw [if_pos h, px_rz (Or.inl rfl)]
  rw [fx_Fitting_codeFits_b12, e]
  split
  · rfl
  · split
    · rfl
    · rfl
/-- what the check of a method's code leaves -/
def xC (s0 ρ : tx_St) (nC nF nM m L : Nat) : Prop := (∀ k, (k < 15 ∨ 19 < k) → ρ k = s0 k) ∧ (∀ i, (i < 12 * m ∨ 12 * m + 12 ≤ i) → ρ 16 i = s0 16 i) ∧ ∀ τ, okM s0 nC nF nM m L τ → ∀ i, i < L → ρ 16 (12 * m + i) = nI (pk_ (τ i))
theorem xC_F (h : xF s0 σ m) (hn : ¬ OKM s0 nC nF nM m L) : xC s0 σ nC nF nM m L := ⟨h.1.1, h.1.2, fun τ hτ => absurd ⟨τ, hτ⟩ hn⟩
theorem x_cf_l (hB : iv_B s0 nC nF nM) (hm : m < nM) (hL : L ≤ 12) (hl : s0 12 m = nI L) (hop : ∀ i, i < L → ∃ o, o ≤ 19 ∧ s0 13 (12 * m + i) = nI o) : ∀ (r d F : Nat) (σ : tx_St) (c : Nat) (v : Nat → Nat) (P : Nat → Prop) (T : Nat → TS), d + r = 12 → r + 1 < F → xJ s0 σ nC nF nM m L c v P T → σ 15 8 = 1 → d ≤ c → (∀ k, k < d → clo s0 nC nF nM m P T (v k)) →
    ∃ ρ, fx_Fitting_codeFits_b12 F σ (nI d) = some (bP (OKM s0 nC nF nM m L), ρ) ∧ xC s0 ρ nC nF nM m L := by
  have hb := B_n hB
  have fin : ∀ (σ : tx_St) (c : Nat) (v : Nat → Nat) (P : Nat → Prop) (T : Nat → TS), xJ s0 σ nC nF nM m L c v P T → σ 15 8 = 1 → (∀ k, k < c → clo s0 nC nF nM m P T (v k)) → fx_Fitting_codeFits_b117 σ = some (bP (OKM s0 nC nF nM m L), σ) ∧ xC s0 σ nC nF nM m L := by
    intro σ c v P T hJ hg hc
    obtain ⟨⟨h1, h2⟩, ⟨h3, h4, h5⟩, h6, h7, h8, h9, h10⟩ := hJ
    have he := gd_end hL h6 (fun i hi => by
      obtain ⟨k, hk, e⟩ := h8 i hi
      exact e ▸ hc k hk)
    have hcL := ct_le P L
    constructor
    · unfold fx_Fitting_codeFits_b117 fx_Fitting_codeFits_b147 fx_Fitting_codeFits_b148
      rw [if_neg (by rw [hg]; decide), px_rd (j := m) h3 (by omega) (by decide), h1 12 (by omega), hl, h4]
      by_cases hcl : c = L
      · rw [if_pos (by rw [hcl]), px_rz (Or.inr rfl), bP_t (he.mpr (ct_all L (by omega)))]
      · rw [if_neg (fun z => hcl ((nI_eq (by omega) (by omega)).mp z)), px_rz (Or.inl rfl), bP_f (fun z => hcl (h5.trans (ct_full L (he.mp z))))]
    · refine ⟨h1, h2, fun τ hτ i hi => ?_⟩
      have hp := he.mp ⟨τ, hτ⟩ i hi
      rw [h9 i hp, h6.2.2.2 τ hτ i hp]
  intro r
  induction r with
  | zero =>
    intro d F σ c v P T h1 h2 hJ hg hd hc
    obtain ⟨F, rfl⟩ : ∃ G, F = G + 1 := ⟨F - 1, by omega⟩
    have hcL := ct_le P L
    have h5 := hJ.2.1.2.2
    obtain ⟨e1, e2⟩ := fin σ c v P T hJ hg (fun k hk => hc k (by omega))
    exact ⟨σ, by rw [fx_Fitting_codeFits_b12, if_pos (show (12 : Int32) ≤ nI d from nI_12 ▸ nI_le (by omega) (by omega))]; exact e1, e2⟩
  | succ r ih =>
    intro d F σ c v P T h1 h2 hJ hg hd hc
    obtain ⟨F, rfl⟩ : ∃ G, F = G + 1 := ⟨F - 1, by omega⟩
    have hcL := ct_le P L
    have hJ0 := hJ
    obtain ⟨⟨j1, j2⟩, ⟨h3, h4, h5⟩, h6, h7, h8, h9, h10⟩ := hJ
    rw [fx_Fitting_codeFits_b12, if_neg (show ¬ (12 : Int32) ≤ nI d from nI_12 ▸ nI_ge (by omega) (by decide)), h4]
    by_cases hcd : c ≤ d
    · obtain ⟨e1, e2⟩ := fin σ c v P T hJ0 hg (fun k hk => hc k (by omega))
      exact ⟨σ, by rw [if_pos (nI_le hcd (by omega))]; exact e1, e2⟩
    · obtain ⟨hi, e19⟩ := h7 d (by omega)
      generalize hvi : v d = i at *
      obtain ⟨hiL, hoki, -⟩ := h6.2.2.1 i hi
      obtain ⟨op, hop1, hop2⟩ := hop i hiL
      have hix : 12 * m + i < 96 := by omega
      obtain ⟨ρ1, a1, a2, a3⟩ := xr_unpack (σ := σ) (n := nC + 2) (by omega) hoki hg
      have hJ1 := xJ_e hJ0 a2
      have hag1 := xJ_ag hJ1
      obtain ⟨ρ2, b1, b2, b3⟩ := xr_apply (xJ_B hB hJ1) a3 hm hJ1.2.1.1 hop1 (s0 14 (12 * m + i))
      have hJ2 := xJ_e hJ1 b2
      rw [ag_tr hag1] at b3
      have htri : tri s0 nC nF nM m i (T i) = tr s0 nC nF nM m op (s0 14 (12 * m + i)) (T i) := by unfold tri; rw [hop2, N_nI (by omega)]
      rw [if_neg (nI_ge (by omega) (by omega)), if_neg (by rw [hg]; decide), px_rd (j := d) rfl (by omega) (by decide), e19, h3, px_ix12, px_rd (j := 12 * m + i) rfl hix (by decide), h9 i hi, a1, px_cv, px_rd (j := 12 * m + i) rfl hix (by decide), px_rd (j := 12 * m + i) rfl hix (by decide), hJ1.1.1 13 (by omega), hJ1.1.1 14 (by omega), hop2, b1, px_cv, px_rd (j := 12 * m + i) rfl hix (by decide), px_rd (j := 12 * m + i) rfl hix (by decide), hJ2.1.1 13 (by omega), hJ2.1.1 14 (by omega)]
      cases ht : tr s0 nC nF nM m op (s0 14 (12 * m + i)) (T i) with
      | none =>
        rw [ht] at b3
        have hg0 := b3.2.1 rfl
        have hbad := gd_none h6 hi (htri.trans ht)
        refine ⟨ρ2, ?_, ⟨hJ2.1.1, hJ2.1.2, fun τ hτ => absurd ⟨τ, hτ⟩ hbad⟩⟩
        rw [x_leaveN hg0, px_cv, nI_1, x_cfN hg0 (by omega), bP_f hbad]
      | some s =>
        rw [ht] at b3
        rcases x_leave hB hm hL hl hJ2 b3 hi (htri.trans ht) with ⟨ρ, e1, e2, e3⟩ | ⟨ρ, c2, v2, P2, T2, e1, e2, e3, e4, e5, e6, e7, e8⟩
        · refine ⟨ρ, ?_, xC_F e2 e3⟩
          rw [e1, px_cv, nI_1, x_cfN e2.2.2 (by omega), bP_f e3]
        · rw [e1, px_cv, nI_1]
          refine ih (d + 1) F ρ c2 v2 P2 T2 (by omega) (by omega) e2 (e3.2.2 s rfl).1 (by omega) (fun k hk => ?_)
          by_cases hkd : k = d
          · subst hkd
            rw [e5 k (by omega), hvi]
            exact ⟨s, by rw [e7 i hi]; exact htri.trans ht, e8⟩
          · rw [e5 k (by omega)]
            exact clo_up (hc k (by omega)) (h7 k (by omega)).1 e6 e7
theorem fx_Fitting_codeFits_e (hB : iv_B s0 nC nF nM) (hm : m < nM) (hL : L ≤ 12) (hl : s0 12 m = nI L) (hop : ∀ i, i < L → ∃ o, o ≤ 19 ∧ s0 13 (12 * m + i) = nI o) :
    ∃ ρ, fx_Fitting_codeFits s0 (nI m) = some (bP (OKM s0 nC nF nM m L), ρ) ∧ xC s0 ρ nC nF nM m L := by
  obtain ⟨ρ, ρ2, e1, e2, e3⟩ := x_first hB hm hL hl
  unfold fx_Fitting_codeFits
  rw [e1, px_cv, e2, px_cv]
  rcases e3 with ⟨e3, e4⟩ | ⟨e3, e4⟩
  · exact ⟨ρ2, by rw [x_cfN e3.2.2 (by decide), bP_f e4], xC_F e3 e4⟩
  · exact x_cf_l hB hm hL hl hop 12 0 tx_fu ρ2 1 _ _ _ (by omega) (by decide) e3 e4 (by omega) (fun k hk => by omega)
end CF
