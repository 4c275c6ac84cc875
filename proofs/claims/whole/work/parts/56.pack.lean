/-! the class packs and unpacks -/
section PK
variable {σ : tx_St} {n : Nat} {s : TS}
theorem unpack_l2 (hn : n ≤ 10) (h : okS n s) : ∀ (r k F : Nat) (τ : tx_St), k + r = 3 → r < F → ∃ ρ, fx_Fitting_unpack_b53 F τ (nI (pk_ s)) (nI k) = some ρ ∧ (∀ j, k ≤ j → j < 3 → ρ 18 j = nI (lo_ s j) - 1) ∧ (∀ j, j < k → ρ 18 j = τ 18 j) ∧ ∀ c, c ≠ 18 → ρ c = τ c := by
  have hP := pq_lt hn h
  intro r
  induction r with
  | zero =>
    intro k F τ hk hF
    obtain ⟨F, rfl⟩ : ∃ G, F = G + 1 := ⟨F - 1, by omega⟩
    obtain rfl : k = 3 := by omega
    refine ⟨τ, ?_, fun j h1 h2 => by omega, fun _ _ => rfl, fun _ _ => rfl⟩
    rw [fx_Fitting_unpack_b53, if_pos (by decide)]
  | succ r ih =>
    intro k F τ hk hF
    obtain ⟨F, rfl⟩ : ∃ G, F = G + 1 := ⟨F - 1, by omega⟩
    obtain ⟨ρ, e1, e2, e3, e4⟩ := ih (k + 1) F (tx_up τ 18 k (nI (lo_ s k) - 1)) (by omega) (by omega)
    refine ⟨ρ, ?_, fun j h1 h2 => ?_, fun j hj => ?_, fun c hc => ?_⟩
    · rw [fx_Fitting_unpack_b53, if_neg (by rw [show (3 : Int32) = nI 3 by decide]; exact nI_ge (by omega) (by decide)), px_nib (by omega) (px_sh4' k (by omega)), nib_lo hn h (by omega), px_wr rfl (by omega) (by decide), nI_1, e1]
    · by_cases hj : j = k
      · subst hj
        rw [e3 j (by omega)]
        simp [px_up]
      · exact e2 j (by omega) h2
    · rw [e3 j (by omega), px_upN (Or.inr (by omega))]
    · rw [e4 c hc, tx_up_ne _ _ _ hc]
theorem unpack_l (hn : n ≤ 10) (h : okS n s) : ∀ (r k F : Nat) (τ : tx_St), k + r = 4 → r < F → τ 15 6 = nI (min k s.1.length) → ∃ ρ, fx_Fitting_unpack_b7 F τ (nI (pk_ s)) (nI k) = some ρ ∧ ρ 15 6 = nI s.1.length ∧ (∀ j, k ≤ j → j < s.1.length → ρ 17 j = nI (s.1.getD (s.1.length - 1 - j) 0)) ∧ (∀ j, j < k → ρ 17 j = τ 17 j) ∧ (∀ j, j < 3 → ρ 18 j = nI (lo_ s j) - 1) ∧ xe τ ρ ∧ ρ 15 8 = τ 15 8 := by
  have hP := pq_lt hn h
  have h4 := h.1
  intro r
  induction r with
  | zero =>
    intro k F τ hk hF hd
    obtain ⟨F, rfl⟩ : ∃ G, F = G + 1 := ⟨F - 1, by omega⟩
    obtain rfl : k = 4 := by omega
    obtain ⟨ρ, e1, e2, e3, e4⟩ := unpack_l2 hn h 3 0 tx_fu τ (by omega) (by unfold tx_fu; omega)
    refine ⟨ρ, ?_, ?_, fun j h1 h2 => by omega, fun j _ => by rw [e4 17 (by decide)], fun j hj => e2 j (Nat.zero_le _) hj, ⟨fun c a b d => e4 c d, fun j _ _ => by rw [e4 15 (by decide)]⟩, by rw [e4 15 (by decide)]⟩
    · rw [fx_Fitting_unpack_b7, if_pos (by decide)]
      exact e1
    · rw [e4 15 (by decide), hd, Nat.min_eq_right h4]
  | succ r ih =>
    intro k F τ hk hF hd
    obtain ⟨F, rfl⟩ : ∃ G, F = G + 1 := ⟨F - 1, by omega⟩
    have e0 : fx_Fitting_unpack_b7 (F + 1) τ (nI (pk_ s)) (nI k) = (if nI (pk_ s / 2 ^ (4 * k) % 16) - 1 = (-1 : Int32) then fx_Fitting_unpack_b7 F (tx_up τ 17 k (nI (pk_ s / 2 ^ (4 * k) % 16) - 1)) (nI (pk_ s)) (nI (k + 1)) else fx_Fitting_unpack_b7 F (tx_up (tx_up τ 17 k (nI (pk_ s / 2 ^ (4 * k) % 16) - 1)) 15 6 (nI (k + 1))) (nI (pk_ s)) (nI (k + 1))) := by
      rw [fx_Fitting_unpack_b7, if_neg (by rw [show (4 : Int32) = nI 4 by decide]; exact nI_ge (by omega) (by decide)), px_nib (by omega) (px_sh4 k (by omega)), px_wr rfl (by omega) (by decide), px_rd rfl (by omega) (by decide)]
      unfold fx_Fitting_unpack_b45
      rw [nI_1, px_pt]
      simp [px_up]
    by_cases hkl : k < s.1.length
    · have hnb := nib_at hn h hkl
      have hv : nI (pk_ s / 2 ^ (4 * k) % 16) - 1 = nI (s.1.getD (s.1.length - 1 - k) 0) := by rw [hnb, nI_pred]
      have hlt : s.1.getD (s.1.length - 1 - k) 0 < 2 ^ 31 := by
        have : pk_ s / 2 ^ (4 * k) % 16 < 16 := Nat.mod_lt _ (by decide)
        omega
      obtain ⟨ρ, g1, g2, g3, g4, g5, g6, g7⟩ := ih (k + 1) F (tx_up (tx_up τ 17 k (nI (pk_ s / 2 ^ (4 * k) % 16) - 1)) 15 6 (nI (k + 1))) (by omega) (by omega) (by simp [px_up]; rw [Nat.min_eq_left (by omega)])
      refine ⟨ρ, ?_, g2, fun j h1 h2 => ?_, fun j hj => ?_, g5, xe_tr (xe_tr (xe_17 τ _ (Or.inl rfl)) (xe_15 _ _ (Or.inl rfl))) g6, ?_⟩
      · rw [e0, if_neg (by rw [hv]; exact fun z => nI_pos hlt (z ▸ (by decide : (-1 : Int32) < 0)))]
        exact g1
      · by_cases hj : j = k
        · subst hj
          rw [g4 j (by omega)]
          simp [px_up]
          exact hv
        · exact g3 j (by omega) h2
      · rw [g4 j (by omega)]
        simp [px_up]
        omega
      · rw [g7]
        simp [px_up]
    · have hnb := nib_0 hn h (k := k) (by omega) (by omega)
      obtain ⟨ρ, g1, g2, g3, g4, g5, g6, g7⟩ := ih (k + 1) F (tx_up τ 17 k (nI (pk_ s / 2 ^ (4 * k) % 16) - 1)) (by omega) (by omega) (by simp [px_up]; rw [hd, Nat.min_eq_right (by omega), Nat.min_eq_right (by omega)])
      refine ⟨ρ, ?_, g2, fun j h1 h2 => by omega, fun j hj => ?_, g5, xe_tr (xe_17 τ _ (Or.inl rfl)) g6, ?_⟩
      · rw [e0, if_pos (by rw [hnb]; decide)]
        exact g1
      · rw [g4 j (by omega)]
        simp [px_up]
        omega
      · rw [g7]
        simp [px_up]
theorem xr_unpack (hn : n ≤ 10) (h : okS n s) (hg : σ 15 8 = 1) : ∃ ρ, fx_Fitting_unpack σ (nI (pk_ s)) = some ρ ∧ xe σ ρ ∧ xr ρ n (some s) := by
  have h4 := h.1
  obtain ⟨ρ, g1, g2, g3, g4, g5, g6, g7⟩ := unpack_l hn h 4 0 tx_fu (tx_up σ 15 6 0) (by omega) (by unfold tx_fu; omega) (by simp [px_up]; rfl)
  refine ⟨ρ, ?_, xe_tr (xe_15 σ 0 (Or.inl rfl)) g6, ⟨s.1.length, h4, g2, fun k hk => ?_, fun k hk => ⟨lo_ s k, lo_le h k, g5 k hk⟩⟩, (fun z => by cases z), fun s2 e => ?_⟩
  · unfold fx_Fitting_unpack
    rw [px_pt]
    exact g1
  · refine ⟨_, ?_, g3 k (Nat.zero_le _) hk⟩
    have hl : s.1.length - 1 - k < s.1.length := by omega
    rw [List.getD_eq_getElem?_getD, List.getElem?_eq_getElem hl]
    exact h.2.1 _ (List.getElem_mem hl)
  · cases e
    exact ⟨by rw [g7]; simp [px_up]; exact hg, h, g2, fun k hk => g3 k (Nat.zero_le _) hk, g5⟩
def pl_ (s : TS) : Nat → Nat
  | 0 => pkS s.1
  | 1 => pkS s.1 + s.2.1 * 16 ^ 4
  | 2 => pkS s.1 + s.2.1 * 16 ^ 4 + s.2.2.1 * 16 ^ 5
  | _ => pkS s.1 + s.2.1 * 16 ^ 4 + s.2.2.1 * 16 ^ 5 + s.2.2.2 * 16 ^ 6
theorem pl_3 (s : TS) : pl_ s 3 = pk_ s := rfl
theorem pl_0 (s : TS) : pl_ s 0 = pkS s.1 := rfl
theorem lo_0 (s : TS) : lo_ s 0 = s.2.1 := rfl
theorem lo_1 (s : TS) : lo_ s 1 = s.2.2.1 := rfl
theorem lo_2 (s : TS) : lo_ s 2 = s.2.2.2 := rfl
theorem pw_4 : (2 : Nat) ^ (4 * (0 + 4)) = 16 ^ 4 := by decide
theorem pw_5 : (2 : Nat) ^ (4 * (1 + 4)) = 16 ^ 5 := by decide
theorem pw_6 : (2 : Nat) ^ (4 * (2 + 4)) = 16 ^ 6 := by decide
theorem pl_s (s : TS) {k : Nat} (hk : k < 3) : pl_ s (k + 1) = pl_ s k + lo_ s k * 2 ^ (4 * (k + 4)) := by
  rcases (by omega : k = 0 ∨ k = 1 ∨ k = 2) with rfl | rfl | rfl
  · rw [pw_4, lo_0, pl_, pl_]
  · rw [pw_5, lo_1, pl_, pl_]
  · rw [pw_6, lo_2, pl_, pl_]
    all_goals (intro h; cases h)
theorem packed_l2 (hn : n ≤ 10) (h : okS n s) (hl : ∀ k, k < 3 → σ 18 k = nI (lo_ s k) - 1) : ∀ (r k F : Nat), k + r = 3 → r < F → fx_Fitting_packed_b35 F σ (nI (pl_ s k)) (nI k) = some (nI (pk_ s), σ) := by
  intro r
  induction r with
  | zero =>
    intro k F hk hF
    obtain ⟨F, rfl⟩ : ∃ G, F = G + 1 := ⟨F - 1, by omega⟩
    obtain rfl : k = 3 := by omega
    rw [fx_Fitting_packed_b35, if_pos (by decide), pl_3]
  | succ r ih =>
    intro k F hk hF
    obtain ⟨F, rfl⟩ : ∃ G, F = G + 1 := ⟨F - 1, by omega⟩
    have hlo := lo_le h k
    have hb : lo_ s k * 2 ^ (4 * (k + 4)) < 2 ^ 32 := by
      have h1 : 2 ^ (4 * (k + 4)) ≤ 2 ^ 24 := Nat.pow_le_pow_right (by decide) (by omega)
      have h2 : lo_ s k * 2 ^ (4 * (k + 4)) ≤ 15 * 2 ^ 24 := Nat.mul_le_mul (by omega) h1
      omega
    rw [fx_Fitting_packed_b35, if_neg (by rw [show (3 : Int32) = nI 3 by decide]; exact nI_ge (by omega) (by decide)), px_rd rfl (by omega) (by decide), hl k (by omega), Int32.sub_add_cancel, pk_shlN _ (4 * (k + 4)) (px_sh4' k (by omega)) hb, nI_add, nI_1, ← pl_s s (by omega)]
    exact ih (k + 1) F (by omega) (by omega)
theorem pkS_drop {st : List Nat} {k : Nat} (hk : k < st.length) : pkS (st.drop (st.length - (k + 1))) = pkS (st.drop (st.length - k)) + (st.getD (st.length - 1 - k) 0 + 1) * 16 ^ k := by
  have e : st.drop (st.length - (k + 1)) = st.getD (st.length - 1 - k) 0 :: st.drop (st.length - k) := by
    have hl : st.length - (k + 1) < st.length := by omega
    rw [List.drop_eq_getElem_cons hl]
    congr 1
    · rw [List.getD_eq_getElem?_getD, show st.length - 1 - k = st.length - (k + 1) by omega, List.getElem?_eq_getElem hl]
      rfl
    · congr 1
      omega
  rw [e, pkS, List.length_drop, show st.length - (st.length - k) = k by omega]
theorem packed_l (hn : n ≤ 10) (h : okS n s) (hx : xs σ s) : ∀ (r k F : Nat), k + r = s.1.length → r < F → fx_Fitting_packed_b4 F σ (nI (pkS (s.1.drop (s.1.length - k)))) (nI k) = some (nI (pk_ s), σ) := by
  have h4 := h.1
  obtain ⟨x1, x2, x3⟩ := hx
  intro r
  induction r with
  | zero =>
    intro k F hk hF
    obtain ⟨F, rfl⟩ : ∃ G, F = G + 1 := ⟨F - 1, by omega⟩
    obtain rfl : k = s.1.length := by omega
    rw [fx_Fitting_packed_b4, x1, if_pos (nI_le (Nat.le_refl _) (by omega)), Nat.sub_self, List.drop_zero]
    rw [← pl_0]
    exact packed_l2 hn h x3 3 0 tx_fu (by omega) (by unfold tx_fu; omega)
  | succ r ih =>
    intro k F hk hF
    obtain ⟨F, rfl⟩ : ∃ G, F = G + 1 := ⟨F - 1, by omega⟩
    have hlt : s.1.getD (s.1.length - 1 - k) 0 + 1 ≤ 16 := by
      rw [← nib_at hn h (by omega)]
      omega
    rw [fx_Fitting_packed_b4, x1, if_neg (nI_ge (by omega) (by omega)), px_rd rfl (by omega) (by decide), x2 k (by omega), nI_1, pk_shlN _ (4 * k) (px_sh4 k (by omega)) (by
      have h1 : 2 ^ (4 * k) ≤ 2 ^ 12 := Nat.pow_le_pow_right (by decide) (by omega)
      have h2 : (s.1.getD (s.1.length - 1 - k) 0 + 1) * 2 ^ (4 * k) ≤ 16 * 2 ^ 12 := Nat.mul_le_mul hlt h1
      omega), nI_add, nI_1, show (2 : Nat) ^ (4 * k) = 16 ^ k by rw [Nat.pow_mul], ← pkS_drop (by omega)]
    exact ih (k + 1) F (by omega) (by omega)
theorem fx_Fitting_packed_e (hn : n ≤ 10) (h : okS n s) (hx : xs σ s) : fx_Fitting_packed σ = some (nI (pk_ s), σ) := by
  have := packed_l hn h hx s.1.length 0 tx_fu (by omega) (by unfold tx_fu; have := h.1; omega)
  rw [Nat.sub_zero, List.drop_length] at this
  exact this
end PK
