theorem fx_Plan_isMethod_e (σ : tx_St) (x : Int32) : fx_Plan_isMethod σ x = some (b01 (¬ x < 0 ∧ ¬ σ 1 2 ≤ x), σ) := by
  unfold fx_Plan_isMethod fx_Plan_isMethod_b16 fx_Plan_isMethod_b17
  by_cases h1 : x < 0
  · rw [if_pos h1, px_rz (Or.inl rfl), b01_f (fun h => h.1 h1)]
  · rw [if_neg h1]
    by_cases h2 : σ 1 2 ≤ x
    · rw [if_pos h2, px_rz (Or.inl rfl), b01_f (fun h => h.2 h2)]
    · rw [if_neg h2, px_rz (Or.inr rfl), b01_t ⟨h1, h2⟩]
theorem fx_Mo_isMethod_e (σ : tx_St) (x : Int32) : fx_Mo_isMethod σ x = some (b01 (¬ x < 0 ∧ ¬ σ 45 7 ≤ x), σ) := by
  unfold fx_Mo_isMethod fx_Mo_isMethod_b16 fx_Mo_isMethod_b17
  by_cases h1 : x < 0
  · rw [if_pos h1, px_rz (Or.inl rfl), b01_f (fun h => h.1 h1)]
  · rw [if_neg h1]
    by_cases h2 : σ 45 7 ≤ x
    · rw [if_pos h2, px_rz (Or.inl rfl), b01_f (fun h => h.2 h2)]
    · rw [if_neg h2, px_rz (Or.inr rfl), b01_t ⟨h1, h2⟩]
theorem px_ix12 (m L : Nat) : nI m * 12 + nI L = nI (12 * m + L) := by
  rw [show (12 : Int32) = nI 12 by decide, pk_mul, nI_add, Nat.mul_comm]
theorem px_ix12' (m L : Nat) : 12 * nI m + nI L = nI (12 * m + L) := by
  rw [show (12 : Int32) = nI 12 by decide, pk_mul, nI_add]
theorem op_emit {σ : tx_St} (hP : iv_P σ) (hR : iv_R σ) (hU : iv_U σ) (a b d : Int32) : ∃ r σ1 σ2, fx_X_emit σ a b d = some (r, σ1) ∧ fx_Mo_emit σ1 a b d = some (r, σ2) ∧ iv_P σ2 ∧ iv_R σ2 ∧ iv_U σ2 := by
  have hP0 := hP
  obtain ⟨⟨⟨s0, s1, s2, s3, s4, s5, s6⟩, r1, r2, r3, r4, r5, r6, r7, r8, r9, r10, r11⟩, nC, nF, nM, ⟨hc, hf, hm⟩, ⟨k0, k1, k2⟩, hC, hF, hM⟩ := hP
  have hse := hU.1
  have hse2 : σ 45 16 = 0 := s3.trans hse
  have hMe : ∀ τ : tx_St, τ 45 7 = σ 45 7 → fx_Mo_isMethod τ a = some (b01 (¬ a < 0 ∧ ¬ σ 1 2 ≤ a), τ) := fun τ t0 => by
    rw [fx_Mo_isMethod_e, t0, s2]
  by_cases g : (¬ a < 0 ∧ ¬ σ 1 2 ≤ a) ∧ ¬ b < 0 ∧ b ≤ 19
  case neg =>
    refine ⟨-1, σ, σ, ?_, ?_, hP0, hR, hU⟩
    · unfold fx_X_emit fx_X_emit_b31
      rw [if_pos hse, fx_Plan_isMethod_e, px_ci]
      by_cases g1 : (¬ a < 0 ∧ ¬ σ 1 2 ≤ a)
      · rw [b01_t g1, if_neg (by decide)]
        by_cases g2 : b < 0
        · rw [if_pos g2]
        · rw [if_neg g2, if_neg (fun g3 => g ⟨g1, g2, g3⟩)]
      · rw [b01_f g1, if_pos rfl]
    · unfold fx_Mo_emit fx_Mo_emit_b28
      rw [if_pos hse2, hMe σ rfl, px_ci]
      by_cases g1 : (¬ a < 0 ∧ ¬ σ 1 2 ≤ a)
      · rw [b01_t g1, if_neg (by decide)]
        by_cases g2 : b < 0
        · rw [if_pos g2]
        · rw [if_neg g2, if_neg (fun g3 => g ⟨g1, g2, g3⟩)]
      · rw [b01_f g1, if_pos rfl]
  case pos =>
    obtain ⟨g1, g2, g3⟩ := g
    obtain ⟨m, hmm, rfl⟩ := (px_in (by omega)).mp (k2 ▸ g1)
    have hMm := hM m hmm
    obtain ⟨q1, q2, q3, q4, q5, L, hL, eL, hops⟩ := hMm
    obtain ⟨ob, hob, eob⟩ := nI_of2 (x := b) (M := 19) (n := 19) (by decide) g2 g3
    by_cases h12 : σ 12 m = 12
    · refine ⟨-2, σ, σ, ?_, ?_, hP0, hR, hU⟩
      · unfold fx_X_emit
        rw [if_pos hse, fx_Plan_isMethod_e, px_ci, b01_t g1, if_neg (by decide), if_neg g2, if_pos g3, px_rd (j := m) rfl (by omega) (by decide), if_pos h12]
      · unfold fx_Mo_emit
        rw [if_pos hse2, hMe σ rfl, px_ci, b01_t g1, if_neg (by decide), if_neg g2, if_pos g3, px_rd (j := m) rfl (by omega) (by decide), r9, if_pos h12]
    · have hL12 : L < 12 := px_ne12 hL (eL ▸ h12)
      have hi : 12 * m + L < 96 := by omega
      have hnew : fx_Plan_newInstruction σ (nI m) b d = some (nI L, tx_up (tx_up (tx_up σ 13 (12 * m + L) b) 14 (12 * m + L) d) 12 m (nI L + 1)) := by
        unfold fx_Plan_newInstruction
        rw [px_rd (j := m) rfl (by omega) (by decide), eL, px_ix12, px_wr (j := 12 * m + L) rfl hi (by decide), px_wr (j := 12 * m + L) rfl hi (by decide), px_rd (j := m) rfl (by omega) (by decide), px_wr (j := m) rfl (by omega) (by decide)]
        simp [px_up, eL]
      refine ⟨nI L, tx_up (tx_up (tx_up σ 13 (12 * m + L) b) 14 (12 * m + L) d) 12 m (nI L + 1), tx_up (tx_up (tx_up (tx_up (tx_up (tx_up σ 13 (12 * m + L) b) 14 (12 * m + L) d) 12 m (nI L + 1)) 57 (12 * m + L) b) 58 (12 * m + L) d) 56 m (nI L + 1), ?_, ?_, ?_, ?_, ?_⟩
      · unfold fx_X_emit
        rw [if_pos hse, fx_Plan_isMethod_e, px_ci, b01_t g1, if_neg (by decide), if_neg g2, if_pos g3, px_rd (j := m) rfl (by omega) (by decide), if_neg h12, hnew, px_ci]
      · have e56 : (tx_up (tx_up (tx_up σ 13 (12 * m + L) b) 14 (12 * m + L) d) 12 m (nI L + 1)) 56 m = nI L := by
          simp [px_up, r9, eL]
        unfold fx_Mo_emit
        rw [if_pos (by simp [px_up]; exact hse2), hMe _ (by simp [px_up]), px_ci, b01_t g1, if_neg (by decide), if_neg g2, if_pos g3, px_rd (j := m) rfl (by omega) (by decide), px_rd (j := m) rfl (by omega) (by decide), e56, if_neg (by rw [← eL]; exact h12), px_ix12', px_wr (j := 12 * m + L) rfl hi (by decide), px_wr (j := 12 * m + L) rfl hi (by decide), px_wr (j := m) rfl (by omega) (by decide)]
      · refine ⟨⟨⟨?_, ?_, ?_, ?_, ?_, ?_, ?_⟩, ?_, ?_, ?_, ?_, ?_, ?_, ?_, ?_, ?_, ?_, ?_⟩, nC, nF, nM, ⟨hc, hf, hm⟩, ⟨?_, ?_, ?_⟩, ?_, ?_, ?_⟩
        all_goals first | (simp [tx_up, upd, s0, s1, s2, s3, s4, s5, s6, r1, r2, r3, r4, r5, r6, r7, r8, r9, r10, r11, k0, k1, k2, nI_1]; done) | skip
        · intro c hlt
          exact iv_cl_up (hC c hlt) (fun j hj => by simp [px_up]) (fun j hj => by simp [px_up]) (by simp [px_up]) (by simp [px_up])
        · intro f h
          exact iv_fl_up (hF f h) (Nat.le_refl _) (by simp [px_up]) (by simp [px_up]) (by simp [px_up])
        · intro m2 hlt
          by_cases h : m2 = m
          · subst h
            refine ⟨by simpa [px_up] using q1, by simpa [px_up] using q2, by simpa [px_up] using q3, by simpa [px_up] using q4, by simpa [px_up] using q5, L + 1, by omega, by simp [px_up, nI_1], fun i hi2 => ?_⟩
            by_cases h2 : i = L
            · subst h2
              exact ⟨ob, hob, by simp [px_up]; exact eob⟩
            · obtain ⟨o, ho, e⟩ := hops i (by omega)
              exact ⟨o, ho, by simp [px_up, h2]; exact e⟩
          · refine iv_me_up (hM m2 hlt) (Nat.le_refl _) (by simp [px_up]) (by simp [px_up]) (by simp [px_up]) (by simp [px_up]) (by simp [px_up]) (by simp [px_up, h]) (fun i hi2 => ?_)
            have : ¬ 12 * m2 + i = 12 * m + L := by omega
            simp [px_up, this]
      · obtain ⟨⟨r, k, h1, h2, h3, h4⟩, h5⟩ := hR
        exact ⟨⟨r, k, h1, by simp [px_up]; exact h2, h3, by simp [px_up]; exact h4⟩, by simp [px_up]; exact h5⟩
      · exact ⟨by simp [px_up]; exact hU.1, by simp [px_up]; exact hU.2.1, by simp [px_up]; exact hU.2.2.1, iv_Q_up hU.2.2.2 (by simp [px_up]) (by simp [tx_up]) (by simp [tx_up])⟩
theorem op_clear {σ : tx_St} (hP : iv_P σ) (hR : iv_R σ) : ∃ σ1 σ2, fx_X_clear σ = some σ1 ∧ fx_Mo_clear σ1 = some σ2 ∧ iv_P σ2 ∧ iv_R σ2 ∧ iv_U σ2 := by
  obtain ⟨⟨⟨s0, s1, s2, s3, s4, s5, s6⟩, r1, r2, r3, r4, r5, r6, r7, r8, r9, r10, r11⟩, -⟩ := hP
  refine ⟨tx_up (tx_up (tx_up (tx_up (tx_up (tx_up σ 1 0 0) 1 1 0) 1 2 0) 21 3 0) 21 4 0) 0 5 0, tx_up (tx_up (tx_up (tx_up (tx_up (tx_up (tx_up (tx_up (tx_up (tx_up (tx_up σ 1 0 0) 1 1 0) 1 2 0) 21 3 0) 21 4 0) 0 5 0) 45 0 0) 45 3 0) 45 7 0) 45 23 0) 45 16 0, ?_, ?_, ?_, ?_, ?_⟩
  · unfold fx_X_clear fx_Plan_forgetAll fx_Heap_forgetAll
    rw [px_pt, px_pt, px_pt, px_cv, px_pt, px_pt, px_cv, px_pz (Or.inl rfl)]
  · unfold fx_Mo_clear
    rw [px_pt, px_pt, px_pt, px_pt, px_pz (Or.inl rfl)]
  · refine ⟨⟨⟨?_, ?_, ?_, ?_, ?_, ?_, ?_⟩, ?_, ?_, ?_, ?_, ?_, ?_, ?_, ?_, ?_, ?_, ?_⟩, 0, 0, 0, ⟨by omega, by omega, by omega⟩, ⟨?_, ?_, ?_⟩, fun c h => by omega, fun c h => by omega, fun c h => by omega⟩
    all_goals (simp [tx_up, upd, s0, s1, s2, s3, s4, s5, s6, r1, r2, r3, r4, r5, r6, r7, r8, r9, r10, r11, nI_0]; done)
  · obtain ⟨⟨r, k, h1, h2, h3, h4⟩, h5⟩ := hR
    exact ⟨⟨r, k, h1, by simp [px_up]; exact h2, h3, by simp [px_up]; exact h4⟩, by simp [px_up]; exact h5⟩
  · refine ⟨by simp [px_up], by simp [px_up], by simp [px_up], fun n m m' hn hnn hm => ?_⟩
    simp [px_up] at hnn
    have : n = 0 := ((nI_eq (a := 0) (by decide) (by omega)).mp hnn).symm
    omega
theorem op_runs {σ : tx_St} (hP : iv_P σ) : fx_X_runs σ = some (σ 0 6, σ) ∧ fx_Mo_runs σ = some (σ 0 6, σ) := by
  refine ⟨rfl, ?_⟩
  unfold fx_Mo_runs
  rw [hP.1.1.2.2.2.2.1]
theorem op_steps {σ : tx_St} (hP : iv_P σ) : fx_X_steps σ = some (σ 0 7, σ) ∧ fx_Mo_steps σ = some (σ 0 7, σ) := by
  refine ⟨rfl, ?_⟩
  unfold fx_Mo_steps
  rw [hP.1.1.2.2.2.2.2.1]
