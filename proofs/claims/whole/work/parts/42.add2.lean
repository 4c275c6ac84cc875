theorem px_toInt_lt (x : Int32) : x.toInt < 2147483648 := by
  have := Int32.toInt_lt x
  omega
theorem px_le_toInt (x : Int32) : -2147483648 ≤ x.toInt := by
  have := Int32.le_toInt x
  omega
theorem px_subT {x : Int32} {k : Nat} (hk : k < 2 ^ 31) (h : nI k ≤ x) : (x - nI k).toInt = x.toInt - k := by
  rw [Int32.le_iff_toInt_le, nI_toInt hk] at h
  have h1 := px_toInt_lt x
  rw [Int32.toInt_sub, nI_toInt hk]
  rw [Int.bmod_eq_of_le (by omega) (by omega)]
theorem fx_Plan_isType_e (σ : tx_St) (x : Int32) : fx_Plan_isType σ x = some (b01 (¬ x < 0 ∧ ¬ (2 : Int32) + σ 1 0 ≤ x), σ) := by
  unfold fx_Plan_isType fx_Plan_isType_b18 fx_Plan_isType_b19
  by_cases h1 : x < 0
  · rw [if_pos h1, px_rz (Or.inl rfl), b01_f (fun h => h.1 h1)]
  · rw [if_neg h1]
    by_cases h2 : (2 : Int32) + σ 1 0 ≤ x
    · rw [if_pos h2, px_rz (Or.inl rfl), b01_f (fun h => h.2 h2)]
    · rw [if_neg h2, px_rz (Or.inr rfl), b01_t ⟨h1, h2⟩]
theorem fx_Mo_isType_e {σ : tx_St} {nC : Nat} (hn : nC ≤ 8) (k0 : σ 45 0 = nI nC) (x : Int32) : fx_Mo_isType σ x = some (b01 (¬ x < 0 ∧ ¬ (2 : Int32) + nI nC ≤ x), σ) := by
  have e2 : (2 : Int32) + nI nC = nI (nC + 2) := by
    rw [show (2 : Int32) = nI 2 by decide, nI_add, Nat.add_comm]
  unfold fx_Mo_isType fx_Mo_isType_b24 fx_Mo_isType_b28 fx_Mo_isType_b29
  rw [e2]
  rcases pk_ix x (n := nC + 2) (by omega) with h | h | ⟨j, hj, rfl⟩
  · have h0 : ¬ x = 0 := by
      rintro rfl
      exact absurd h (by decide)
    have h1 : ¬ x = 1 := by
      rintro rfl
      exact absurd h (by decide)
    have h2 : x < 2 := by
      rw [Int32.lt_iff_toInt_lt] at h ⊢
      have : (0 : Int32).toInt = 0 := by decide
      have : (2 : Int32).toInt = 2 := by decide
      omega
    rw [if_neg h0, if_neg h1, if_pos h2, px_rz (Or.inl rfl), b01_f (fun z => z.1 h)]
  · have hb : ¬ (¬ x < 0 ∧ ¬ nI (nC + 2) ≤ x) := fun z => z.2 h
    have hT := h
    rw [Int32.le_iff_toInt_le, nI_toInt (by omega)] at hT
    have h0 : ¬ x = 0 := by
      rintro rfl
      have : (0 : Int32).toInt = 0 := by decide
      omega
    have h1 : ¬ x = 1 := by
      rintro rfl
      have : (1 : Int32).toInt = 1 := by decide
      omega
    have h2 : ¬ x < 2 := by
      rw [Int32.lt_iff_toInt_lt]
      have : (2 : Int32).toInt = 2 := by decide
      omega
    have h3 : nI 2 ≤ x := by
      rw [Int32.le_iff_toInt_le, nI_toInt (by omega)]
      omega
    have h4 : ¬ (¬ x - 2 < 0 ∧ ¬ σ 45 0 ≤ x - 2) := by
      rintro ⟨-, z⟩
      apply z
      rw [k0, Int32.le_iff_toInt_le, nI_toInt (by omega), show (2 : Int32) = nI 2 by decide, px_subT (by decide) h3]
      omega
    rw [if_neg h0, if_neg h1, if_neg h2, fx_Mo_isClass_e, px_ci, b01_f h4, if_pos rfl, px_rz (Or.inl rfl), b01_f hb]
  · have hg : ¬ nI j < 0 ∧ ¬ nI (nC + 2) ≤ nI j := ⟨nI_pos (by omega), nI_ge hj (by omega)⟩
    rw [b01_t hg]
    by_cases h0 : nI j = 0
    · rw [if_pos h0, px_rz (Or.inr rfl)]
    · by_cases h1 : nI j = 1
      · rw [if_neg h0, if_pos h1, px_rz (Or.inr rfl)]
      · have j0 : j ≠ 0 := fun z => h0 (by rw [z]; rfl)
        have j1 : j ≠ 1 := fun z => h1 (by rw [z]; rfl)
        have h2 : ¬ nI j < 2 := by
          rw [show (2 : Int32) = nI 2 by decide, nI_ltI (by omega) (by omega)]
          omega
        have h4 : ¬ nI j - 2 < 0 ∧ ¬ σ 45 0 ≤ nI j - 2 := by
          rw [k0, show (2 : Int32) = nI 2 by decide, pk_sub (by omega)]
          exact ⟨nI_pos (by omega), nI_ge (by omega) (by omega)⟩
        rw [if_neg h0, if_neg h1, if_neg h2, fx_Mo_isClass_e, px_ci, b01_t h4, if_neg (by decide), px_rz (Or.inr rfl)]
theorem px_upN {σ : tx_St} {k j : Nat} {x : Int32} {c i : Nat} (h : c ≠ k ∨ i ≠ j) : tx_up σ k j x c i = σ c i := by
  rw [px_up]
  by_cases h1 : c = k
  · subst h1
    rw [if_pos rfl, if_neg (h.resolve_left (fun z => z rfl))]
  · rw [if_neg h1]
theorem op_addField {σ : tx_St} (hP : iv_P σ) (hR : iv_R σ) (hU : iv_U σ) (a b d : Int32) : ∃ r σ1 σ2, fx_X_addField σ a b d = some (r, σ1) ∧ fx_Mo_addField σ1 a b d = some (r, σ2) ∧ iv_P σ2 ∧ iv_R σ2 ∧ iv_U σ2 := by
  have hP0 := hP
  obtain ⟨⟨⟨s0, s1, s2, s3, s4, s5, s6⟩, r1, r2, r3, r4, r5, r6, r7, r8, r9, r10, r11⟩, nC, nF, nM, ⟨hc, hf, hm⟩, ⟨k0, k1, k2⟩, hC, hF, hM⟩ := hP
  have hse := hU.1
  have hse2 : σ 45 16 = 0 := s3.trans hse
  have hTy : ∀ τ : tx_St, τ 45 0 = σ 45 0 → fx_Mo_isType τ d = some (b01 (¬ d < 0 ∧ ¬ (2 : Int32) + σ 1 0 ≤ d), τ) := fun τ t0 => by
    rw [fx_Mo_isType_e hc (t0.trans (s0.trans k0)), k0]
  have hCl : ∀ τ : tx_St, τ 45 0 = σ 45 0 → fx_Mo_isClass τ a = some (b01 (¬ a < 0 ∧ ¬ σ 1 0 ≤ a), τ) := fun τ t0 => by
    rw [fx_Mo_isClass_e, t0, s0]
  by_cases g : ((¬ a < 0 ∧ ¬ σ 1 0 ≤ a) ∧ ¬ b < 0 ∧ ¬ (3 : Int32) < b) ∧ (¬ d < 0 ∧ ¬ (2 : Int32) + σ 1 0 ≤ d)
  case neg =>
    refine ⟨-1, σ, σ, ?_, ?_, hP0, hR, hU⟩
    · unfold fx_X_addField fx_X_addField_b41
      rw [if_pos hse, fx_Plan_isClass_e, px_ci, fx_Plan_isType_e, px_ci]
      by_cases g1 : (¬ a < 0 ∧ ¬ σ 1 0 ≤ a)
      · rw [b01_t g1, if_neg (by decide)]
        by_cases g2 : b < 0
        · rw [if_pos g2]
        · rw [if_neg g2]
          by_cases g3 : (3 : Int32) < b
          · rw [if_pos g3]
          · rw [if_neg g3, b01_f (fun z => g ⟨⟨g1, g2, g3⟩, z⟩), if_pos rfl]
      · rw [b01_f g1, if_pos rfl]
    · unfold fx_Mo_addField fx_Mo_addField_b35
      rw [if_pos hse2, hCl σ rfl, px_ci, hTy σ rfl, px_ci]
      by_cases g1 : (¬ a < 0 ∧ ¬ σ 1 0 ≤ a)
      · rw [b01_t g1, if_neg (by decide)]
        by_cases g2 : b < 0
        · rw [if_pos g2]
        · rw [if_neg g2]
          by_cases g3 : (3 : Int32) < b
          · rw [if_pos g3]
          · rw [if_neg g3, b01_f (fun z => g ⟨⟨g1, g2, g3⟩, z⟩), if_pos rfl]
      · rw [b01_f g1, if_pos rfl]
  case pos =>
    obtain ⟨⟨g1, g2, g3⟩, g4⟩ := g
    by_cases h12 : σ 1 1 = 12
    · refine ⟨-2, σ, σ, ?_, ?_, hP0, hR, hU⟩
      · unfold fx_X_addField
        rw [if_pos hse, fx_Plan_isClass_e, px_ci, fx_Plan_isType_e, px_ci, b01_t g1, if_neg (by decide), if_neg g2, if_neg g3, b01_t g4, if_neg (by decide), if_pos h12]
      · unfold fx_Mo_addField
        rw [if_pos hse2, hCl σ rfl, px_ci, hTy σ rfl, px_ci, b01_t g1, if_neg (by decide), if_neg g2, if_neg g3, b01_t g4, if_neg (by decide), if_pos (s1.trans h12)]
    · have hn : nF < 12 := px_ne12 hf (k1 ▸ h12)
      obtain ⟨ca, hca, ea⟩ := (px_in (by omega)).mp (k0 ▸ g1)
      obtain ⟨bk, hbk, ebk⟩ := nI_of2 (x := b) (M := 3) (n := 3) (by decide) g2 (by rw [Int32.le_iff_toInt_le]; rw [Int32.lt_iff_toInt_lt] at g3; omega)
      obtain ⟨td, htd, etd⟩ : ∃ t, t < nC + 2 ∧ d = nI t := (px_in (by omega)).mp (by rw [k0, show (2 : Int32) = nI 2 by decide, nI_add, Nat.add_comm] at g4; exact g4)
      have hnew : fx_Plan_newField σ a b d = some (nI nF, tx_up (tx_up (tx_up (tx_up σ 4 nF a) 5 nF b) 6 nF d) 1 1 (nI nF + 1)) := by
        unfold fx_Plan_newField
        rw [px_wr k1 hn (by decide), px_wr k1 hn (by decide), px_wr k1 hn (by decide), px_pt, k1]
        simp [px_up, k1]
      refine ⟨nI nF, tx_up (tx_up (tx_up (tx_up σ 4 nF a) 5 nF b) 6 nF d) 1 1 (nI nF + 1), tx_up (tx_up (tx_up (tx_up (tx_up (tx_up (tx_up (tx_up σ 4 nF a) 5 nF b) 6 nF d) 1 1 (nI nF + 1)) 48 nF a) 49 nF b) 50 nF d) 45 3 (nI nF + 1), ?_, ?_, ?_, ?_, ?_⟩
      · unfold fx_X_addField
        rw [if_pos hse, fx_Plan_isClass_e, px_ci, fx_Plan_isType_e, px_ci, b01_t g1, if_neg (by decide), if_neg g2, if_neg g3, b01_t g4, if_neg (by decide), if_neg h12, hnew, px_ci]
      · unfold fx_Mo_addField
        rw [if_pos (by simp [px_up]; exact hse2), hCl _ (by simp [px_up]), px_ci, hTy _ (by simp [px_up]), px_ci, b01_t g1, if_neg (by decide), if_neg g2, if_neg g3, b01_t g4, if_neg (by decide), if_neg (by simp [px_up, s1]; exact h12),
          px_wr (j := nF) (by simp [px_up, s1, k1]) hn (by decide), px_wr (j := nF) (by simp [px_up, s1, k1]) hn (by decide), px_wr (j := nF) (by simp [px_up, s1, k1]) hn (by decide), px_pt]
        simp [px_up, s1, k1, nI_1, nI_pred]
      · refine ⟨⟨⟨?_, ?_, ?_, ?_, ?_, ?_, ?_⟩, ?_, ?_, ?_, ?_, ?_, ?_, ?_, ?_, ?_, ?_, ?_⟩, nC, nF + 1, nM, ⟨hc, by omega, hm⟩, ⟨?_, ?_, ?_⟩, ?_, ?_, ?_⟩
        all_goals first | (simp [tx_up, upd, s0, s1, s2, s3, s4, s5, s6, r1, r2, r3, r4, r5, r6, r7, r8, r9, r10, r11, k0, k1, k2, nI_1]; done) | skip
        · intro c hlt
          exact iv_cl_up (hC c hlt) (fun j hj => by simp [px_up]) (fun j hj => by simp [px_up]) (by simp [px_up]) (by simp [px_up])
        · intro f hlt
          rcases Nat.lt_or_ge f nF with h | h
          · exact iv_fl_up (hF f h) (Nat.le_refl _) (by simp [px_up]; omega) (by simp [px_up]; omega) (by simp [px_up]; omega)
          · have : f = nF := by omega
            subst this
            exact ⟨⟨ca, hca, by simp [px_up]; exact ea⟩, ⟨bk, hbk, by simp [px_up]; exact ebk⟩, ⟨td, htd, by simp [px_up]; exact etd⟩⟩
        · intro m h
          exact iv_me_up (hM m h) (Nat.le_refl _) (by simp [px_up]) (by simp [px_up]) (by simp [px_up]) (by simp [px_up]) (by simp [px_up]) (by simp [px_up]) (fun i _ => by simp [px_up])
      · obtain ⟨⟨r, k, h1, h2, h3, h4⟩, h5⟩ := hR
        exact ⟨⟨r, k, h1, by simp [px_up]; exact h2, h3, by simp [px_up]; exact h4⟩, by simp [px_up]; exact h5⟩
      · exact ⟨by simp [px_up]; exact hU.1, by simp [px_up]; exact hU.2.1, by simp [px_up]; exact hU.2.2.1, iv_Q_up hU.2.2.2 (by simp [px_up]) (by simp [tx_up]) (by simp [tx_up])⟩
