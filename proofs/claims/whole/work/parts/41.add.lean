/-! The calls that add: unsealed, both sides answer alike and stay related. -/
/-- counts of runs and of the reference's objects; null has no type -/
def iv_R (σ : tx_St) : Prop := (∃ r k, r ≤ 40 ∧ σ 0 6 = nI r ∧ k ≤ 8 * r ∧ σ 45 20 = nI k) ∧ σ 22 0 = -1
/-- unsealed: nothing made, nothing held -/
def iv_Q (σ : tx_St) : Prop := ∀ n m m' : Nat, n ≤ 8 → σ 1 2 = nI n → m < n → m' < n → σ 7 m = σ 7 m' → σ 9 m = σ 9 m' → m = m'
theorem iv_Q_up {σ τ : tx_St} (h : iv_Q σ) (h1 : τ 1 2 = σ 1 2) (h7 : τ 7 = σ 7) (h9 : τ 9 = σ 9) : iv_Q τ := by
  unfold iv_Q
  rw [h1, h7, h9]
  exact h
def iv_U (σ : tx_St) : Prop := σ 0 5 = 0 ∧ σ 21 3 = 0 ∧ σ 21 4 = 0 ∧ iv_Q σ
theorem nI_8 : (8 : Int32) = nI 8 := by decide
theorem nI_12 : (12 : Int32) = nI 12 := by decide
theorem px_ne8 {n : Nat} (h : n ≤ 8) (h2 : ¬ nI n = 8) : n < 8 := by
  rcases Nat.lt_or_ge n 8 with h3 | h3
  · exact h3
  · exact absurd (by rw [show n = 8 by omega]; rfl) h2
theorem px_ne12 {n : Nat} (h : n ≤ 12) (h2 : ¬ nI n = 12) : n < 12 := by
  rcases Nat.lt_or_ge n 12 with h3 | h3
  · exact h3
  · exact absurd (by rw [show n = 12 by omega]; rfl) h2
theorem iv_cl_up {σ τ : tx_St} {c : Nat} (h : iv_cl σ c) (h2 : ∀ j, j ≤ c → τ 2 j = σ 2 j) (h3 : ∀ j, j ≤ c → τ 3 j = σ 3 j) (h46 : τ 46 c = σ 46 c) (h47 : τ 47 c = σ 47 c) : iv_cl τ c := by
  obtain ⟨hk, h⟩ := h
  refine ⟨by rw [h47]; exact hk, ?_⟩
  rcases h with ⟨a, b, d⟩ | ⟨p, hp, a, b, d⟩
  · exact Or.inl ⟨by rw [h46]; exact a, by rw [h2 c (Nat.le_refl c)]; exact b, by rw [h3 c (Nat.le_refl c), h47]; exact d⟩
  · exact Or.inr ⟨p, hp, by rw [h46]; exact a, by rw [h2 c (Nat.le_refl c), h2 p (by omega)]; exact b, by rw [h3 c (Nat.le_refl c), h3 p (by omega), h47]; exact d⟩
theorem iv_fl_up {σ τ : tx_St} {nC n2 f : Nat} (h : iv_fl σ nC f) (hn : nC ≤ n2) (h4 : τ 4 f = σ 4 f) (h5 : τ 5 f = σ 5 f) (h6 : τ 6 f = σ 6 f) : iv_fl τ n2 f := by
  obtain ⟨⟨c, hc, e1⟩, ⟨a, ha, e2⟩, ⟨t, ht, e3⟩⟩ := h
  exact ⟨⟨c, by omega, by rw [h4]; exact e1⟩, ⟨a, ha, by rw [h5]; exact e2⟩, ⟨t, by omega, by rw [h6]; exact e3⟩⟩
theorem iv_me_up {σ τ : tx_St} {nC n2 m : Nat} (h : iv_me σ nC m) (hn : nC ≤ n2) (h7 : τ 7 m = σ 7 m) (h8 : τ 8 m = σ 8 m) (h9 : τ 9 m = σ 9 m) (h10 : τ 10 m = σ 10 m) (h11 : τ 11 m = σ 11 m) (h12 : τ 12 m = σ 12 m) (h13 : ∀ i, i < 12 → τ 13 (12 * m + i) = σ 13 (12 * m + i)) : iv_me τ n2 m := by
  obtain ⟨⟨c, hc, e1⟩, ⟨a, ha, e2⟩, ⟨n, hn0, e3⟩, e4, ⟨t, ht, e5⟩, L, hL, e6, e7⟩ := h
  refine ⟨⟨c, by omega, by rw [h7]; exact e1⟩, ⟨a, ha, by rw [h8]; exact e2⟩, ⟨n, hn0, by rw [h9]; exact e3⟩, ?_, ⟨t, by omega, by rw [h11]; exact e5⟩, L, hL, by rw [h12]; exact e6, fun i hi => ?_⟩
  · rcases e4 with e4 | ⟨t, ht, e4⟩
    · exact Or.inl (by rw [h10]; exact e4)
    · exact Or.inr ⟨t, by omega, by rw [h10]; exact e4⟩
  · obtain ⟨o, ho, e⟩ := e7 i hi
    exact ⟨o, ho, by rw [h13 i (by omega)]; exact e⟩
theorem op_addClass {σ : tx_St} (hP : iv_P σ) (hR : iv_R σ) (hU : iv_U σ) (a b : Int32) : ∃ r σ1 σ2, fx_X_addClass σ a b = some (r, σ1) ∧ fx_Mo_addClass σ1 a b = some (r, σ2) ∧ iv_P σ2 ∧ iv_R σ2 ∧ iv_U σ2 := by
  have hP0 := hP
  obtain ⟨⟨⟨s0, s1, s2, s3, s4, s5, s6⟩, r1, r2, r3, r4, r5, r6, r7, r8, r9, r10, r11⟩, nC, nF, nM, ⟨hc, hf, hm⟩, ⟨k0, k1, k2⟩, hC, hF, hM⟩ := hP
  have hse := hU.1
  have hse2 : σ 45 16 = 0 := s3.trans hse
  by_cases hcl : a = -1 ∨ (¬ a < 0 ∧ ¬ σ 1 0 ≤ a)
  case neg =>
    have h1 : ¬ a = -1 := fun h => hcl (Or.inl h)
    have h2 : ¬ (¬ a < 0 ∧ ¬ σ 1 0 ≤ a) := fun h => hcl (Or.inr h)
    have h3 : ¬ (¬ a < 0 ∧ ¬ σ 45 0 ≤ a) := by rw [s0]; exact h2
    refine ⟨-1, σ, σ, ?_, ?_, hP0, hR, hU⟩
    · unfold fx_X_addClass fx_X_addClass_b31 fx_X_addClass_b45
      rw [if_pos hse, if_neg h1, fx_Plan_isClass_e, px_ci, b01_f h2, if_pos rfl, if_pos rfl]
    · unfold fx_Mo_addClass fx_Mo_addClass_b32
      rw [if_pos hse2, if_neg h1, fx_Mo_isClass_e, px_ci, b01_f h3, if_pos rfl]
  case pos =>
    have hx : fx_X_addClass σ a b = fx_X_addClass_b26 σ a b := by
      unfold fx_X_addClass
      rw [if_pos hse]
      by_cases h1 : a = -1
      · rw [if_pos h1]
      · rw [if_neg h1, fx_Plan_isClass_e, px_ci, b01_t (hcl.resolve_left h1), if_neg (by decide)]
    have hm2 : ∀ τ : tx_St, τ 45 0 = σ 45 0 → τ 45 16 = σ 45 16 → fx_Mo_addClass τ a b = fx_Mo_addClass_b23 τ a b := by
      intro τ t0 t1
      unfold fx_Mo_addClass
      rw [t1, if_pos hse2]
      by_cases h1 : a = -1
      · rw [if_pos h1]
      · rw [if_neg h1, fx_Mo_isClass_e, px_ci, t0, s0, b01_t (hcl.resolve_left h1), if_neg (by decide)]
    by_cases hb : ¬ b < 0 ∧ b ≤ 3
    case neg =>
      refine ⟨-1, σ, σ, ?_, ?_, hP0, hR, hU⟩
      · rw [hx]
        unfold fx_X_addClass_b26 fx_X_addClass_b31 fx_X_addClass_b45
        rw [if_neg (by decide)]
        by_cases h1 : b < 0
        · rw [if_pos h1]
        · rw [if_neg h1, if_neg (fun h => hb ⟨h1, h⟩)]
      · rw [hm2 σ rfl rfl]
        unfold fx_Mo_addClass_b23 fx_Mo_addClass_b32
        by_cases h1 : b < 0
        · rw [if_pos h1]
        · rw [if_neg h1, if_neg (fun h => hb ⟨h1, h⟩)]
    case pos =>
      by_cases h8 : σ 1 0 = 8
      · refine ⟨-2, σ, σ, ?_, ?_, hP0, hR, hU⟩
        · rw [hx]
          unfold fx_X_addClass_b26 fx_X_addClass_b31
          rw [if_neg (by decide), if_neg hb.1, if_pos hb.2, if_pos h8]
        · rw [hm2 σ rfl rfl]
          unfold fx_Mo_addClass_b23
          rw [if_neg hb.1, if_pos hb.2, s0, if_pos h8]
      · have hn8 : nC < 8 := px_ne8 hc (k0 ▸ h8)
        -- the line and the marks of the parent
        obtain ⟨L, K, hnew, hLK⟩ : ∃ L K, fx_Plan_newClass σ a b = some (nI nC, tx_up (tx_up (tx_up σ 2 nC (L ||| ((1 : Int32) <<< (nI nC &&& 31)))) 3 nC (K ||| b)) 1 0 (nI nC + 1)) ∧ ((a = -1 ∧ L = 0 ∧ K = 0) ∨ ∃ p, p < nC ∧ a = nI p ∧ L = σ 2 p ∧ K = σ 3 p) := by
          have fin : ∀ L K : Int32, fx_Plan_newClass_b37 σ b (σ 1 0) L K = some (nI nC, tx_up (tx_up (tx_up σ 2 nC (L ||| ((1 : Int32) <<< (nI nC &&& 31)))) 3 nC (K ||| b)) 1 0 (nI nC + 1)) := by
            intro L K
            unfold fx_Plan_newClass_b37
            rw [px_wr k0 hn8 (by decide), px_wr k0 hn8 (by decide), px_pt, k0]
            simp [px_up, k0]
          by_cases h1 : a = -1
          · refine ⟨0, 0, ?_, Or.inl ⟨h1, rfl, rfl⟩⟩
            unfold fx_Plan_newClass fx_Plan_newClass_b20
            rw [if_pos h1, if_pos h1, fin]
          · obtain ⟨p, hp, e⟩ := (px_in (by omega)).mp (k0 ▸ hcl.resolve_left h1)
            refine ⟨σ 2 p, σ 3 p, ?_, Or.inr ⟨p, hp, e, rfl, rfl⟩⟩
            unfold fx_Plan_newClass fx_Plan_newClass_b20
            rw [if_neg h1, px_rd e (by omega) (by decide), if_neg h1, px_rd e (by omega) (by decide), fin]
        obtain ⟨bk, hbk, ebk⟩ := nI_of2 (M := 3) (n := 3) (by decide) hb.1 hb.2
        refine ⟨nI nC, tx_up (tx_up (tx_up σ 2 nC (L ||| ((1 : Int32) <<< (nI nC &&& 31)))) 3 nC (K ||| b)) 1 0 (nI nC + 1), tx_up (tx_up (tx_up (tx_up (tx_up (tx_up σ 2 nC (L ||| ((1 : Int32) <<< (nI nC &&& 31)))) 3 nC (K ||| b)) 1 0 (nI nC + 1)) 46 nC a) 47 nC b) 45 0 (nI nC + 1), ?_, ?_, ?_, ?_, ?_⟩
        · rw [hx]
          unfold fx_X_addClass_b26 fx_X_addClass_b31
          rw [if_neg (by decide), if_neg hb.1, if_pos hb.2, if_neg h8, hnew, px_ci]
        · rw [hm2 _ (by simp [px_up]) (by simp [px_up])]
          unfold fx_Mo_addClass_b23
          rw [if_neg hb.1, if_pos hb.2, if_neg (by simp [px_up, s0]; exact h8), px_wr (j := nC) (by simp [px_up, s0, k0]) hn8 (by decide), px_wr (j := nC) (by simp [px_up, s0, k0]) hn8 (by decide), px_pt]
          simp [px_up, s0, k0, nI_1, nI_pred]
        · refine ⟨⟨⟨?_, ?_, ?_, ?_, ?_, ?_, ?_⟩, ?_, ?_, ?_, ?_, ?_, ?_, ?_, ?_, ?_, ?_, ?_⟩, nC + 1, nF, nM, ⟨by omega, hf, hm⟩, ⟨?_, ?_, ?_⟩, ?_, ?_, ?_⟩
          all_goals first | (simp [tx_up, upd, s0, s1, s2, s3, s4, s5, s6, r1, r2, r3, r4, r5, r6, r7, r8, r9, r10, r11, k0, k1, k2, nI_1]; done) | skip
          · intro c hlt
            rcases Nat.lt_or_ge c nC with h | h
            · exact iv_cl_up (hC c h) (fun j hj => by simp [px_up]; omega) (fun j hj => by simp [px_up]; omega) (by simp [px_up]; omega) (by simp [px_up]; omega)
            · have : c = nC := by omega
              subst this
              refine ⟨⟨bk, hbk, by simp [px_up]; exact ebk⟩, ?_⟩
              rcases hLK with ⟨e1, rfl, rfl⟩ | ⟨p, hp, e1, rfl, rfl⟩
              · exact Or.inl ⟨by simp [px_up]; exact e1, by simp [px_up], by simp [px_up]⟩
              · have hpc : ¬ p = c := by omega
                exact Or.inr ⟨p, hp, by simp [px_up]; exact e1, by simp [px_up, hpc], by simp [px_up, hpc]⟩
          · intro f h
            exact iv_fl_up (hF f h) (by omega) (by simp [px_up]) (by simp [px_up]) (by simp [px_up])
          · intro m h
            exact iv_me_up (hM m h) (by omega) (by simp [px_up]) (by simp [px_up]) (by simp [px_up]) (by simp [px_up]) (by simp [px_up]) (by simp [px_up]) (fun i _ => by simp [px_up])
        · obtain ⟨⟨r, k, h1, h2, h3, h4⟩, h5⟩ := hR
          exact ⟨⟨r, k, h1, by simp [px_up]; exact h2, h3, by simp [px_up]; exact h4⟩, by simp [px_up]; exact h5⟩
        · exact ⟨by simp [px_up]; exact hU.1, by simp [px_up]; exact hU.2.1, by simp [px_up]; exact hU.2.2.1, iv_Q_up hU.2.2.2 (by simp [px_up]) (by simp [tx_up]) (by simp [tx_up])⟩
