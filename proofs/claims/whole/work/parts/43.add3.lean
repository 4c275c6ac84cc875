/-- the first place from i on, of k places, where both rows hold what is looked for -/
def px_find (f g : Nat → Int32) (c n : Int32) : Nat → Nat → Int32
  | _, 0 => -1
  | i, k + 1 => if f i = c ∧ g i = n then nI i else px_find f g c n (i + 1) k
theorem px_find_r {f g : Nat → Int32} {c n : Int32} : ∀ (k i : Nat), px_find f g c n i k = -1 ∨ ∃ m, m < i + k ∧ px_find f g c n i k = nI m ∧ f m = c ∧ g m = n
  | 0, i => Or.inl rfl
  | k + 1, i => by
    unfold px_find
    by_cases h : f i = c ∧ g i = n
    · rw [if_pos h]
      exact Or.inr ⟨i, by omega, rfl, h.1, h.2⟩
    · rw [if_neg h]
      rcases px_find_r (f := f) (g := g) (c := c) (n := n) k (i + 1) with h2 | ⟨m, h2, h3, h4⟩
      · exact Or.inl h2
      · exact Or.inr ⟨m, by omega, h3, h4⟩
theorem px_find_no {f g : Nat → Int32} {c n : Int32} : ∀ (k i : Nat), i + k < 2 ^ 31 → px_find f g c n i k = -1 → ∀ m, i ≤ m → m < i + k → ¬ (f m = c ∧ g m = n)
  | 0, i, _, _, m, h1, h2 => by omega
  | k + 1, i, hk, h, m, h1, h2 => by
    unfold px_find at h
    by_cases h3 : f i = c ∧ g i = n
    · rw [if_pos h3] at h
      exact absurd (h ▸ (by decide : (-1 : Int32) < 0)) (nI_pos (n := i) (by omega))
    · rw [if_neg h3] at h
      by_cases hmi : m = i
      · exact hmi ▸ h3
      · exact px_find_no k (i + 1) (by omega) h m (by omega) (by omega)
theorem fx_Plan_methodNamed_l {σ : tx_St} {nM : Nat} (hm : nM ≤ 8) (k2 : σ 1 2 = nI nM) (c n : Int32) : ∀ (k i F : Nat), i + k = nM → k < F → fx_Plan_methodNamed_b2 F σ c n (nI i) = some (px_find (σ 7) (σ 9) c n i k, σ) := by
  intro k
  induction k with
  | zero =>
    intro i F hi hF
    obtain ⟨F, rfl⟩ : ∃ G, F = G + 1 := ⟨F - 1, by omega⟩
    rw [fx_Plan_methodNamed_b2, k2, if_pos (nI_le (by omega) (by omega))]
    rfl
  | succ k ih =>
    intro i F hi hF
    obtain ⟨F, rfl⟩ : ∃ G, F = G + 1 := ⟨F - 1, by omega⟩
    rw [fx_Plan_methodNamed_b2, k2, if_neg (nI_ge (by omega) (by omega)), px_rd (j := i) rfl (by omega) (by decide), px_rd (j := i) rfl (by omega) (by decide)]
    unfold px_find fx_Plan_methodNamed_b32
    rw [nI_1, ih (i + 1) F (by omega) (by omega)]
    by_cases h1 : σ 7 i = c
    · by_cases h2 : σ 9 i = n
      · rw [if_pos h1, if_pos h2, if_pos ⟨h1, h2⟩]
      · rw [if_pos h1, if_neg h2, if_neg (fun h => h2 h.2)]
    · rw [if_neg h1, if_neg (fun h => h1 h.1)]
theorem fx_Plan_methodNamed_e {σ : tx_St} {nM : Nat} (hm : nM ≤ 8) (k2 : σ 1 2 = nI nM) (c n : Int32) : fx_Plan_methodNamed σ c n = some (px_find (σ 7) (σ 9) c n 0 nM, σ) := by
  unfold fx_Plan_methodNamed
  rw [show (0 : Int32) = nI 0 by decide]
  exact fx_Plan_methodNamed_l hm k2 c n nM 0 tx_fu (by omega) (by unfold tx_fu; omega)
theorem fx_Mo_methodOf_l {σ : tx_St} {nM : Nat} (hm : nM ≤ 8) (k2 : σ 45 7 = nI nM) (c n : Int32) : ∀ (k i F : Nat), i + k = nM → k < F → fx_Mo_methodOf_b2 F σ c n (nI i) = some (px_find (σ 51) (σ 53) c n i k, σ) := by
  intro k
  induction k with
  | zero =>
    intro i F hi hF
    obtain ⟨F, rfl⟩ : ∃ G, F = G + 1 := ⟨F - 1, by omega⟩
    rw [fx_Mo_methodOf_b2, k2, if_pos (nI_le (by omega) (by omega))]
    rfl
  | succ k ih =>
    intro i F hi hF
    obtain ⟨F, rfl⟩ : ∃ G, F = G + 1 := ⟨F - 1, by omega⟩
    rw [fx_Mo_methodOf_b2, k2, if_neg (nI_ge (by omega) (by omega)), px_rd (j := i) rfl (by omega) (by decide), px_rd (j := i) rfl (by omega) (by decide)]
    unfold px_find fx_Mo_methodOf_b32
    rw [nI_1, ih (i + 1) F (by omega) (by omega)]
    by_cases h1 : σ 51 i = c
    · by_cases h2 : σ 53 i = n
      · rw [if_pos h1, if_pos h2, if_pos ⟨h1, h2⟩]
      · rw [if_pos h1, if_neg h2, if_neg (fun h => h2 h.2)]
    · rw [if_neg h1, if_neg (fun h => h1 h.1)]
theorem fx_Mo_methodOf_e {σ : tx_St} {nM : Nat} (hm : nM ≤ 8) (k2 : σ 45 7 = nI nM) (c n : Int32) : fx_Mo_methodOf σ c n = some (px_find (σ 51) (σ 53) c n 0 nM, σ) := by
  unfold fx_Mo_methodOf
  rw [show (0 : Int32) = nI 0 by decide]
  exact fx_Mo_methodOf_l hm k2 c n nM 0 tx_fu (by omega) (by unfold tx_fu; omega)
theorem px_find_neg {f g : Nat → Int32} {c n : Int32} {k : Nat} (hk : k ≤ 8) : (px_find f g c n 0 k = -1) ↔ px_find f g c n 0 k < 0 := by
  rcases px_find_r (f := f) (g := g) (c := c) (n := n) k 0 with h | ⟨m, h1, h2, -⟩
  · rw [h]
    decide
  · rw [h2]
    constructor
    · intro h
      exact absurd (h ▸ (by decide : (-1 : Int32) < 0)) (nI_pos (by omega))
    · intro h
      exact absurd h (nI_pos (by omega))
theorem op_addMethod {σ : tx_St} (hP : iv_P σ) (hR : iv_R σ) (hU : iv_U σ) (a b d f g : Int32) : ∃ r σ1 σ2, fx_X_addMethod σ a b d f g = some (r, σ1) ∧ fx_Mo_addMethod σ1 a b d f g = some (r, σ2) ∧ iv_P σ2 ∧ iv_R σ2 ∧ iv_U σ2 := by
  have hP0 := hP
  obtain ⟨⟨⟨s0, s1, s2, s3, s4, s5, s6⟩, r1, r2, r3, r4, r5, r6, r7, r8, r9, r10, r11⟩, nC, nF, nM, ⟨hc, hf, hm⟩, ⟨k0, k1, k2⟩, hC, hF, hM⟩ := hP
  have hse := hU.1
  have hse2 : σ 45 16 = 0 := s3.trans hse
  have hTy : ∀ (τ : tx_St) (x : Int32), τ 45 0 = σ 45 0 → fx_Mo_isType τ x = some (b01 (¬ x < 0 ∧ ¬ (2 : Int32) + σ 1 0 ≤ x), τ) := fun τ x t0 => by
    rw [fx_Mo_isType_e hc (t0.trans (s0.trans k0)), k0]
  have hCl : ∀ τ : tx_St, τ 45 0 = σ 45 0 → fx_Mo_isClass τ a = some (b01 (¬ a < 0 ∧ ¬ σ 1 0 ≤ a), τ) := fun τ t0 => by
    rw [fx_Mo_isClass_e, t0, s0]
  have hNm := fx_Plan_methodNamed_e hm k2 a d
  have hOf : ∀ τ : tx_St, τ 45 7 = σ 45 7 → τ 51 = σ 51 → τ 53 = σ 53 → fx_Mo_methodOf τ a d = some (px_find (σ 7) (σ 9) a d 0 nM, τ) := fun τ t0 t1 t2 => by
    rw [fx_Mo_methodOf_e hm (t0.trans (s2.trans k2)), t1, t2, r4, r6]
  -- the first five conditions
  by_cases g1 : (¬ a < 0 ∧ ¬ σ 1 0 ≤ a) ∧ (¬ b < 0 ∧ ¬ (1 : Int32) < b) ∧ (¬ d < 0 ∧ d < 8)
  case neg =>
    refine ⟨-1, σ, σ, ?_, ?_, hP0, hR, hU⟩
    · unfold fx_X_addMethod fx_X_addMethod_b40
      rw [if_pos hse, fx_Plan_isClass_e, px_ci]
      by_cases h1 : (¬ a < 0 ∧ ¬ σ 1 0 ≤ a)
      · rw [b01_t h1, if_neg (by decide)]
        by_cases h2 : b < 0
        · rw [if_pos h2]
        · rw [if_neg h2]
          by_cases h3 : (1 : Int32) < b
          · rw [if_pos h3]
          · rw [if_neg h3]
            by_cases h4 : d < 0
            · rw [if_pos h4]
            · rw [if_neg h4, if_neg (fun h5 => g1 ⟨h1, ⟨h2, h3⟩, h4, h5⟩)]
      · rw [b01_f h1, if_pos rfl]
    · unfold fx_Mo_addMethod fx_Mo_addMethod_b70
      rw [if_pos hse2, hCl σ rfl, px_ci]
      by_cases h1 : (¬ a < 0 ∧ ¬ σ 1 0 ≤ a)
      · rw [b01_t h1, if_neg (by decide)]
        by_cases h2 : b < 0
        · rw [if_pos h2]
        · rw [if_neg h2]
          by_cases h3 : (1 : Int32) < b
          · rw [if_pos h3]
          · rw [if_neg h3]
            by_cases h4 : d < 0
            · rw [if_pos h4]
            · have h6 : (7 : Int32) < d := by
                have h5 : ¬ d < 8 := fun h5 => g1 ⟨h1, ⟨h2, h3⟩, h4, h5⟩
                rw [Int32.lt_iff_toInt_lt] at h5 ⊢
                have : (8 : Int32).toInt = 8 := by decide
                have : (7 : Int32).toInt = 7 := by decide
                omega
              rw [if_neg h4, if_pos h6]
      · rw [b01_f h1, if_pos rfl]
  case pos =>
    obtain ⟨h1, ⟨h2, h3⟩, h4, h5⟩ := g1
    have h6 : ¬ (7 : Int32) < d := by
      rw [Int32.lt_iff_toInt_lt] at h5 ⊢
      have : (8 : Int32).toInt = 8 := by decide
      have : (7 : Int32).toInt = 7 := by decide
      omega
    have hx0 : fx_X_addMethod σ a b d f g = (if f = (-1 : Int32) ∨ (¬ f < 0 ∧ ¬ (2 : Int32) + σ 1 0 ≤ f) then fx_X_addMethod_b60 σ a b d f g else fx_X_addMethod_b65 σ a b d f g 0) := by
      unfold fx_X_addMethod
      rw [if_pos hse, fx_Plan_isClass_e, px_ci, b01_t h1, if_neg (by decide), if_neg h2, if_neg h3, if_neg h4, if_pos h5]
      by_cases hf1 : f = -1
      · rw [if_pos hf1, if_pos (Or.inl hf1)]
      · rw [if_neg hf1, fx_Plan_isType_e, px_ci]
        by_cases hf2 : (¬ f < 0 ∧ ¬ (2 : Int32) + σ 1 0 ≤ f)
        · rw [b01_t hf2, if_neg (by decide), if_pos (Or.inr hf2)]
        · rw [b01_f hf2, if_pos rfl, if_neg (fun z => z.elim hf1 hf2)]
    have hm0 : ∀ τ : tx_St, τ 45 16 = σ 45 16 → τ 45 0 = σ 45 0 → fx_Mo_addMethod τ a b d f g = (if f = (-1 : Int32) ∨ (¬ f < 0 ∧ ¬ (2 : Int32) + σ 1 0 ≤ f) then fx_Mo_addMethod_b52 τ a b d f g else some (-1, τ)) := by
      intro τ t1 t0
      unfold fx_Mo_addMethod fx_Mo_addMethod_b70
      rw [t1, if_pos hse2, hCl τ t0, px_ci, b01_t h1, if_neg (by decide), if_neg h2, if_neg h3, if_neg h4, if_neg h6]
      by_cases hf1 : f = -1
      · rw [if_pos hf1, if_pos (Or.inl hf1)]
      · rw [if_neg hf1, hTy τ f t0, px_ci]
        by_cases hf2 : (¬ f < 0 ∧ ¬ (2 : Int32) + σ 1 0 ≤ f)
        · rw [b01_t hf2, if_neg (by decide), if_pos (Or.inr hf2)]
        · rw [b01_f hf2, if_pos rfl, if_neg (fun z => z.elim hf1 hf2)]
    by_cases hF1 : f = (-1 : Int32) ∨ (¬ f < 0 ∧ ¬ (2 : Int32) + σ 1 0 ≤ f)
    case neg =>
      refine ⟨-1, σ, σ, ?_, ?_, hP0, hR, hU⟩
      · rw [hx0, if_neg hF1]
        unfold fx_X_addMethod_b65 fx_X_addMethod_b97
        rw [if_pos rfl]
      · rw [hm0 σ rfl rfl, if_neg hF1]
    case pos =>
      by_cases hg : (¬ g < 0 ∧ ¬ (2 : Int32) + σ 1 0 ≤ g) ∧ px_find (σ 7) (σ 9) a d 0 nM = -1
      case neg =>
        refine ⟨-1, σ, σ, ?_, ?_, hP0, hR, hU⟩
        · rw [hx0, if_pos hF1]
          unfold fx_X_addMethod_b60 fx_X_addMethod_b65 fx_X_addMethod_b97
          rw [if_neg (by decide), fx_Plan_isType_e, px_ci, hNm, px_ci]
          by_cases hg1 : (¬ g < 0 ∧ ¬ (2 : Int32) + σ 1 0 ≤ g)
          · rw [b01_t hg1, if_neg (by decide), if_neg (fun z => hg ⟨hg1, z⟩)]
          · rw [b01_f hg1, if_pos rfl]
        · rw [hm0 σ rfl rfl, if_pos hF1]
          unfold fx_Mo_addMethod_b52 fx_Mo_addMethod_b70
          rw [hTy σ g rfl, px_ci, hOf σ rfl rfl rfl, px_ci]
          by_cases hg1 : (¬ g < 0 ∧ ¬ (2 : Int32) + σ 1 0 ≤ g)
          · rw [b01_t hg1, if_neg (by decide), if_neg (fun z => hg ⟨hg1, (px_find_neg hm).mpr z⟩)]
          · rw [b01_f hg1, if_pos rfl]
      case pos =>
        obtain ⟨hg1, hg2⟩ := hg
        by_cases h8 : σ 1 2 = 8
        · refine ⟨-2, σ, σ, ?_, ?_, hP0, hR, hU⟩
          · rw [hx0, if_pos hF1]
            unfold fx_X_addMethod_b60 fx_X_addMethod_b65
            rw [if_neg (by decide), fx_Plan_isType_e, px_ci, hNm, px_ci, b01_t hg1, if_neg (by decide), if_pos hg2, if_pos h8]
          · rw [hm0 σ rfl rfl, if_pos hF1]
            unfold fx_Mo_addMethod_b52
            rw [hTy σ g rfl, px_ci, hOf σ rfl rfl rfl, px_ci, b01_t hg1, if_neg (by decide), if_pos ((px_find_neg hm).mp hg2), if_pos (s2.trans h8)]
        · have hn : nM < 8 := px_ne8 hm (k2 ▸ h8)
          obtain ⟨ca, hca, ea⟩ := (px_in (by omega)).mp (k0 ▸ h1)
          obtain ⟨bk, hbk, ebk⟩ := nI_of2 (x := b) (M := 1) (n := 1) (by decide) h2 (by rw [Int32.le_iff_toInt_le]; rw [Int32.lt_iff_toInt_lt] at h3; omega)
          obtain ⟨dk, hdk, edk⟩ := nI_of2 (x := d) (M := 7) (n := 7) (by decide) h4 (by rw [Int32.le_iff_toInt_le]; rw [Int32.lt_iff_toInt_lt] at h6; omega)
          have tyOf : ∀ x : Int32, (¬ x < 0 ∧ ¬ (2 : Int32) + σ 1 0 ≤ x) → ∃ t, t < nC + 2 ∧ x = nI t := fun x hx => (px_in (by omega)).mp (by rw [k0, show (2 : Int32) = nI 2 by decide, nI_add, Nat.add_comm] at hx; exact hx)
          have hnew : fx_Plan_newMethod σ a b d f g = some (nI nM, tx_up (tx_up (tx_up (tx_up (tx_up (tx_up (tx_up σ 7 nM a) 8 nM b) 9 nM d) 10 nM f) 11 nM g) 12 nM 0) 1 2 (nI nM + 1)) := by
            unfold fx_Plan_newMethod
            rw [px_wr k2 hn (by decide), px_wr k2 hn (by decide), px_wr k2 hn (by decide), px_wr k2 hn (by decide), px_wr k2 hn (by decide), px_wr k2 hn (by decide), px_pt, k2]
            simp [px_up, k2]
          refine ⟨nI nM, tx_up (tx_up (tx_up (tx_up (tx_up (tx_up (tx_up σ 7 nM a) 8 nM b) 9 nM d) 10 nM f) 11 nM g) 12 nM 0) 1 2 (nI nM + 1),
            tx_up (tx_up (tx_up (tx_up (tx_up (tx_up (tx_up (tx_up (tx_up (tx_up (tx_up (tx_up (tx_up (tx_up σ 7 nM a) 8 nM b) 9 nM d) 10 nM f) 11 nM g) 12 nM 0) 1 2 (nI nM + 1)) 51 nM a) 52 nM b) 53 nM d) 54 nM f) 55 nM g) 56 nM 0) 45 7 (nI nM + 1), ?_, ?_, ?_, ?_, ?_⟩
          · rw [hx0, if_pos hF1]
            unfold fx_X_addMethod_b60 fx_X_addMethod_b65
            rw [if_neg (by decide), fx_Plan_isType_e, px_ci, hNm, px_ci, b01_t hg1, if_neg (by decide), if_pos hg2, if_neg h8, hnew, px_ci]
          · rw [hm0 _ (by simp [px_up]) (by simp [px_up]), if_pos hF1]
            unfold fx_Mo_addMethod_b52
            rw [hTy _ g (by simp [px_up]), px_ci, hOf _ (by simp [px_up]) (by simp [tx_up]) (by simp [tx_up]), px_ci, b01_t hg1, if_neg (by decide), if_pos ((px_find_neg hm).mp hg2), if_neg (by simp [px_up, s2]; exact h8),
              px_wr (j := nM) (by simp [px_up, s2, k2]) hn (by decide), px_wr (j := nM) (by simp [px_up, s2, k2]) hn (by decide), px_wr (j := nM) (by simp [px_up, s2, k2]) hn (by decide), px_wr (j := nM) (by simp [px_up, s2, k2]) hn (by decide), px_wr (j := nM) (by simp [px_up, s2, k2]) hn (by decide), px_wr (j := nM) (by simp [px_up, s2, k2]) hn (by decide), px_pt]
            simp [px_up, s2, k2, nI_1, nI_pred]
          · refine ⟨⟨⟨?_, ?_, ?_, ?_, ?_, ?_, ?_⟩, ?_, ?_, ?_, ?_, ?_, ?_, ?_, ?_, ?_, ?_, ?_⟩, nC, nF, nM + 1, ⟨hc, hf, by omega⟩, ⟨?_, ?_, ?_⟩, ?_, ?_, ?_⟩
            all_goals first | (simp [tx_up, upd, s0, s1, s2, s3, s4, s5, s6, r1, r2, r3, r4, r5, r6, r7, r8, r9, r10, r11, k0, k1, k2, nI_1]; done) | skip
            · intro c hlt
              exact iv_cl_up (hC c hlt) (fun j hj => by simp [px_up]) (fun j hj => by simp [px_up]) (by simp [px_up]) (by simp [px_up])
            · intro f h
              exact iv_fl_up (hF f h) (Nat.le_refl _) (by simp [px_up]) (by simp [px_up]) (by simp [px_up])
            · intro m hlt
              rcases Nat.lt_or_ge m nM with h | h
              · exact iv_me_up (hM m h) (Nat.le_refl _) (by simp [px_up]; omega) (by simp [px_up]; omega) (by simp [px_up]; omega) (by simp [px_up]; omega) (by simp [px_up]; omega) (by simp [px_up]; omega) (fun i _ => by simp [px_up])
              · have : m = nM := by omega
                subst this
                refine ⟨⟨ca, hca, by simp [px_up]; exact ea⟩, ⟨bk, hbk, by simp [px_up]; exact ebk⟩, ⟨dk, by omega, by simp [px_up]; exact edk⟩, ?_, ?_, 0, by omega, by simp [px_up]; rfl, fun i hi => by omega⟩
                · rcases hF1 with e | e
                  · exact Or.inl (by simp [px_up]; exact e)
                  · obtain ⟨t, ht, e⟩ := tyOf f e
                    exact Or.inr ⟨t, ht, by simp [px_up]; exact e⟩
                · obtain ⟨t, ht, e⟩ := tyOf g hg1
                  exact ⟨t, ht, by simp [px_up]; exact e⟩
          · obtain ⟨⟨r, k, h1, h2, h3, h4⟩, h5⟩ := hR
            exact ⟨⟨r, k, h1, by simp [px_up]; exact h2, h3, by simp [px_up]; exact h4⟩, by simp [px_up]; exact h5⟩
          · refine ⟨by simp [px_up]; exact hU.1, by simp [px_up]; exact hU.2.1, by simp [px_up]; exact hU.2.2.1, fun n m m' hn8 hnn hm1 hm2 e7 e9 => ?_⟩
            have en : n = nM + 1 := by
              simp [px_up, nI_1] at hnn
              exact ((nI_eq (by omega) (by omega)).mp hnn).symm
            subst en
            have no := px_find_no (f := σ 7) (g := σ 9) (c := a) (n := d) nM 0 (by omega) hg2
            simp [px_up] at e7 e9
            by_cases c1 : m = nM
            · by_cases c2 : m' = nM
              · omega
              · simp only [c1, c2, if_true, if_false] at e7 e9
                exact absurd ⟨e7.symm, e9.symm⟩ (no m' (by omega) (by omega))
            · by_cases c2 : m' = nM
              · simp only [c1, c2, if_true, if_false] at e7 e9
                exact absurd ⟨e7, e9⟩ (no m (by omega) (by omega))
              · simp only [c1, c2, if_false] at e7 e9
                exact hU.2.2.2 nM m m' (by omega) k2 (by omega) (by omega) e7 e9
