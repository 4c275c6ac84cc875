/-! rules 5, 6, 7, on checked code -/
section R57
variable {σ : tx_St} {nC nF nM m i : Nat} {τ : Nat → Nat → TS}
/-- every method's code fits with the types tau -/
def Ck (σ : tx_St) (nC nF nM : Nat) (τ : Nat → Nat → TS) : Prop := ∀ m, m < nM → okM σ nC nF nM m (N_ (σ 12 m)) (τ m)
theorem B_m12 (h : iv_B σ nC nF nM) (hm : m < nM) : N_ (σ 12 m) ≤ 12 ∧ σ 12 m = nI (N_ (σ 12 m)) ∧ ∀ i, i < N_ (σ 12 m) → ∃ o, o ≤ 19 ∧ σ 13 (12 * m + i) = nI o := by
  obtain ⟨-, -, -, -, -, L, hL, e, ho⟩ := h.2.2.2.2.2 m hm
  rw [e, N_nI (by omega)]
  exact ⟨hL, rfl, ho⟩
def brk (σ : tx_St) (τ : Nat → Nat → TS) (x m i : Nat) : Prop := (x = 5 ∧ σ 13 (12 * m + i) = 18 ∧ (σ 14 (12 * m + i) = 2 ∨ σ 14 (12 * m + i) = 3)) ∨ (x = 6 ∧ (σ 13 (12 * m + i) = 9 ∨ σ 13 (12 * m + i) = 11) ∧ fiF σ (N_ (σ 14 (12 * m + i)))) ∨
  (x = 7 ∧ σ 13 (12 * m + i) = 16 ∧ (im σ ((τ m i).1.getD 0 0) ∨ im σ ((τ m i).1.getD 1 0)))
/-- what checked code says of an instruction -/
theorem Ck_tr (hB : iv_B σ nC nF nM) (hC : Ck σ nC nF nM τ) (hm : m < nM) (hi : i < N_ (σ 12 m)) {op : Nat} (hop : op ≤ 19) (e : σ 13 (12 * m + i) = nI op) : ∃ s, tr σ nC nF nM m op (σ 14 (12 * m + i)) (τ m i) = some s := by
  obtain ⟨s, h, -⟩ := (hC m hm).2.2.2.1 i hi
  unfold tri at h
  rw [e, N_nI (by omega)] at h
  exact ⟨s, h⟩
theorem Ck_ok (hC : Ck σ nC nF nM τ) (hm : m < nM) (hi : i < N_ (σ 12 m)) : okS (nC + 2) (τ m i) := (hC m hm).2.2.1 i hi
theorem cif_some {α : Type} {p : Prop} {x : Option α} {s : α} (h : cif p x none = some s) : p ∧ x = some s := by
  rcases Classical.em p with hp | hp
  · rw [cif_t hp] at h
    exact ⟨hp, h⟩
  · rw [cif_f hp] at h
    cases h
theorem Ck_18 (hB : iv_B σ nC nF nM) (hC : Ck σ nC nF nM τ) (hm : m < nM) (hi : i < N_ (σ 12 m)) (e : σ 13 (12 * m + i) = 18) : cI 4 (σ 14 (12 * m + i)) := by
  obtain ⟨s, h⟩ := Ck_tr hB hC hm hi (op := 18) (by decide) e
  rw [tr_18] at h
  exact (cif_some h).1
theorem Ck_9 (hB : iv_B σ nC nF nM) (hC : Ck σ nC nF nM τ) (hm : m < nM) (hi : i < N_ (σ 12 m)) (e : σ 13 (12 * m + i) = 9 ∨ σ 13 (12 * m + i) = 11) : cI nF (σ 14 (12 * m + i)) := by
  rcases e with e | e
  · obtain ⟨s, h⟩ := Ck_tr hB hC hm hi (op := 9) (by decide) e
    rw [tr_9] at h
    exact (cif_some h).1.1
  · obtain ⟨s, h⟩ := Ck_tr hB hC hm hi (op := 11) (by decide) e
    rw [tr_11] at h
    exact (cif_some h).1.1
theorem Ck_16 (hB : iv_B σ nC nF nM) (hC : Ck σ nC nF nM τ) (hm : m < nM) (hi : i < N_ (σ 12 m)) (e : σ 13 (12 * m + i) = 16) : ∃ t1 t2 r, (τ m i).1 = t1 :: t2 :: r ∧ t1 < nC + 2 ∧ t2 < nC + 2 := by
  obtain ⟨s, h⟩ := Ck_tr hB hC hm hi (op := 16) (by decide) e
  have hok := Ck_ok hC hm hi
  rw [tr_16] at h
  generalize τ m i = t at *
  obtain ⟨st, l⟩ := t
  cases st with
  | nil => cases h
  | cons t1 st =>
    cases st with
    | nil =>
      exfalso
      by_cases h0 : t1 = 0
      · simp [tT, h0] at h
      · simp [tT, h0] at h
    | cons t2 r => exact ⟨t1, t2, r, rfl, hok.2.1 t1 (by simp), hok.2.1 t2 (by simp)⟩
theorem xs_unpack {n : Nat} {s : TS} (hn : n ≤ 10) (h : okS n s) : ∃ ρ, fx_Fitting_unpack σ (nI (pk_ s)) = some ρ ∧ xe σ ρ ∧ xs ρ s := by
  obtain ⟨ρ, g1, g2, g3, g4, g5, g6, g7⟩ := unpack_l hn h 4 0 tx_fu (tx_up σ 15 6 0) (by omega) (by unfold tx_fu; omega) (by simp [px_up]; rfl)
  refine ⟨ρ, ?_, xe_tr (xe_15 σ 0 (Or.inl rfl)) g6, g2, fun k hk => g3 k (Nat.zero_le _) hk, g5⟩
  unfold fx_Fitting_unpack
  rw [px_pt]
  exact g1
theorem xe_im {ρ : tx_St} (h : xe σ ρ) (t : Nat) : im ρ t = im σ t := by
  unfold im mk
  rw [h.1 3 (by decide) (by decide) (by decide)]
theorem fx_Fitting_comparesImmutable_e (hB : iv_B σ nC nF nM) (hC : Ck σ nC nF nM τ) (h16 : σ 16 (12 * m + i) = nI (pk_ (τ m i))) (hm : m < nM) (hi : i < N_ (σ 12 m)) (e : σ 13 (12 * m + i) = 16) :
    ∃ ρ, fx_Fitting_comparesImmutable σ (nI m) (nI i) = some (bP (im σ ((τ m i).1.getD 0 0) ∨ im σ ((τ m i).1.getD 1 0)), ρ) ∧ xe σ ρ := by
  have hb := B_n hB
  have h12 := (B_m12 hB hm).1
  have hok := Ck_ok hC hm hi
  obtain ⟨t1, t2, r, et, h1, h2⟩ := Ck_16 hB hC hm hi e
  obtain ⟨ρ, a1, a2, a3, a4, -⟩ := xs_unpack (σ := σ) (n := nC + 2) (by omega) hok
  have h4 := hok.1
  rw [et] at a3 a4 h4 ⊢
  simp only [List.length_cons] at a3 a4 h4
  have e1 : ρ 17 (r.length + 1) = nI t1 := by
    rw [a4 _ (by omega), show r.length + 1 + 1 - 1 - (r.length + 1) = 0 by omega]
    rfl
  have e2 : ρ 17 r.length = nI t2 := by
    rw [a4 _ (by omega), show r.length + 1 + 1 - 1 - r.length = 1 by omega]
    rfl
  have hBρ := xe_B a2 hB
  refine ⟨ρ, ?_, a2⟩
  unfold fx_Fitting_comparesImmutable fx_Fitting_comparesImmutable_b69 fx_Fitting_comparesImmutable_b65 fx_Fitting_comparesImmutable_b70
  rw [px_ix12, px_rd (j := 12 * m + i) rfl (by omega) (by decide), h16, a1, px_cv, a3, if_neg (show ¬ nI (r.length + 1 + 1) < 2 from fun z => by
    have := (nI_ltI (b := 2) (by omega) (by decide)).mp z
    omega), px_rd (j := r.length + 1) (px_s1 _) (by omega) (by decide), e1, fx_Plan_isImmutable_e (by omega) (B_C hBρ) h1, px_ci, a3, px_rd (j := r.length) (px_m2) (by omega) (by decide), e2, fx_Plan_isImmutable_e (by omega) (B_C hBρ) h2, px_ci, xe_im a2, xe_im a2]
  show _ = some (bP (im σ t1 ∨ im σ t2), ρ)
  by_cases i1 : im σ t1
  · rw [bP_t i1, if_neg (by decide), px_rz (Or.inr rfl), bP_t (Or.inl i1)]
  · rw [bP_f i1, if_pos rfl]
    by_cases i2 : im σ t2
    · rw [bP_t i2, if_neg (by decide), px_rz (Or.inr rfl), bP_t (Or.inr i2)]
    · rw [bP_f i2, if_pos rfl, px_rz (Or.inl rfl), bP_f (fun z => z.elim i1 i2)]
theorem fx_Rules_breaks_e (hB : iv_B σ nC nF nM) (hC : Ck σ nC nF nM τ) (h16 : σ 16 (12 * m + i) = nI (pk_ (τ m i))) (hm : m < nM) (hi : i < N_ (σ 12 m)) {x : Nat} (hx : x = 5 ∨ x = 6 ∨ x = 7) :
    ∃ ρ, fx_Rules_breaks σ (nI x) (nI m) (nI i) = some (bP (brk σ τ x m i), ρ) ∧ xe σ ρ := by
  have hb := B_n hB
  have h12 := (B_m12 hB hm).1
  unfold fx_Rules_breaks fx_Rules_breaks_b123 fx_Rules_breaks_b124 fx_Rules_breaks_b98 fx_Rules_breaks_b82 fx_Rules_breaks_b98 fx_Rules_breaks_b99 fx_Rules_breaks_b60 fx_Rules_breaks_b56 fx_Rules_breaks_b61
  rw [px_ix12, px_rd (j := 12 * m + i) rfl (by omega) (by decide), px_rd (j := 12 * m + i) rfl (by omega) (by decide)]
  rcases hx with rfl | rfl | rfl
  · rw [if_pos (by decide)]
    refine ⟨σ, ?_, xe_rf σ⟩
    by_cases h1 : σ 13 (12 * m + i) = 18
    · rw [if_pos h1]
      by_cases h2 : σ 14 (12 * m + i) = 2
      · rw [if_pos h2, px_rz (Or.inr rfl), bP_t (show brk σ τ 5 m i from Or.inl ⟨rfl, h1, Or.inl h2⟩)]
      · rw [if_neg h2]
        by_cases h3 : σ 14 (12 * m + i) = 3
        · rw [if_pos h3, px_rz (Or.inr rfl), bP_t (show brk σ τ 5 m i from Or.inl ⟨rfl, h1, Or.inr h3⟩)]
        · rw [if_neg h3, px_rz (Or.inl rfl), bP_f]
          rintro (⟨-, -, z⟩ | ⟨z, -⟩ | ⟨z, -⟩)
          · exact z.elim h2 h3
          · omega
          · omega
    · rw [if_neg h1, px_rz (Or.inl rfl), bP_f]
      rintro (⟨-, z, -⟩ | ⟨z, -⟩ | ⟨z, -⟩)
      · exact h1 z
      · omega
      · omega
  · rw [if_neg (by decide), if_pos (by decide)]
    refine ⟨σ, ?_, xe_rf σ⟩
    have fin : (σ 13 (12 * m + i) = 9 ∨ σ 13 (12 * m + i) = 11) → (tx_ci (fx_Plan_isFinalField σ (σ 14 (12 * m + i))) fun r15 σ14 => if r15 = 0 then tx_rz 0 σ14 else tx_rz 1 σ14) = some (bP (brk σ τ 6 m i), σ) := by
      intro h
      obtain ⟨c1, c2⟩ := cI_N (by omega) (Ck_9 hB hC hm hi h)
      have e3 : fx_Plan_isFinalField σ (σ 14 (12 * m + i)) = some (bP (fiF σ (N_ (σ 14 (12 * m + i)))), σ) := by
        rw [c2, N_nI (by omega)]
        exact fx_Plan_isFinalField_e (by omega)
      rw [e3, px_ci]
      by_cases h3 : fiF σ (N_ (σ 14 (12 * m + i)))
      · rw [bP_t h3, if_neg (by decide), px_rz (Or.inr rfl), bP_t (show brk σ τ 6 m i from Or.inr (Or.inl ⟨rfl, h, h3⟩))]
      · rw [bP_f h3, if_pos rfl, px_rz (Or.inl rfl), bP_f]
        rintro (⟨z, -⟩ | ⟨-, -, z⟩ | ⟨z, -⟩)
        · omega
        · exact h3 z
        · omega
    by_cases h1 : σ 13 (12 * m + i) = 9
    · rw [if_pos h1]
      exact fin (Or.inl h1)
    · rw [if_neg h1]
      by_cases h2 : σ 13 (12 * m + i) = 11
      · rw [if_pos h2]
        exact fin (Or.inr h2)
      · rw [if_neg h2, px_rz (Or.inl rfl), bP_f]
        rintro (⟨z, -⟩ | ⟨-, z, -⟩ | ⟨z, -⟩)
        · omega
        · exact z.elim h1 h2
        · omega
  · rw [if_neg (by decide), if_neg (by decide)]
    by_cases h1 : σ 13 (12 * m + i) = 16
    · obtain ⟨ρ, e1, e2⟩ := fx_Fitting_comparesImmutable_e hB hC h16 hm hi h1
      refine ⟨ρ, ?_, e2⟩
      rw [if_pos h1, e1, px_ci, bP_c (show brk σ τ 7 m i ↔ (im σ ((τ m i).1.getD 0 0) ∨ im σ ((τ m i).1.getD 1 0)) from ⟨fun z => by
        rcases z with ⟨z, -⟩ | ⟨z, -⟩ | ⟨-, -, z⟩
        · omega
        · omega
        · exact z, fun z => Or.inr (Or.inr ⟨rfl, h1, z⟩)⟩)]
      by_cases h3 : im σ ((τ m i).1.getD 0 0) ∨ im σ ((τ m i).1.getD 1 0)
      · rw [bP_t h3, if_neg (by decide), px_rz (Or.inr rfl)]
      · rw [bP_f h3, if_pos rfl, px_rz (Or.inl rfl)]
    · refine ⟨σ, ?_, xe_rf σ⟩
      rw [if_neg h1, px_rz (Or.inl rfl), bP_f]
      rintro (⟨z, -⟩ | ⟨z, -⟩ | ⟨-, z, -⟩)
      · omega
      · omega
      · exact h1 z
theorem fx_Mo_wild_e (hB : iv_B σ nC nF nM) (hC : Ck σ nC nF nM τ) (h59 : σ 59 (12 * m + i) = nI (pk_ (τ m i))) (hm : m < nM) (hi : i < N_ (σ 12 m)) {x : Nat} (hx : x = 5 ∨ x = 6 ∨ x = 7) :
    fx_Mo_wild σ (nI x) (nI (12 * m + i)) = some (bP (brk σ τ x m i), σ) := by
  have hb := B_n hB
  have h12 := (B_m12 hB hm).1
  have e57 : σ 57 (12 * m + i) = σ 13 (12 * m + i) := by rw [hB.1.2.2.2.2.2.2.2.2.2.2.1]
  have e58 : σ 58 (12 * m + i) = σ 14 (12 * m + i) := by rw [hB.1.2.2.2.2.2.2.2.2.2.2.2]
  unfold fx_Mo_wild fx_Mo_wild_b115 fx_Mo_wild_b111 fx_Mo_wild_b116 fx_Mo_wild_b56 fx_Mo_wild_b69 fx_Mo_wild_b70 fx_Mo_wild_b36 fx_Mo_wild_b37
  rw [px_rd (j := 12 * m + i) rfl (by omega) (by decide), px_rd (j := 12 * m + i) rfl (by omega) (by decide), e57, e58]
  rcases hx with rfl | rfl | rfl
  · rw [if_pos (by decide)]
    by_cases h1 : σ 13 (12 * m + i) = 18
    · rw [if_pos h1]
      obtain ⟨c, hc, ec⟩ := Ck_18 hB hC hm hi h1
      have hiff : brk σ τ 5 m i ↔ (σ 14 (12 * m + i) = 2 ∨ σ 14 (12 * m + i) = 3) := ⟨fun z => by
        rcases z with ⟨-, -, z⟩ | ⟨z, -⟩ | ⟨z, -⟩
        · exact z
        · omega
        · omega, fun z => Or.inl ⟨rfl, h1, z⟩⟩
      rw [bP_c hiff, ec]
      rcases (by omega : c = 0 ∨ c = 1 ∨ c = 2 ∨ c = 3) with rfl | rfl | rfl | rfl
      · rw [if_pos (by decide), px_rz (Or.inl rfl), bP_f (by decide)]
      · rw [if_pos (by decide), px_rz (Or.inl rfl), bP_f (by decide)]
      · rw [if_neg (by decide), px_rz (Or.inr rfl), bP_t (by decide)]
      · rw [if_neg (by decide), px_rz (Or.inr rfl), bP_t (by decide)]
    · rw [if_neg h1, px_rz (Or.inl rfl), bP_f]
      rintro (⟨-, z, -⟩ | ⟨z, -⟩ | ⟨z, -⟩)
      · exact h1 z
      · omega
      · omega
  · rw [if_neg (by decide), if_pos (by decide)]
    have fin : (σ 13 (12 * m + i) = 9 ∨ σ 13 (12 * m + i) = 11) → (tx_ci (fx_Mo_isFinal σ (σ 14 (12 * m + i))) fun r15 σ14 => if r15 = 0 then tx_rz 0 σ14 else tx_rz 1 σ14) = some (bP (brk σ τ 6 m i), σ) := by
      intro h
      obtain ⟨c1, c2⟩ := cI_N (by omega) (Ck_9 hB hC hm hi h)
      have e3 : fx_Mo_isFinal σ (σ 14 (12 * m + i)) = some (bP (fiF σ (N_ (σ 14 (12 * m + i)))), σ) := by
        rw [c2, N_nI (by omega)]
        exact fx_Mo_isFinal_e hB (by omega)
      rw [e3, px_ci]
      by_cases h3 : fiF σ (N_ (σ 14 (12 * m + i)))
      · rw [bP_t h3, if_neg (by decide), px_rz (Or.inr rfl), bP_t (show brk σ τ 6 m i from Or.inr (Or.inl ⟨rfl, h, h3⟩))]
      · rw [bP_f h3, if_pos rfl, px_rz (Or.inl rfl), bP_f]
        rintro (⟨z, -⟩ | ⟨-, -, z⟩ | ⟨z, -⟩)
        · omega
        · exact h3 z
        · omega
    by_cases h1 : σ 13 (12 * m + i) = 9
    · rw [if_pos h1]
      exact fin (Or.inl h1)
    · rw [if_neg h1]
      by_cases h2 : σ 13 (12 * m + i) = 11
      · rw [if_pos h2]
        exact fin (Or.inr h2)
      · rw [if_neg h2, px_rz (Or.inl rfl), bP_f]
        rintro (⟨z, -⟩ | ⟨-, z, -⟩ | ⟨z, -⟩)
        · omega
        · exact z.elim h1 h2
        · omega
  · rw [if_neg (by decide), if_neg (by decide)]
    by_cases h1 : σ 13 (12 * m + i) = 16
    · obtain ⟨t1, t2, r, et, u1, u2⟩ := Ck_16 hB hC hm hi h1
      have hok := Ck_ok hC hm hi
      have ta : ∀ k, k < 2 → fx_Mo_typeAt σ (nI (pk_ (τ m i))) (nI k) = some (nI ((τ m i).1.getD k 0), σ) := fun k hk => by
        rw [fx_Mo_typeAt_e (n := nC + 2) (by omega) hok hk, if_pos (by rw [et]; simp only [List.length_cons]; omega)]
      have ta0 : fx_Mo_typeAt σ (nI (pk_ (τ m i))) (0 : Int32) = some (nI ((τ m i).1.getD 0 0), σ) := ta 0 (by decide)
      have ta1 : fx_Mo_typeAt σ (nI (pk_ (τ m i))) (1 : Int32) = some (nI ((τ m i).1.getD 1 0), σ) := ta 1 (by decide)
      rw [if_pos h1, px_rd (j := 12 * m + i) rfl (by omega) (by decide), h59, ta0, px_ci]
      have g0 : (τ m i).1.getD 0 0 = t1 := by rw [et]; rfl
      have g1 : (τ m i).1.getD 1 0 = t2 := by rw [et]; rfl
      rw [fx_Mo_immutable_e (nC := nC) (by omega) (B_s0 hB) (B_C hB) (by rw [g0]; exact u1), px_ci, px_rd (j := 12 * m + i) rfl (by omega) (by decide), h59, ta1, px_ci, fx_Mo_immutable_e (nC := nC) (by omega) (B_s0 hB) (B_C hB) (by rw [g1]; exact u2), px_ci, bP_c (show brk σ τ 7 m i ↔ (im σ ((τ m i).1.getD 0 0) ∨ im σ ((τ m i).1.getD 1 0)) from ⟨fun z => by
        rcases z with ⟨z, -⟩ | ⟨z, -⟩ | ⟨-, -, z⟩
        · omega
        · omega
        · exact z, fun z => Or.inr (Or.inr ⟨rfl, h1, z⟩)⟩)]
      by_cases i1 : im σ ((τ m i).1.getD 0 0)
      · rw [bP_t i1, if_neg (by decide), px_rz (Or.inr rfl), bP_t (Or.inl i1)]
      · rw [bP_f i1, if_pos (by decide)]
        by_cases i2 : im σ ((τ m i).1.getD 1 0)
        · rw [bP_t i2, if_neg (by decide), px_rz (Or.inr rfl), bP_t (Or.inr i2)]
        · rw [bP_f i2, if_pos (by decide), px_rz (Or.inl rfl), bP_f (fun z => z.elim i1 i2)]
    · rw [if_neg h1, px_rz (Or.inl rfl), bP_f]
      rintro (⟨z, -⟩ | ⟨z, -⟩ | ⟨-, z, -⟩)
      · omega
      · omega
      · exact h1 z
end R57
