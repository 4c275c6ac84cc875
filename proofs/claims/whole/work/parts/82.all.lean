/-! the law's loop: the whole run -/
theorem lg_s (v : Int64) : lg_cmp v v = 0 := by
  unfold lg_cmp
  simp
theorem px_rs {β : Type} {xs : Nat → Int32} {n j : Nat} {i : Int32} {k : Int32 → Option β} (hi : i = nI j) (hj : j < n) (hn : n < 2 ^ 31) : tx_rs xs n i k = k (xs j) := by
  unfold tx_rs
  rw [hi, nI_clamp (by omega), if_neg]
  rintro (z | z)
  · exact nI_pos (by omega) z
  · omega
theorem px_end {na a : Nat} (h1 : na ≤ 3072) (h2 : a ≤ 3072) : (Int32.ofNat na - 6 < nI a) ↔ na < a + 6 := by
  show (nI na - nI 6 < nI a) ↔ _
  rw [Int32.lt_iff_toInt_lt, pk_sub_toInt (by omega) (by omega), nI_toInt (by omega)]
  omega
theorem I_0 : iv_I sg0 := by
  refine ⟨⟨⟨⟨rfl, rfl, rfl, rfl, rfl, rfl, rfl⟩, rfl, rfl, rfl, rfl, rfl, rfl, rfl, rfl, rfl, rfl, rfl⟩, 0, 0, 0, ⟨by omega, by omega, by omega⟩, ⟨rfl, rfl, rfl⟩, fun c h => by omega, fun c h => by omega, fun c h => by omega⟩, ⟨⟨0, 0, by omega, rfl, by omega, rfl⟩, rfl⟩, Or.inl ⟨rfl, rfl, rfl, fun n m m' hn hnn hm => ?_⟩⟩
  have hnn' : nI 0 = nI n := hnn
  have : 0 = n := (nI_eq (a := 0) (by decide) (by omega)).mp hnn'
  omega
set_option maxHeartbeats 4000000 in
theorem px_loop (na : Nat) (xs : Nat → Int32) (hna : na ≤ 3072) : ∀ (n j : Nat) (σ : tx_St), j ≤ 512 → 513 ≤ j + n → iv_I σ → ∃ t, fx_law_b18 na xs n σ (nI (6 * j)) = some t := by
  intro n
  induction n with
  | zero =>
    intro j σ h1 h2
    omega
  | succ n ih =>
    intro j σ h1 h2 hI
    by_cases he : na < 6 * j + 6
    · rw [fx_law_b18, if_pos ((px_end hna (by omega)).mpr he)]
      exact ⟨σ, rfl⟩
    · have cont : ∀ σ2, iv_I σ2 → ∃ t, fx_law_b462 na xs (fx_law_b18 na xs n) σ2 (nI (6 * j)) = some t := by
        intro σ2 h
        unfold fx_law_b462
        rw [show (6 : Int32) = nI 6 from rfl, nI_add, show 6 * j + 6 = 6 * (j + 1) by omega]
        exact ih (j + 1) σ2 (by omega) (by omega) h
      have r0 : ∀ f : Int32 → Option tx_St, tx_rs xs na (nI (6 * j)) f = f (xs (6 * j)) := fun f => px_rs rfl (by omega) (by omega)
      have r1 : ∀ f : Int32 → Option tx_St, tx_rs xs na (nI (6 * j) + 1) f = f (xs (6 * j + 1)) := fun f => px_rs (nI_add (6 * j) 1) (by omega) (by omega)
      have r2 : ∀ f : Int32 → Option tx_St, tx_rs xs na (nI (6 * j) + 2) f = f (xs (6 * j + 2)) := fun f => px_rs (nI_add (6 * j) 2) (by omega) (by omega)
      have r3 : ∀ f : Int32 → Option tx_St, tx_rs xs na (nI (6 * j) + 3) f = f (xs (6 * j + 3)) := fun f => px_rs (nI_add (6 * j) 3) (by omega) (by omega)
      have r4 : ∀ f : Int32 → Option tx_St, tx_rs xs na (nI (6 * j) + 4) f = f (xs (6 * j + 4)) := fun f => px_rs (nI_add (6 * j) 4) (by omega) (by omega)
      have r5 : ∀ f : Int32 → Option tx_St, tx_rs xs na (nI (6 * j) + 5) f = f (xs (6 * j + 5)) := fun f => px_rs (nI_add (6 * j) 5) (by omega) (by omega)
      rw [fx_law_b18, if_neg (fun z => he ((px_end hna (by omega)).mp z))]
      simp only [r0, r1, r2, r3, r4, r5]
      generalize xs (6 * j) = v at *
      generalize xs (6 * j + 1) = a at *
      generalize xs (6 * j + 2) = b at *
      generalize xs (6 * j + 3) = c at *
      generalize xs (6 * j + 4) = d at *
      generalize xs (6 * j + 5) = e at *
      by_cases q0 : v &&& 15 = 0
      · rw [if_pos q0]
        obtain ⟨r, σ1, σ2, e1, e2, hI2⟩ := I_addClass hI a b
        rw [e1, px_ci, e2, px_ci, if_pos rfl]
        exact cont σ2 hI2
      rw [if_neg q0]
      by_cases q1 : v &&& 15 = 1
      · rw [if_pos q1]
        obtain ⟨r, σ1, σ2, e1, e2, hI2⟩ := I_addField hI a b c
        rw [e1, px_ci, e2, px_ci, if_pos rfl]
        exact cont σ2 hI2
      rw [if_neg q1]
      by_cases q2 : v &&& 15 = 2
      · rw [if_pos q2]
        obtain ⟨r, σ1, σ2, e1, e2, hI2⟩ := I_addMethod hI a b c d e
        rw [e1, px_ci, e2, px_ci, if_pos rfl]
        exact cont σ2 hI2
      rw [if_neg q2]
      by_cases q3 : v &&& 15 = 3
      · rw [if_pos q3]
        obtain ⟨r, σ1, σ2, e1, e2, hI2⟩ := I_emit hI a b c
        rw [e1, px_ci, e2, px_ci, if_pos rfl]
        exact cont σ2 hI2
      rw [if_neg q3]
      by_cases q4 : v &&& 15 = 4
      · rw [if_pos q4]
        obtain ⟨r, σ1, σ2, e1, e2, hI2⟩ := I_check hI
        rw [e1, px_ci, e2, px_ci, if_pos rfl]
        exact cont σ2 hI2
      rw [if_neg q4]
      by_cases q5 : v &&& 15 = 5
      · rw [if_pos q5]
        obtain ⟨σ1, σ2, e1, e2, hI2⟩ := I_clear hI
        rw [e1, px_cv, e2, px_cv]
        exact cont σ2 hI2
      rw [if_neg q5]
      by_cases q6 : v &&& 15 = 6
      · rw [if_pos q6]
        obtain ⟨r, e1, e2⟩ := I_typesAt hI a b
        rw [e1, px_ci, e2, px_ci, if_pos rfl]
        exact cont σ hI
      rw [if_neg q6]
      by_cases q7 : v &&& 15 = 7
      · rw [if_pos q7]
        obtain ⟨r, σ1, σ2, e1, e2, hI2⟩ := I_run hI a b c
        rw [e1, px_cl, e2, px_cl, if_pos (lg_s r)]
        exact cont σ2 hI2
      rw [if_neg q7]
      by_cases q8 : v &&& 15 = 8
      · rw [if_pos q8]
        obtain ⟨r, e1, e2⟩ := I_look hI a b
        rw [e1, px_cl, e2, px_cl, if_pos (lg_s r)]
        exact cont σ hI
      rw [if_neg q8]
      by_cases q9 : v &&& 15 = 9
      · rw [if_pos q9]
        obtain ⟨r, e1, e2⟩ := I_held hI a
        rw [e1, px_ci, e2, px_ci, if_pos rfl]
        exact cont σ hI
      rw [if_neg q9]
      by_cases q10 : v &&& 15 = 10
      · rw [if_pos q10]
        obtain ⟨e1, e2⟩ := op_runs hI.1
        rw [e1, px_ci, e2, px_ci, if_pos rfl]
        exact cont σ hI
      rw [if_neg q10]
      by_cases q11 : v &&& 15 = 11
      · rw [if_pos q11]
        obtain ⟨e1, e2⟩ := op_steps hI.1
        rw [e1, px_ci, e2, px_ci, if_pos rfl]
        exact cont σ hI
      rw [if_neg q11]
      exact cont σ hI
theorem px_done : ∀ (na : Nat) (xs : Nat → Int32), na ≤ 3072 → ∃ t, fx_law na xs sg0 = some t := by
  intro na xs h
  unfold fx_law
  exact px_loop na xs h 600 0 sg0 (by omega) (by omega) I_0
