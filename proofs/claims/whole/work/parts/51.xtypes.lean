/-! the class's operations on types: stack and locals unpacked -/
def xw (σ : tx_St) (n : Nat) : Prop := ∃ d, d ≤ 4 ∧ σ 15 6 = nI d ∧ (∀ k, k < d → ∃ t, t < n ∧ σ 17 k = nI t) ∧ ∀ k, k < 3 → ∃ v, v ≤ n ∧ σ 18 k = nI v - 1
def xs (σ : tx_St) (s : TS) : Prop := σ 15 6 = nI s.1.length ∧ (∀ k, k < s.1.length → σ 17 k = nI (s.1.getD (s.1.length - 1 - k) 0)) ∧ ∀ k, k < 3 → σ 18 k = nI (lo_ s k) - 1
/-- the class's types are o's: none where something did not fit -/
def xr (σ : tx_St) (n : Nat) (o : Option TS) : Prop := xw σ n ∧ (o = none → σ 15 8 = 0) ∧ ∀ s, o = some s → σ 15 8 = 1 ∧ okS n s ∧ xs σ s
/-- nothing else has changed -/
def xe (σ τ : tx_St) : Prop := (∀ k, k ≠ 15 → k ≠ 17 → k ≠ 18 → τ k = σ k) ∧ ∀ j, j ≠ 6 → j ≠ 8 → τ 15 j = σ 15 j
theorem xe_rf (σ : tx_St) : xe σ σ := ⟨fun _ _ _ _ => rfl, fun _ _ _ => rfl⟩
theorem xe_tr {σ τ ρ : tx_St} (h1 : xe σ τ) (h2 : xe τ ρ) : xe σ ρ := ⟨fun k a b c => (h2.1 k a b c).trans (h1.1 k a b c), fun j a b => (h2.2 j a b).trans (h1.2 j a b)⟩
theorem xe_15 (σ : tx_St) {j : Nat} (x : Int32) (h : j = 6 ∨ j = 8) : xe σ (tx_up σ 15 j x) := ⟨fun k a _ _ => tx_up_ne σ j x a, fun i a b => by
  rw [px_up, if_pos rfl, if_neg (by rcases h with rfl | rfl <;> assumption)]⟩
theorem xe_17 (σ : tx_St) {k j : Nat} (x : Int32) (h : k = 17 ∨ k = 18) : xe σ (tx_up σ k j x) := ⟨fun i a b c => tx_up_ne σ j x (by rcases h with rfl | rfl <;> assumption), fun i _ _ => by
  rw [tx_up_ne σ j x (by rcases h with rfl | rfl <;> decide)]⟩
theorem xe_B {σ τ : tx_St} {nC nF nM : Nat} (h : xe σ τ) (hB : iv_B σ nC nF nM) : iv_B τ nC nF nM := by
  have e : ∀ k, k ≠ 15 → k ≠ 17 → k ≠ 18 → τ k = σ k := h.1
  obtain ⟨⟨⟨s0, s1, s2⟩, r1, r2, r3, r4, r5, r6, r7, r8, r9, r10, r11⟩, hc, ⟨k0, k1, k2⟩, hC, hF, hM⟩ := hB
  have e0 := e 0 (by decide) (by decide) (by decide)
  have e1 := e 1 (by decide) (by decide) (by decide)
  have e2 := e 2 (by decide) (by decide) (by decide)
  have e3 := e 3 (by decide) (by decide) (by decide)
  have e4 := e 4 (by decide) (by decide) (by decide)
  have e5 := e 5 (by decide) (by decide) (by decide)
  have e6 := e 6 (by decide) (by decide) (by decide)
  have e7 := e 7 (by decide) (by decide) (by decide)
  have e8 := e 8 (by decide) (by decide) (by decide)
  have e9 := e 9 (by decide) (by decide) (by decide)
  have e10 := e 10 (by decide) (by decide) (by decide)
  have e11 := e 11 (by decide) (by decide) (by decide)
  have e12 := e 12 (by decide) (by decide) (by decide)
  have e13 := e 13 (by decide) (by decide) (by decide)
  have e14 := e 14 (by decide) (by decide) (by decide)
  have e21 := e 21 (by decide) (by decide) (by decide)
  have e45 := e 45 (by decide) (by decide) (by decide)
  have e46 := e 46 (by decide) (by decide) (by decide)
  have e47 := e 47 (by decide) (by decide) (by decide)
  refine ⟨⟨⟨?_, ?_, ?_⟩, ?_, ?_, ?_, ?_, ?_, ?_, ?_, ?_, ?_, ?_, ?_⟩, hc, ⟨?_, ?_, ?_⟩, fun c h => ?_, fun f h => ?_, fun m h => ?_⟩
  all_goals first | (rw [e45]; simp only [e0, e1, e21]; assumption) | skip
  all_goals first | (rw [e1]; assumption) | skip
  · rw [e 48 (by decide) (by decide) (by decide), e4]; exact r1
  · rw [e 49 (by decide) (by decide) (by decide), e5]; exact r2
  · rw [e 50 (by decide) (by decide) (by decide), e6]; exact r3
  · rw [e 51 (by decide) (by decide) (by decide), e7]; exact r4
  · rw [e 52 (by decide) (by decide) (by decide), e8]; exact r5
  · rw [e 53 (by decide) (by decide) (by decide), e9]; exact r6
  · rw [e 54 (by decide) (by decide) (by decide), e10]; exact r7
  · rw [e 55 (by decide) (by decide) (by decide), e11]; exact r8
  · rw [e 56 (by decide) (by decide) (by decide), e12]; exact r9
  · rw [e 57 (by decide) (by decide) (by decide), e13]; exact r10
  · rw [e 58 (by decide) (by decide) (by decide), e14]; exact r11
  · exact iv_cl_up (hC c h) (fun j _ => by rw [e2]) (fun j _ => by rw [e3]) (by rw [e46]) (by rw [e47])
  · exact iv_fl_up (hF f h) (Nat.le_refl _) (by rw [e4]) (by rw [e5]) (by rw [e6])
  · exact iv_me_up (hM m h) (Nat.le_refl _) (by rw [e7]) (by rw [e8]) (by rw [e9]) (by rw [e10]) (by rw [e11]) (by rw [e12]) (fun i _ => by rw [e13])
theorem xe_fi {σ τ : tx_St} (h : xe σ τ) (a b : Nat) : fi τ a b ↔ fi σ a b := by
  unfold fi ln
  rw [h.1 2 (by decide) (by decide) (by decide)]
theorem xe_tk {σ τ : tx_St} (h : xe σ τ) (w : Nat) (s : TS) : tk τ w s = tk σ w s := by
  obtain ⟨st, l⟩ := s
  cases st with
  | nil => rfl
  | cons t st =>
    unfold tk
    simp only
    by_cases hf : fi σ t w
    · rw [if_pos ((xe_fi h t w).mpr hf), if_pos hf]
    · rw [if_neg (fun z => hf ((xe_fi h t w).mp z)), if_neg hf]
theorem xe_ow {σ τ : tx_St} (h : xe σ τ) (c f : Nat) : ow τ c f ↔ ow σ c f := by
  unfold ow stF ln
  rw [h.1 2 (by decide) (by decide) (by decide), h.1 4 (by decide) (by decide) (by decide), h.1 5 (by decide) (by decide) (by decide)]
section XT
variable {σ : tx_St} {n : Nat} {o : Option TS}
theorem px_bad {β : Type} {k : tx_St → Option β} : tx_pz σ 15 8 0 k = k (tx_up σ 15 8 0) := px_pz (Or.inl rfl)
theorem xr_bad (h : xw σ n) : xr (tx_up σ 15 8 0) n none := by
  obtain ⟨d, hd, e1, e2, e3⟩ := h
  refine ⟨⟨d, hd, by simp [px_up]; exact e1, fun k hk => ?_, fun k hk => ?_⟩, fun _ => by simp [px_up], fun s h => by cases h⟩
  · obtain ⟨t, ht, e⟩ := e2 k hk
    exact ⟨t, ht, by simp [px_up]; exact e⟩
  · obtain ⟨v, hv, e⟩ := e3 k hk
    exact ⟨v, hv, by simp [px_up]; exact e⟩
theorem xr_w (h : xr σ n o) : xw σ n := h.1
theorem fx_Fitting_demand_t {x : Int32} (hx : ¬ x = 0) : fx_Fitting_demand σ x = some σ := by
  unfold fx_Fitting_demand fx_Fitting_demand_b9
  rw [if_neg hx]
theorem fx_Fitting_demand_f : fx_Fitting_demand σ 0 = some (tx_up σ 15 8 0) := by
  unfold fx_Fitting_demand fx_Fitting_demand_b9
  rw [if_pos rfl, px_bad]
theorem xr_put (hx : xr σ n o) {t : Nat} (ht : t < n) : ∃ τ, fx_Fitting_put σ (nI t) = some τ ∧ xe σ τ ∧ xr τ n (o.bind (gv t)) := by
  obtain ⟨⟨d, hd, e1, e2, e3⟩, hno, hso⟩ := hx
  unfold fx_Fitting_put
  by_cases h4 : d = 4
  · refine ⟨tx_up σ 15 8 0, ?_, xe_15 σ 0 (Or.inr rfl), ?_⟩
    · rw [if_pos (by rw [e1, h4]; rfl), px_bad]
    · have hb := xr_bad (n := n) ⟨d, hd, e1, e2, e3⟩
      cases o with
      | none => exact hb
      | some s =>
        obtain ⟨-, -, q, -⟩ := hso s rfl
        have : s.1.length = 4 := by
          rw [e1] at q
          rw [h4] at q
          have hs4 := (hso s rfl).2.1.1
          exact ((nI_eq (by omega) (by omega)).mp q).symm
        have : (some s : Option TS).bind (gv t) = none := by
          show gv t s = none
          unfold gv
          rw [if_pos this]
        rw [this]
        exact hb
  · refine ⟨tx_up (tx_up σ 17 d (nI t)) 15 6 (nI (d + 1)), ?_, xe_tr (xe_17 σ (nI t) (Or.inl rfl)) (xe_15 _ _ (Or.inl rfl)), ?_⟩
    · rw [if_neg (by rw [e1]; exact fun z => h4 ((nI_eq (a := d) (b := 4) (by omega) (by decide)).mp z)), px_wr (j := d) e1 (by omega) (by decide), px_pt]
      simp [px_up, e1, nI_1]
    · have hw : xw (tx_up (tx_up σ 17 d (nI t)) 15 6 (nI (d + 1))) n := by
        refine ⟨d + 1, by omega, by simp [px_up], fun k hk => ?_, fun k hk => ?_⟩
        · by_cases h : k = d
          · subst h
            exact ⟨t, ht, by simp [px_up]⟩
          · obtain ⟨u, hu, e⟩ := e2 k (by omega)
            exact ⟨u, hu, by simp [px_up, h]; exact e⟩
        · obtain ⟨v, hv, e⟩ := e3 k hk
          exact ⟨v, hv, by simp [px_up]; exact e⟩
      refine ⟨hw, fun h => ?_, fun s2 h => ?_⟩
      · cases o with
        | none => simp [px_up]; exact hno rfl
        | some s =>
          obtain ⟨-, hok, q, -⟩ := hso s rfl
          have hl : s.1.length = d := by
            rw [e1] at q
            have := hok.1
            exact ((nI_eq (by omega) (by omega)).mp q).symm
          have h : gv t s = none := h
          unfold gv at h
          rw [if_neg (by omega)] at h
          cases h
      · cases o with
        | none => cases h
        | some s =>
          obtain ⟨hg, hok, q, q2, q3⟩ := hso s rfl
          have hl : s.1.length = d := by
            rw [e1] at q
            have := hok.1
            exact ((nI_eq (by omega) (by omega)).mp q).symm
          have h : gv t s = some s2 := h
          have hok2 := gv_ok ht hok h
          unfold gv at h
          rw [if_neg (by omega)] at h
          cases h
          refine ⟨by simp [px_up]; exact hg, hok2, by simp [px_up, hl], fun k hk => ?_, fun k hk => ?_⟩
          · simp only [List.length_cons] at hk ⊢
            by_cases h : k = d
            · subst h
              rw [show s.1.length + 1 - 1 - k = 0 by omega]
              simp [px_up]
            · have := q2 k (by omega)
              rw [show s.1.length + 1 - 1 - k = (s.1.length - 1 - k) + 1 by omega]
              simp [px_up, h]
              simpa using this
          · have := q3 k hk
            simp only [lo_] at this ⊢
            simp [px_up]
            exact this
theorem xr_takeAny (hx : xr σ n o) (hn : n ≤ 10) : ∃ r τ, fx_Fitting_takeAny σ = some (r, τ) ∧ xe σ τ ∧ xw τ n ∧ ((r = -1 ∧ xr τ n none ∧ ∀ s, o = some s → s.1 = []) ∨ ∃ t, t < n ∧ r = nI t ∧ (o = none → τ 15 8 = 0) ∧ ∀ s, o = some s → ∃ st, s.1 = t :: st ∧ xr τ n (some (st, s.2))) := by
  obtain ⟨⟨d, hd, e1, e2, e3⟩, hno, hso⟩ := hx
  have len : ∀ s, o = some s → s.1.length = d := fun s h => by
    obtain ⟨-, hok, q, -⟩ := hso s h
    rw [e1] at q
    have := hok.1
    exact ((nI_eq (by omega) (by omega)).mp q).symm
  unfold fx_Fitting_takeAny
  by_cases h0 : d = 0
  · have hb := xr_bad (n := n) ⟨d, hd, e1, e2, e3⟩
    refine ⟨-1, tx_up σ 15 8 0, ?_, xe_15 σ 0 (Or.inr rfl), hb.1, Or.inl ⟨rfl, hb, fun s h => ?_⟩⟩
    · rw [if_pos (by rw [e1, h0]; rfl), px_bad]
    · have := len s h
      exact List.length_eq_zero_iff.mp (by omega)
  · obtain ⟨t, ht, et⟩ := e2 (d - 1) (by omega)
    have hw : xw (tx_up σ 15 6 (nI (d - 1))) n := by
      refine ⟨d - 1, by omega, by simp [px_up], fun k hk => ?_, fun k hk => ?_⟩
      · obtain ⟨u, hu, e⟩ := e2 k (by omega)
        exact ⟨u, hu, by simp [px_up]; exact e⟩
      · obtain ⟨v, hv, e⟩ := e3 k hk
        exact ⟨v, hv, by simp [px_up]; exact e⟩
    refine ⟨nI t, tx_up σ 15 6 (nI (d - 1)), ?_, xe_15 σ _ (Or.inl rfl), hw, Or.inr ⟨t, ht, rfl, fun h => by simp [px_up]; exact hno h, fun s h => ?_⟩⟩
    · rw [if_neg (by rw [e1]; exact fun z => h0 ((nI_z (by omega)).mp z)), px_pt, e1, show nI d - 1 = nI (d - 1) by rw [show (1 : Int32) = nI 1 by decide, pk_sub (by omega)], px_rd (j := d - 1) (by simp [px_up]) (by omega) (by decide)]
      simp [px_up, et]
    · have hl := len s h
      obtain ⟨hg, hok, q, q2, q3⟩ := hso s h
      obtain ⟨st0, l⟩ := s
      cases st0 with
      | nil => simp at hl; omega
      | cons u st =>
        simp only [List.length_cons] at hl
        have hu : u = t := by
          have h1 := q2 (d - 1) (by simp only [List.length_cons]; omega)
          simp only [List.length_cons] at h1
          rw [show st.length + 1 - 1 - (d - 1) = 0 by omega, et] at h1
          simp only [List.getD_cons_zero] at h1
          have h2 := (okS_tl hok).2
          exact ((nI_eq (by omega) (by omega)).mp h1).symm
        subst hu
        refine ⟨st, rfl, hw, (fun z => by cases z), fun s2 h2 => ?_⟩
        cases h2
        refine ⟨by simp [px_up]; exact hg, (okS_tl hok).1, ?_, fun k hk => ?_, fun k hk => ?_⟩
        · simp [px_up]
          rw [show d - 1 = st.length by omega]
        · have h1 := q2 k (by simp only [List.length_cons]; simp only at hk; omega)
          simp only [List.length_cons] at h1 hk ⊢
          rw [show st.length + 1 - 1 - k = (st.length - 1 - k) + 1 by omega] at h1
          simp [px_up]
          simpa using h1
        · have := q3 k hk
          simp only [lo_] at this ⊢
          simp [px_up]
          exact this
end XT
