/-! the invariant between calls; the calls one by one -/
/-- sealed -/
def iv_S (σ : tx_St) : Prop := ∃ (s0 : tx_St) (nC nF nM : Nat) (τ : Nat → Nat → TS) (K : Nat → Nat) (off md nh : Nat), Sx s0 nC nF nM τ ∧ (r16 s0 s0 τ nM ∧ r59 s0 s0 τ nM) ∧ pe s0 σ ∧ hp s0 nC nF σ σ K off md nh ∧ σ 0 5 = 1 ∧ off + md ≤ 320
def iv_I (σ : tx_St) : Prop := iv_P σ ∧ iv_R σ ∧ (iv_U σ ∨ iv_S σ)
section SE
variable {σ : tx_St}
theorem P_mk {nC nF nM : Nat} (h : iv_B σ nC nF nM) (h1 : σ 45 16 = σ 0 5) (h2 : σ 45 25 = σ 0 6) (h3 : σ 45 26 = σ 0 7) (h4 : σ 45 23 = σ 21 4) : iv_P σ := ⟨⟨⟨h.1.1.1, h.1.1.2.1, h.1.1.2.2, h1, h2, h3, h4⟩, h.1.2⟩, nC, nF, nM, h.2⟩
theorem I_sl (h : iv_I σ) (hs : iv_S σ) : ∃ r, r ≤ 40 ∧ σ 0 6 = nI r ∧ σ 45 25 = nI r ∧ ∃ (s0 : tx_St) (nC nF nM : Nat) (τ : Nat → Nat → TS) (K : Nat → Nat) (off md nh : Nat), Sx s0 nC nF nM τ ∧ (r16 s0 s0 τ nM ∧ r59 s0 s0 τ nM) ∧ pe s0 σ ∧ hp s0 nC nF σ σ K off md nh ∧ σ 0 5 = 1 ∧ σ 45 16 = 1 ∧ off + md ≤ 8 * r := by
  obtain ⟨hP, ⟨⟨r, k, r1, r2, r3, r4⟩, -⟩, -⟩ := h
  obtain ⟨s0, nC, nF, nM, τ, K, off, md, nh, a1, a2, a3, a4, a5, a6⟩ := hs
  refine ⟨r, r1, r2, hP.1.1.2.2.2.2.1.trans r2, s0, nC, nF, nM, τ, K, off, md, nh, a1, a2, a3, a4, a5, hP.1.1.2.2.2.1.trans a5, ?_⟩
  have h20 := a4.1.2.1
  rw [r4] at h20
  have := (nI_eq (by omega) (by omega)).mp h20
  omega
theorem I_s5 (h : iv_I σ) (hs : iv_S σ) : ¬ σ 0 5 = 0 ∧ ¬ σ 45 16 = 0 := by
  obtain ⟨r, -, -, -, s0, nC, nF, nM, τ, K, off, md, nh, -, -, -, -, a, b, -⟩ := I_sl h hs
  rw [a, b]
  decide
theorem I_addClass (h : iv_I σ) (a b : Int32) : ∃ r σ1 σ2, fx_X_addClass σ a b = some (r, σ1) ∧ fx_Mo_addClass σ1 a b = some (r, σ2) ∧ iv_I σ2 := by
  rcases h.2.2 with hU | hs
  · obtain ⟨r, σ1, σ2, e1, e2, q1, q2, q3⟩ := op_addClass h.1 h.2.1 hU a b
    exact ⟨r, σ1, σ2, e1, e2, q1, q2, Or.inl q3⟩
  · obtain ⟨g1, g2⟩ := I_s5 h hs
    refine ⟨-3, σ, σ, ?_, ?_, h⟩
    · unfold fx_X_addClass
      rw [if_neg g1]
    · unfold fx_Mo_addClass
      rw [if_neg g2]
theorem I_addField (h : iv_I σ) (a b d : Int32) : ∃ r σ1 σ2, fx_X_addField σ a b d = some (r, σ1) ∧ fx_Mo_addField σ1 a b d = some (r, σ2) ∧ iv_I σ2 := by
  rcases h.2.2 with hU | hs
  · obtain ⟨r, σ1, σ2, e1, e2, q1, q2, q3⟩ := op_addField h.1 h.2.1 hU a b d
    exact ⟨r, σ1, σ2, e1, e2, q1, q2, Or.inl q3⟩
  · obtain ⟨g1, g2⟩ := I_s5 h hs
    refine ⟨-3, σ, σ, ?_, ?_, h⟩
    · unfold fx_X_addField
      rw [if_neg g1]
    · unfold fx_Mo_addField
      rw [if_neg g2]
theorem I_addMethod (h : iv_I σ) (a b d f g : Int32) : ∃ r σ1 σ2, fx_X_addMethod σ a b d f g = some (r, σ1) ∧ fx_Mo_addMethod σ1 a b d f g = some (r, σ2) ∧ iv_I σ2 := by
  rcases h.2.2 with hU | hs
  · obtain ⟨r, σ1, σ2, e1, e2, q1, q2, q3⟩ := op_addMethod h.1 h.2.1 hU a b d f g
    exact ⟨r, σ1, σ2, e1, e2, q1, q2, Or.inl q3⟩
  · obtain ⟨g1, g2⟩ := I_s5 h hs
    refine ⟨-3, σ, σ, ?_, ?_, h⟩
    · unfold fx_X_addMethod
      rw [if_neg g1]
    · unfold fx_Mo_addMethod
      rw [if_neg g2]
theorem I_emit (h : iv_I σ) (a b d : Int32) : ∃ r σ1 σ2, fx_X_emit σ a b d = some (r, σ1) ∧ fx_Mo_emit σ1 a b d = some (r, σ2) ∧ iv_I σ2 := by
  rcases h.2.2 with hU | hs
  · obtain ⟨r, σ1, σ2, e1, e2, q1, q2, q3⟩ := op_emit h.1 h.2.1 hU a b d
    exact ⟨r, σ1, σ2, e1, e2, q1, q2, Or.inl q3⟩
  · obtain ⟨g1, g2⟩ := I_s5 h hs
    refine ⟨-3, σ, σ, ?_, ?_, h⟩
    · unfold fx_X_emit
      rw [if_neg g1]
    · unfold fx_Mo_emit
      rw [if_neg g2]
theorem I_clear (h : iv_I σ) : ∃ σ1 σ2, fx_X_clear σ = some σ1 ∧ fx_Mo_clear σ1 = some σ2 ∧ iv_I σ2 := by
  obtain ⟨σ1, σ2, e1, e2, q1, q2, q3⟩ := op_clear h.1 h.2.1
  exact ⟨σ1, σ2, e1, e2, q1, q2, Or.inl q3⟩
/-- check -/
theorem I_check (h : iv_I σ) : ∃ r σ1 σ2, fx_X_check σ = some (r, σ1) ∧ fx_Mo_check σ1 = some (r, σ2) ∧ iv_I σ2 := by
  rcases h.2.2 with hU | hs
  · obtain ⟨hP, hR, -⟩ := h
    obtain ⟨hsy, nC, nF, nM, hpl⟩ := hP
    have hB : iv_B σ nC nF nM := ⟨iv_sy_sz hsy, hpl⟩
    have hb := B_n hB
    obtain ⟨u1, u2, u3, u4⟩ := hU
    have hτ0 : ∀ m, ∃ t, m < nM → OKM σ nC nF nM m (N_ (σ 12 m)) → okM σ nC nF nM m (N_ (σ 12 m)) t := fun m => by
      rcases Classical.em (OKM σ nC nF nM m (N_ (σ 12 m))) with ⟨t, ht⟩ | hn
      · exact ⟨t, fun _ _ => ht⟩
      · exact ⟨fun _ => ([], 0, 0, 0), fun _ z => absurd z hn⟩
    obtain ⟨τ, hτ⟩ : ∃ τ : Nat → Nat → TS, ∀ m, m < nM → OKM σ nC nF nM m (N_ (σ 12 m)) → okM σ nC nF nM m (N_ (σ 12 m)) (τ m) := ⟨fun m => (hτ0 m).choose, fun m => (hτ0 m).choose_spec⟩
    obtain ⟨σ1, e1, hX⟩ := X_chk hB u1 hτ
    have n8 : chk σ nC nF nM τ < 8000 := chk_lt hB
    have c45 : σ 45 16 = 0 := hsy.1.2.2.2.1.trans u1
    -- what both ends share
    have hsh : ∃ ρ', xK σ ρ' ∧ (∀ p, p ≠ 0 → σ1 p = ρ' p) ∧ ∀ j, j ≠ 5 → σ1 0 j = ρ' 0 j := by
      rcases hX with ⟨-, hx⟩ | ⟨-, ρ', hx, rfl, -⟩
      · exact ⟨σ1, hx, fun _ _ => rfl, fun _ _ => rfl⟩
      · exact ⟨ρ', hx, fun p hp => tx_up_ne _ _ _ hp, fun j hj => px_upN (Or.inr hj)⟩
    obtain ⟨ρ', hx, hp1, hp2⟩ := hsh
    have w1 : ∀ p, p ≠ 0 → (p < 15 ∨ 19 < p) → σ1 p = σ p := fun p h0 h1 => (hp1 p h0).trans (hx p h1)
    have w0 : ∀ j, j ≠ 5 → σ1 0 j = σ 0 j := fun j hj => by rw [hp2 j hj, hx 0 (by omega)]
    have hB1 : iv_B σ1 nC nF nM := B_eq hB (fun k hk => w1 k (by omega) (by omega))
    have ag1 : ag σ σ1 := fun k a b => w1 k (by omega) (by omega)
    have h12 : σ1 12 = σ 12 := w1 12 (by decide) (by decide)
    have hτ1 : ∀ m, m < nM → OKM σ1 nC nF nM m (N_ (σ1 12 m)) → okM σ1 nC nF nM m (N_ (σ1 12 m)) (τ m) := fun m hm => by
      rw [h12, ag_OKM ag1, ag_okM ag1]
      exact hτ m hm
    obtain ⟨ρ2, e2, hy, h59⟩ := Mo_brk hB1 hτ1
    rw [ag_chk ag1] at e2 h59
    have z16 : σ1 45 16 = 0 := by rw [w1 45 (by decide) (by decide)]; exact c45
    have y1 : ∀ p, p ≠ 45 → p ≠ 59 → p ≠ 60 → ρ2 p = σ1 p := hy.1
    have eM : fx_Mo_check σ1 = (if nI (chk σ nC nF nM τ) = 0 then fx_Mo_check_b24 ρ2 (nI (chk σ nC nF nM τ)) 1 else fx_Mo_check_b24 ρ2 (nI (chk σ nC nF nM τ)) 0) := by
      unfold fx_Mo_check
      rw [if_pos z16, e2, px_ci]
    have hR2 : ∀ v : Int32, iv_R (tx_up ρ2 45 16 v) := fun v => by
      obtain ⟨⟨r, k, r1, r2, r3, r4⟩, r5⟩ := hR
      refine ⟨⟨r, k, r1, ?_, r3, ?_⟩, ?_⟩
      · rw [tx_up_ne _ _ _ (by decide), y1 0 (by decide) (by decide) (by decide), w0 6 (by decide)]; exact r2
      · rw [px_upN (Or.inr (by decide)), hy.2 20 (by decide), w1 45 (by decide) (by decide)]; exact r4
      · rw [tx_up_ne _ _ _ (by decide), y1 22 (by decide) (by decide) (by decide), w1 22 (by decide) (by decide)]; exact r5
    have hB2 : ∀ v : Int32, iv_B (tx_up ρ2 45 16 v) nC nF nM := fun v => B_eq45 (yK_B hB1 hy) (fun k hk => tx_up_ne _ _ _ (by omega)) (fun j hj => px_upN (Or.inr (by omega)))
    have hQ2 : ∀ v : Int32, iv_Q (tx_up ρ2 45 16 v) := fun v => iv_Q_up u4 (by rw [tx_up_ne _ _ _ (by decide), y1 1 (by decide) (by decide) (by decide), w1 1 (by decide) (by decide)]) (by rw [tx_up_ne _ _ _ (by decide), y1 7 (by decide) (by decide) (by decide), w1 7 (by decide) (by decide)]) (by rw [tx_up_ne _ _ _ (by decide), y1 9 (by decide) (by decide) (by decide), w1 9 (by decide) (by decide)])
    have hP2 : ∀ v : Int32, σ1 0 5 = v → iv_P (tx_up ρ2 45 16 v) := fun v hv => by
      refine P_mk (hB2 v) ?_ ?_ ?_ ?_
      · rw [px_up, if_pos rfl, if_pos rfl, tx_up_ne _ _ _ (by decide), y1 0 (by decide) (by decide) (by decide), hv]
      · rw [px_upN (Or.inr (by decide)), tx_up_ne _ _ _ (by decide), hy.2 25 (by decide), y1 0 (by decide) (by decide) (by decide), w0 6 (by decide), w1 45 (by decide) (by decide)]
        exact hsy.1.2.2.2.2.1
      · rw [px_upN (Or.inr (by decide)), tx_up_ne _ _ _ (by decide), hy.2 26 (by decide), y1 0 (by decide) (by decide) (by decide), w0 7 (by decide), w1 45 (by decide) (by decide)]
        exact hsy.1.2.2.2.2.2.1
      · rw [px_upN (Or.inr (by decide)), tx_up_ne _ _ _ (by decide), hy.2 23 (by decide), y1 21 (by decide) (by decide) (by decide), w1 21 (by decide) (by decide), w1 45 (by decide) (by decide)]
        exact hsy.1.2.2.2.2.2.2
    have t3 : ∀ v : Int32, (tx_up ρ2 45 16 v) 21 3 = 0 ∧ (tx_up ρ2 45 16 v) 21 4 = 0 := fun v => by
      rw [tx_up_ne _ _ _ (by decide), y1 21 (by decide) (by decide) (by decide), w1 21 (by decide) (by decide)]
      exact ⟨u2, u3⟩
    rcases hX with ⟨hc, hx'⟩ | ⟨hc, ρ'', hx'', hσ1, h16⟩
    · have n0 : ¬ nI (chk σ nC nF nM τ) = 0 := nI_ne0 (by omega) (by omega)
      have v5 : σ1 0 5 = 0 := by rw [hx' 0 (by omega)]; exact u1
      refine ⟨_, σ1, tx_up ρ2 45 16 0, e1, ?_, hP2 0 v5, hR2 0, Or.inl ⟨?_, (t3 0).1, (t3 0).2, hQ2 0⟩⟩
      · rw [eM, if_neg n0]
        unfold fx_Mo_check_b24
        rw [px_pz (Or.inl rfl)]
      · rw [tx_up_ne _ _ _ (by decide), y1 0 (by decide) (by decide) (by decide)]; exact v5
    · have n0 : nI (chk σ nC nF nM τ) = 0 := by rw [hc]; rfl
      have v5 : σ1 0 5 = 1 := by rw [hσ1, px_up, if_pos rfl, if_pos rfl]
      obtain ⟨k1, k2, k3, k4⟩ := chk_0 hc
      have ag2 : ag σ (tx_up ρ2 45 16 1) := fun k a b => by rw [tx_up_ne _ _ _ (by omega), y1 k (by omega) (by omega) (by omega)]; exact ag1 k a b
      have h12' : (tx_up ρ2 45 16 1) 12 = σ 12 := ag2 12 (by decide) (by decide)
      obtain ⟨⟨r, k, r1, r2, r3, r4⟩, r5⟩ := hR2 1
      refine ⟨_, σ1, tx_up ρ2 45 16 1, e1, ?_, hP2 1 v5, hR2 1, Or.inr ⟨tx_up ρ2 45 16 1, nC, nF, nM, τ, fun _ => 0, k, 0, 0, ⟨hB2 1, ag_Ck ag2 (fun m hm => hτ m hm (k3 m hm)), fun f hf => ?_, fun m hm => ?_, fun m hm i hi => ?_, hQ2 1⟩, ⟨fun m hm i hi => ?_, fun m hm i hi => ?_⟩, ⟨fun _ _ => rfl, fun _ _ => rfl⟩, ⟨⟨(t3 1).1, r4, r5⟩, ⟨fun u a b => by omega, fun u a b => by omega⟩, (t3 1).2, ?_, by omega, fun u a => by omega⟩, ?_, by omega⟩⟩
      · rw [eM, if_pos n0]
        unfold fx_Mo_check_b24
        rw [px_pz (Or.inr rfl)]
      · rw [ag_ru1 ag2]; exact k1 f hf
      · rw [ag_ru3 ag2]; exact k2 m hm
      · rw [ag_brk ag2, ag_brk ag2]
        rw [h12'] at hi
        exact k4 m hm i hi
      · rw [h12'] at hi
        rw [tx_up_ne _ _ _ (by decide), y1 16 (by decide) (by decide) (by decide), hσ1, tx_up_ne _ _ _ (by decide)]
        exact h16 m hm i hi
      · rw [h12'] at hi
        rw [tx_up_ne _ _ _ (by decide)]
        exact h59 hc m hm i (by rw [h12]; exact hi)
      · have := (hP2 1 v5).1.1.2.2.2.2.2.2
        rw [this]
        exact (t3 1).2
      · rw [tx_up_ne _ _ _ (by decide), y1 0 (by decide) (by decide) (by decide)]; exact v5
  · obtain ⟨g1, g2⟩ := I_s5 h hs
    refine ⟨0, σ, σ, ?_, ?_, h⟩
    · unfold fx_X_check
      rw [if_neg g1]
    · unfold fx_Mo_check
      rw [if_neg g2]
/-- unsealed: nothing is held -/
theorem U_h (h : iv_I σ) (hU : iv_U σ) (x : Int32) : fx_Heap_inHandle σ x = some (0, σ) ∧ fx_Mo_holds σ x = some (0, σ) := by
  have h4 := hU.2.2.1
  have h23 : σ 45 23 = 0 := h.1.1.1.2.2.2.2.2.2.trans h4
  have hn : ¬ (¬ x < 0 ∧ ¬ (0 : Int32) ≤ x) := fun z => by
    obtain ⟨j, hj, -⟩ := (px_in (x := x) (n := 0) (by decide)).mp z
    omega
  rw [fx_Mo_holds_e, h23, b01, if_neg hn]
  refine ⟨?_, rfl⟩
  unfold fx_Heap_inHandle fx_Heap_inHandle_b21 fx_Heap_inHandle_b22
  rw [h4]
  by_cases h1 : x < 0
  · rw [if_pos h1]
  · rw [if_neg h1, if_pos (Classical.byContradiction fun z => hn ⟨h1, z⟩)]
theorem I_held (h : iv_I σ) (x : Int32) : ∃ r, fx_X_held σ x = some (r, σ) ∧ fx_Mo_held σ x = some (r, σ) := by
  rcases h.2.2 with hU | hs
  · obtain ⟨e1, e2⟩ := U_h h hU x
    unfold fx_X_held fx_X_held_b26 fx_Mo_held fx_Mo_held_b25
    rw [e1, e2, px_ci, px_ci, if_pos rfl, if_pos rfl]
    exact ⟨_, rfl, rfl⟩
  · obtain ⟨r, q1, q2, q3, s0, nC, nF, nM, τ, K, off, md, nh, a1, a2, a3, a4, a5, a6, a7⟩ := I_sl h hs
    exact held_e a4 (by omega) x
theorem I_look (h : iv_I σ) (x y : Int32) : ∃ r, fx_X_look σ x y = some (r, σ) ∧ fx_Mo_look σ x y = some (r, σ) := by
  rcases h.2.2 with hU | hs
  · obtain ⟨e1, e2⟩ := U_h h hU x
    unfold fx_X_look fx_Mo_look
    rw [e1, e2, px_ci, px_ci, if_pos rfl, if_pos rfl]
    exact ⟨_, rfl, rfl⟩
  · obtain ⟨r, q1, q2, q3, s0, nC, nF, nM, τ, K, off, md, nh, a1, a2, a3, a4, a5, a6, a7⟩ := I_sl h hs
    exact look_e a1 a3 a3 a4 (by omega) x y
theorem I_typesAt (h : iv_I σ) (x y : Int32) : ∃ r, fx_X_typesAt σ x y = some (r, σ) ∧ fx_Mo_typesAt σ x y = some (r, σ) := by
  unfold fx_X_typesAt fx_X_typesAt_b18 fx_Mo_typesAt fx_Mo_typesAt_b29 fx_Mo_typesAt_b44
  rcases h.2.2 with hU | hs
  · have h5 := hU.1
    have h16 : σ 45 16 = 0 := h.1.1.1.2.2.2.1.trans h5
    rw [if_pos h5, if_pos h16]
    exact ⟨_, rfl, rfl⟩
  · obtain ⟨g1, g2⟩ := I_s5 h hs
    obtain ⟨r, q1, q2, q3, s0, nC, nF, nM, τ, K, off, md, nh, a1, ⟨a2, a2'⟩, a3, a4, a5, a6, a7⟩ := I_sl h hs
    have hBs := pe_B a1.1 a3
    have hb := B_n a1.1
    have m2 : σ 1 2 = nI nM := hBs.2.2.1.2.2
    have m7 : σ 45 7 = nI nM := hBs.1.1.2.2.trans m2
    rw [if_neg g1, if_neg g2, fx_Plan_isMethod_e, fx_Mo_isMethod_e, px_ci, px_ci, m2, m7]
    by_cases hm : ∃ m, m < nM ∧ x = nI m
    · have hm1 := (px_in (x := x) (n := nM) (by omega)).mpr hm
      obtain ⟨m, hm, rfl⟩ := hm
      obtain ⟨l1, l2, -⟩ := B_m12 a1.1 hm
      have e12 : σ 12 m = nI (N_ (s0 12 m)) := by rw [a3.1 12 (by decide)]; exact l2
      have e56 : σ 56 m = nI (N_ (s0 12 m)) := by rw [a3.1 56 (by decide), a1.1.1.2.2.2.2.2.2.2.2.2.1]; exact l2
      unfold fx_Plan_isInstruction fx_Plan_isInstruction_b18 fx_Plan_isInstruction_b19
      rw [b01, if_pos hm1, if_neg (show ¬ (1 : Int32) = 0 by decide), if_neg (show ¬ (1 : Int32) = 0 by decide), px_rd (j := m) rfl (by omega) (by decide), e12]
      by_cases hy : y < 0
      · rw [if_pos hy, if_pos hy, px_rz (Or.inl rfl), px_ci, if_pos rfl]
        exact ⟨_, rfl, rfl⟩
      · rw [if_neg hy, if_neg hy, px_rd (j := m) rfl (by omega) (by decide), e56]
        by_cases hl : nI (N_ (s0 12 m)) ≤ y
        · have hl2 : ¬ y < nI (N_ (s0 12 m)) := fun z => by
            have := Int32.lt_of_lt_of_le z hl
            exact Int32.lt_irrefl this
          rw [if_pos hl, if_neg hl2, px_rz (Or.inl rfl), px_ci, if_pos rfl]
          exact ⟨_, rfl, rfl⟩
        · obtain ⟨i, hi, rfl⟩ := (px_in (x := y) (n := N_ (s0 12 m)) (by omega)).mp ⟨hy, hl⟩
          have hx12 : nI m * 12 + nI i = nI (12 * m + i) := by rw [px_ix12r, nI_add]
          have hx12' : (12 : Int32) * nI m + nI i = nI (12 * m + i) := by rw [px_ix12s, nI_add]
          rw [if_neg hl, if_pos (nI_lt hi (by omega)), px_rz (Or.inr rfl), px_ci, if_neg (show ¬ (1 : Int32) = 0 by decide), hx12, hx12', px_rd (j := 12 * m + i) rfl (by omega) (by decide), px_rd (j := 12 * m + i) rfl (by omega) (by decide), a3.1 16 (by decide), a3.1 59 (by decide), a2 m hm i hi, a2' m hm i hi]
          exact ⟨_, rfl, rfl⟩
    · have hm1 : ¬ (¬ x < 0 ∧ ¬ nI nM ≤ x) := fun z => hm ((px_in (by omega)).mp z)
      rw [b01, if_neg hm1, if_pos rfl, if_pos rfl]
      exact ⟨_, rfl, rfl⟩
/-- run -/
theorem I_run (h : iv_I σ) (x y z : Int32) : ∃ r σ1 σ2, fx_X_run σ x y z = some (r, σ1) ∧ fx_Mo_run σ1 x y z = some (r, σ2) ∧ iv_I σ2 := by
  rcases h.2.2 with hU | hs
  · have h5 := hU.1
    have h16 : σ 45 16 = 0 := h.1.1.1.2.2.2.1.trans h5
    refine ⟨68719476736, σ, σ, ?_, ?_, h⟩
    · unfold fx_X_run fx_X_run_b27
      rw [if_pos h5]
    · unfold fx_Mo_run fx_Mo_refuses fx_Mo_refuses_b24
      rw [if_pos h16, px_ci, if_neg (show ¬ (1 : Int32) = 0 by decide)]
  · obtain ⟨g1, g2⟩ := I_s5 h hs
    obtain ⟨r, q1, q2, q3, s0, nC, nF, nM, τ, K, off, md, nh, a1, a2, a3, a4, a5, a6, a7⟩ := I_sl h hs
    have h7 : σ 0 7 = σ 45 26 := h.1.1.1.2.2.2.2.2.1.symm
    obtain ⟨v0, σ1, ρ0, e1, -, ⟨f1, f2, -⟩⟩ := run_e a1 a3 a3 a4 g1 g2 q2 q3 q1 a7 h7 x y z
    have c45 : ∀ p, 44 < p → σ1 p = σ p := fun p hp => f1 p (Or.inr hp)
    have pr : pe s0 σ1 := ⟨fun p hp => (f1 p (by omega)).trans (a3.1 p hp), fun j hj => by rw [c45 45 (by decide)]; exact a3.2 j hj⟩
    have hh1 : hp s0 nC nF σ σ1 K off md nh := hp_eq a4 (fun _ _ _ => rfl) (fun p p1 p2 => c45 p (by omega)) (by rw [c45 45 (by decide)]) (by rw [c45 45 (by decide)])
    obtain ⟨v, σ1', σ2, e1', e2, ⟨w1, w2, w3, w4, K', md', nh', r', w5, w6, w7, w8, w9, w10⟩⟩ := run_e a1 a3 pr hh1 g1 (by rw [c45 45 (by decide)]; exact g2) q2 (by rw [c45 45 (by decide)]; exact q3) q1 a7 (by rw [c45 45 (by decide)]; exact h7) x y z
    rw [e1] at e1'
    have e3 : (v0, σ1) = (v, σ1') := Option.some.inj e1'
    obtain ⟨rfl, rfl⟩ := Prod.mk.inj e3
    have b0 : ∀ p, p < 45 → σ2 p = σ1 p := fun p hp => w3 p (Or.inl hp)
    have p2 : pe s0 σ2 := ⟨fun p hp => (w3 p (by omega)).trans (pr.1 p hp), fun j hj => (w4 j hj).trans (pr.2 j hj)⟩
    have hh2 : hp s0 nC nF σ2 σ2 K' off md' nh' := hp_eq w5 (fun p p1 p2 => b0 p (by omega)) (fun _ _ _ => rfl) rfl rfl
    have s5 : σ2 0 5 = 1 := by rw [b0 0 (by decide), w2]; exact a5
    have s16 : σ2 45 16 = 1 := by rw [w4 16 (by omega), c45 45 (by decide)]; exact a6
    refine ⟨v0, σ1, σ2, e1, e2, P_mk (pe_B a1.1 p2) (s16.trans s5.symm) ?_ ?_ ?_, ⟨⟨r', off + md', w8, ?_, w9, hh2.1.2.1⟩, hh2.1.2.2⟩, Or.inr ⟨s0, nC, nF, nM, τ, K', off, md', nh', a1, a2, p2, hh2, s5, by omega⟩⟩
    · rw [w7, b0 0 (by decide), w6]
    · rw [b0 0 (by decide), w10]
    · rw [hh2.2.2.1, hh2.2.2.2.1]
    · rw [b0 0 (by decide), w6]
end SE
