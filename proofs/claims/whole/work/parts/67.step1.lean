/-! one step of both machines, instruction by instruction: those that stay in their frame -/
/-- the same plan -/
def pe (s0 σ : tx_St) : Prop := (∀ p, ((1 ≤ p ∧ p ≤ 14) ∨ p = 16 ∨ (46 ≤ p ∧ p ≤ 59)) → σ p = s0 p) ∧ ∀ j, (j = 0 ∨ j = 3 ∨ j = 7 ∨ j = 16) → σ 45 j = s0 45 j
/-- a good check's facts -/
def Sx (s0 : tx_St) (nC nF nM : Nat) (τ : Nat → Nat → TS) : Prop := iv_B s0 nC nF nM ∧ Ck s0 nC nF nM τ ∧ (∀ f, f < nF → ¬ ru1 s0 f) ∧ (∀ m, m < nM → ¬ ru3 s0 nM m) ∧ (∀ m, m < nM → ∀ i, i < N_ (s0 12 m) → ¬ brk s0 τ 5 m i ∧ ¬ brk s0 τ 6 m i) ∧ iv_Q s0
def GC (k : Nat) (σ σ' : tx_St) : Prop := (∀ p, (p < 21 ∨ p = 24 ∨ p = 26 ∨ (27 ≤ p ∧ p < 27 + 3 * k) ∨ 29 + 3 * k < p) → σ' p = σ p) ∧ σ' 25 0 = σ 25 0 ∧ σ' 25 5 = σ 25 5
def GM (k : Nat) (ρ ρ' : tx_St) : Prop := (∀ p, (p < 45 ∨ (46 ≤ p ∧ p ≤ 60) ∨ p = 63 ∨ 68 < p) → ρ' p = ρ p) ∧ (∀ j, j ≠ 20 → j ≠ 27 → ρ' 45 j = ρ 45 j) ∧ (∀ j, j ≠ k → ρ' 64 j = ρ 64 j ∧ ρ' 65 j = ρ 65 j ∧ ρ' 66 j = ρ 66 j) ∧ (∀ j, (j < 4 * k ∨ 4 * k + 4 ≤ j) → ρ' 67 j = ρ 67 j) ∧ ∀ j, (j < 3 * k ∨ 3 * k + 3 ≤ j) → ρ' 68 j = ρ 68 j
theorem GC_e {k : Nat} {σ σ' : tx_St} (h : eC k σ σ') : GC k σ σ' := ⟨fun p hp => h p (by omega), by rw [h 25 (by omega)], by rw [h 25 (by omega)]⟩
theorem GM_e {k : Nat} {σ σ' : tx_St} (h : eM k σ σ') : GM k σ σ' := ⟨fun p hp => h.1 p (by omega), fun j _ _ => by rw [h.1 45 (by decide)], h.2.1, h.2.2.1, h.2.2.2⟩
theorem GC_tr {k : Nat} {a b c : tx_St} (h1 : GC k a b) (h2 : GC k b c) : GC k a c := ⟨fun p hp => (h2.1 p hp).trans (h1.1 p hp), h2.2.1.trans h1.2.1, h2.2.2.trans h1.2.2⟩
theorem GM_tr {k : Nat} {a b c : tx_St} (h1 : GM k a b) (h2 : GM k b c) : GM k a c := ⟨fun p hp => (h2.1 p hp).trans (h1.1 p hp), fun j x y => (h2.2.1 j x y).trans (h1.2.1 j x y), fun j hj => ⟨(h2.2.2.1 j hj).1.trans (h1.2.2.1 j hj).1, (h2.2.2.1 j hj).2.1.trans (h1.2.2.1 j hj).2.1, (h2.2.2.1 j hj).2.2.trans (h1.2.2.1 j hj).2.2⟩, fun j hj => (h2.2.2.2.1 j hj).trans (h1.2.2.2.1 j hj), fun j hj => (h2.2.2.2.2 j hj).trans (h1.2.2.2.2 j hj)⟩
/-- the state before a step: the top frame is k -/
def SS (s0 : tx_St) (nC nF nM : Nat) (τ : Nat → Nat → TS) (σ ρ : tx_St) (K : Nat → Nat) (off md nh mc k m i : Nat) : Prop := (pe s0 σ ∧ pe s0 ρ) ∧ hp s0 nC nF σ ρ K off md nh ∧ (ρ 45 28 = nI (k + 1) ∧ σ 25 5 = nI (k + 1) ∧ k < 6) ∧ (σ 25 6 = nI mc ∧ ρ 45 27 = nI mc ∧ mc ≤ 8 ∧ off + md ≤ 312 + mc) ∧ (m < nM ∧ i < N_ (s0 12 m)) ∧ TF (vr s0 K off md) σ ρ k m i (τ m i)
/-- what a step that stays leaves -/
def NR (s0 : tx_St) (nC nF : Nat) (τ : Nat → Nat → TS) (σ ρ : tx_St) (K : Nat → Nat) (off md nh mc k m : Nat) (r : Int32) (σ' ρ' : tx_St) : Prop := ∃ K' md' mc', (GC k σ σ' ∧ GM k ρ ρ') ∧ (md ≤ md' ∧ (∀ u, u ≤ md → K' u = K u) ∧ md' + mc = md + mc' ∧ mc' ≤ 8) ∧ hp s0 nC nF σ' ρ' K' off md' nh ∧ (σ' 25 6 = nI mc' ∧ ρ' 45 27 = nI mc') ∧ ((r = 0 ∧ ∃ i', i' < N_ (s0 12 m) ∧ TF (vr s0 K' off md') σ' ρ' k m i' (τ m i')) ∨ (r = 1 ∨ r = 4))
section S1
variable {s0 σ ρ : tx_St} {nC nF nM off md nh mc k m i : Nat} {K : Nat → Nat} {τ : Nat → Nat → TS}
theorem pe_B (hB : iv_B s0 nC nF nM) (h : pe s0 σ) : iv_B σ nC nF nM := B_eq45 hB (fun p hp => h.1 p (by omega)) (fun j hj => h.2 j (by omega))
theorem pe_ag (h : pe s0 σ) : ag s0 σ := fun p h1 h2 => h.1 p (by omega)
theorem pe_GC {σ' : tx_St} (h : pe s0 σ) (hg : GC k σ σ') (hk : k < 6) : pe s0 σ' := ⟨fun p hp => (hg.1 p (by omega)).trans (h.1 p hp), fun j hj => by rw [hg.1 45 (by omega)]; exact h.2 j hj⟩
theorem pe_GM {ρ' : tx_St} (h : pe s0 ρ) (hg : GM k ρ ρ') : pe s0 ρ' := ⟨fun p hp => (hg.1 p (by omega)).trans (h.1 p hp), fun j hj => (hg.2.1 j (by omega) (by omega)).trans (h.2 j hj)⟩
theorem NR_e {σ' ρ' : tx_St} {i' : Nat} (h : SS s0 nC nF nM τ σ ρ K off md nh mc k m i) (h1 : eC k σ σ') (h2 : eM k ρ ρ') (hi : i' < N_ (s0 12 m)) (ht : TF (vr s0 K off md) σ' ρ' k m i' (τ m i')) : NR s0 nC nF τ σ ρ K off md nh mc k m 0 σ' ρ' := by
  obtain ⟨-, hh, -, ⟨c1, c2, c3, -⟩, -, -⟩ := h
  exact ⟨K, md, mc, ⟨GC_e h1, GM_e h2⟩, ⟨Nat.le_refl _, fun _ _ => rfl, rfl, c3⟩, hp_e hh h1 h2, ⟨by rw [h1 25 (by omega)]; exact c1, by rw [h2.1 45 (by decide)]; exact c2⟩, Or.inl ⟨rfl, i', hi, ht⟩⟩
/-- what the check says of the instruction at hand -/
theorem nx_s (hS : Sx s0 nC nF nM τ) (hm : m < nM) (hi : i < N_ (s0 12 m)) {op : Nat} (hop : op ≤ 19) (e : s0 13 (12 * m + i) = nI op) : ∃ s, tr s0 nC nF nM m op (s0 14 (12 * m + i)) (τ m i) = some s ∧ okS (nC + 2) s ∧ ∀ x ∈ sc s0 m i, ∃ j, j < N_ (s0 12 m) ∧ x = nI j ∧ τ m j = s := by
  obtain ⟨s, h, h2⟩ := (hS.2.1 m hm).2.2.2.1 i hi
  unfold tri at h
  rw [e, N_nI (by omega)] at h
  exact ⟨s, h, tr_ok hS.1 hm ((hS.2.1 m hm).2.2.1 i hi) h, h2⟩
theorem nx_1 (hS : Sx s0 nC nF nM τ) (hm : m < nM) (hi : i < N_ (s0 12 m)) {s : TS} (h5 : ¬ s0 13 (12 * m + i) = 5) (h6 : ¬ s0 13 (12 * m + i) = 6) (h19 : ¬ s0 13 (12 * m + i) = 19) (h : ∀ x ∈ sc s0 m i, ∃ j, j < N_ (s0 12 m) ∧ x = nI j ∧ τ m j = s) : i + 1 < N_ (s0 12 m) ∧ τ m (i + 1) = s := by
  have hl := (B_m12 hS.1 hm).1
  obtain ⟨j, h1, h2, h3⟩ := h (nI i + 1) (by unfold sc; rw [if_neg h5, if_neg h19, if_neg h6]; simp)
  rw [nI_1] at h2
  have : i + 1 = j := (nI_eq (by omega) (by omega)).mp h2
  subst this
  exact ⟨h1, h3⟩
/-- both sides have gone on to the next instruction -/
theorem SS_adv (hS : Sx s0 nC nF nM τ) (h : SS s0 nC nF nM τ σ ρ K off md nh mc k m i) : ∃ σ3 ρ6, σ3 = tx_up σ (27 + 3 * k) 1 (nI (i + 1)) ∧ ρ6 = tx_up ρ 65 k (nI (i + 1)) ∧ eC k σ σ3 ∧ eM k ρ ρ6 ∧ TF (vr s0 K off md) σ3 ρ6 k m (i + 1) (τ m i) ∧ ρ6 45 28 = nI (k + 1) ∧ okS (nC + 2) (τ m i) ∧ okK nC md K ∧ 12 * m + i < 96 ∧ k < 6 ∧ hp s0 nC nF σ3 ρ6 K off md nh := by
  obtain ⟨-, hh, ⟨u1, u2, u3⟩, -, ⟨m1, m2⟩, ht⟩ := h
  have hb := B_n hS.1
  have hl := (B_m12 hS.1 m1).1
  have e1 : eC k σ (tx_up σ (27 + 3 * k) 1 (nI (i + 1))) := eC_u σ _ (by omega) (by omega)
  have e2 : eM k ρ (tx_up ρ 65 k (nI (i + 1))) := eM_u ρ _ (Or.inl ⟨by omega, rfl⟩)
  exact ⟨_, _, rfl, rfl, e1, e2, TF_next ht, by rw [tx_up_ne _ _ _ (by decide)]; exact u1, Ck_ok hS.2.1 m1 m2, hh.2.1.1, by omega, u3, hp_e hh e1 e2⟩
/-- the simple forms' premises -/
theorem SS_C (h : SS s0 nC nF nM τ σ ρ K off md nh mc k m i) : σ (27 + 3 * k) 0 = nI m ∧ σ (27 + 3 * k) 1 = nI i ∧ σ 13 = s0 13 ∧ σ 14 = s0 14 := ⟨h.2.2.2.2.2.1.1, h.2.2.2.2.2.1.2.1, h.1.1.1 13 (by decide), h.1.1.1 14 (by decide)⟩
theorem SS_M (hS : Sx s0 nC nF nM τ) (h : SS s0 nC nF nM τ σ ρ K off md nh mc k m i) : ρ 64 k = nI m ∧ ρ 65 k = nI i ∧ ρ 45 28 = nI (k + 1) ∧ k < 6 ∧ ρ 57 = s0 13 ∧ ρ 58 = s0 14 := ⟨h.2.2.2.2.2.2.1.1, h.2.2.2.2.2.2.1.2.1, h.2.2.1.1, h.2.2.1.2.2, (h.1.2.1 57 (by decide)).trans hS.1.1.2.2.2.2.2.2.2.2.2.2.1, (h.1.2.1 58 (by decide)).trans hS.1.1.2.2.2.2.2.2.2.2.2.2.2⟩
/-- the step's answer, both sides -/
def SR (s0 : tx_St) (nC nF : Nat) (τ : Nat → Nat → TS) (σ ρ : tx_St) (K : Nat → Nat) (off md nh mc k m : Nat) : Prop := ∃ r σ' ρ', fx_Machine_step σ (27 + 3 * k) = some (r, σ') ∧ fx_Mo_once ρ = some (r, ρ') ∧ NR s0 nC nF τ σ ρ K off md nh mc k m r σ' ρ'
/-- instructions that push a value -/
theorem SR_push (hS : Sx s0 nC nF nM τ) (h : SS s0 nC nF nM τ σ ρ K off md nh mc k m i) {t : Nat} {s : TS} {x y : Int32} (hg : gv t (τ m i) = some s) (hn : i + 1 < N_ (s0 12 m) ∧ τ m (i + 1) = s) (hv : vr s0 K off md t x y)
    (eC1 : fx_Machine_step σ (27 + 3 * k) = tx_cv (fx_Frame_push (tx_up σ (27 + 3 * k) 1 (nI (i + 1))) (27 + 3 * k) x) fun w => some ((0 : Int32), w)) (eM1 : fx_Mo_once ρ = tx_cv (fx_Mo_push (tx_up ρ 65 k (nI (i + 1))) y) fun w => some ((0 : Int32), w)) : SR s0 nC nF τ σ ρ K off md nh mc k m := by
  obtain ⟨σ3, ρ6, e3, e6, a1, a2, a3, a4, a5, a6, a7, a8, a9⟩ := SS_adv hS h
  obtain ⟨σ', ρ', b1, b2, b3, b4, b5, b6⟩ := pp_push a4 a8 a3 a5 hg hv
  refine ⟨0, σ', ρ', ?_, ?_, NR_e h (eC_tr a1 b4) (eM_tr a2 b5) hn.1 (by rw [hn.2]; exact b3)⟩
  · rw [eC1, ← e3, b1, px_cv]
  · rw [eM1, ← e6, b2, px_cv]
theorem SR_0 (hS : Sx s0 nC nF nM τ) (h : SS s0 nC nF nM τ σ ρ K off md nh mc k m i) (e : s0 13 (12 * m + i) = (0 : Int32)) : SR s0 nC nF τ σ ρ K off md nh mc k m := by
  obtain ⟨c0, c1, c2, c3⟩ := SS_C h
  obtain ⟨d0, d1, d2, d3, d4, d5⟩ := SS_M hS h
  have hx := (SS_adv hS h).choose_spec.choose_spec.2.2.2.2.2.2.2.2.1
  obtain ⟨m1, m2⟩ := h.2.2.2.2.1
  obtain ⟨s, t1, t2, t3⟩ := nx_s hS m1 m2 (op := 0) (by decide) e
  exact SR_push hS h (t := 0) t1 (nx_1 hS m1 m2 (by rw [e]; decide) (by rw [e]; decide) (by rw [e]; decide) t3) (vr_0.mpr rfl) (stp_0 c0 c1 c2 c3 hx e) (onc_0 d0 d1 d2 d3 d4 d5 hx e)
theorem SR_10 (hS : Sx s0 nC nF nM τ) (h : SS s0 nC nF nM τ σ ρ K off md nh mc k m i) (e : s0 13 (12 * m + i) = (10 : Int32)) : SR s0 nC nF τ σ ρ K off md nh mc k m := by
  obtain ⟨c0, c1, c2, c3⟩ := SS_C h
  obtain ⟨d0, d1, d2, d3, d4, d5⟩ := SS_M hS h
  have hx := (SS_adv hS h).choose_spec.choose_spec.2.2.2.2.2.2.2.2.1
  obtain ⟨m1, m2⟩ := h.2.2.2.2.1
  obtain ⟨s, t1, t2, t3⟩ := nx_s hS m1 m2 (op := 10) (by decide) e
  rw [tr_10] at t1
  exact SR_push hS h (cif_some t1).2 (nx_1 hS m1 m2 (by rw [e]; decide) (by rw [e]; decide) (by rw [e]; decide) t3) vr_null (stp_10 c0 c1 c2 c3 hx e) (onc_10 d0 d1 d2 d3 d4 d5 hx e)
theorem SR_17 (hS : Sx s0 nC nF nM τ) (h : SS s0 nC nF nM τ σ ρ K off md nh mc k m i) (e : s0 13 (12 * m + i) = (17 : Int32)) : SR s0 nC nF τ σ ρ K off md nh mc k m := by
  obtain ⟨c0, c1, c2, c3⟩ := SS_C h
  obtain ⟨d0, d1, d2, d3, d4, d5⟩ := SS_M hS h
  have hx := (SS_adv hS h).choose_spec.choose_spec.2.2.2.2.2.2.2.2.1
  obtain ⟨m1, m2⟩ := h.2.2.2.2.1
  obtain ⟨s, t1, t2, t3⟩ := nx_s hS m1 m2 (op := 17) (by decide) e
  rw [tr_17] at t1
  exact SR_push hS h (cif_some t1).2 (nx_1 hS m1 m2 (by rw [e]; decide) (by rw [e]; decide) (by rw [e]; decide) t3) vr_null (stp_17 c0 c1 c2 c3 hx e) (onc_17 d0 d1 d2 d3 d4 d5 hx e)
theorem px_ix3 : ∀ k, k < 6 → ∀ j, j < 3 → (3 : Int32) * nI k + nI j = nI (3 * k + j) := by decide +kernel
theorem SR_1 (hS : Sx s0 nC nF nM τ) (h : SS s0 nC nF nM τ σ ρ K off md nh mc k m i) (e : s0 13 (12 * m + i) = (1 : Int32)) : SR s0 nC nF τ σ ρ K off md nh mc k m := by
  obtain ⟨c0, c1, c2, c3⟩ := SS_C h
  obtain ⟨d0, d1, d2, d3, d4, d5⟩ := SS_M hS h
  obtain ⟨σ3, ρ6, e3, e6, -, -, a3, -, -, -, hx, -, -⟩ := SS_adv hS h
  obtain ⟨m1, m2⟩ := h.2.2.2.2.1
  obtain ⟨s, t1, t2, t3⟩ := nx_s hS m1 m2 (op := 1) (by decide) e
  rw [tr_1] at t1
  unfold ld at t1
  by_cases hl : ∃ j, j < 3 ∧ s0 14 (12 * m + i) = nI j ∧ lo_ (τ m i) j ≠ 0
  · rw [if_pos hl] at t1
    obtain ⟨j, j1, j2, j3⟩ := hl
    rw [j2, N_nI (by omega)] at t1
    refine SR_push hS h t1 (nx_1 hS m1 m2 (by rw [e]; decide) (by rw [e]; decide) (by rw [e]; decide) t3) (a3.2.2.2 j j1 j3) ?_ ?_
    · rw [stp_1 c0 c1 c2 c3 hx e, j2, px_rd (j := j) rfl j1 (by decide), e3, show 27 + 3 * k + 1 = 28 + 3 * k by omega]
    · rw [onc_1 d0 d1 d2 d3 d4 d5 hx e, j2, px_ix3 k d3 j j1, px_rd (j := 3 * k + j) rfl (by omega) (by decide), e6]
  · rw [if_neg hl] at t1
    cases t1
theorem SR_2 (hS : Sx s0 nC nF nM τ) (h : SS s0 nC nF nM τ σ ρ K off md nh mc k m i) (e : s0 13 (12 * m + i) = (2 : Int32)) : SR s0 nC nF τ σ ρ K off md nh mc k m := by
  obtain ⟨c0, c1, c2, c3⟩ := SS_C h
  obtain ⟨d0, d1, d2, d3, d4, d5⟩ := SS_M hS h
  obtain ⟨σ3, ρ6, e3, e6, a1, a2, a3, a4, a5, a6, hx, a8, -⟩ := SS_adv hS h
  obtain ⟨m1, m2⟩ := h.2.2.2.2.1
  obtain ⟨s, t1, t2, t3⟩ := nx_s hS m1 m2 (op := 2) (by decide) e
  have hn := nx_1 hS m1 m2 (by rw [e]; decide) (by rw [e]; decide) (by rw [e]; decide) t3
  rw [tr_2] at t1
  generalize τ m i = t at *
  obtain ⟨st, l⟩ := t
  cases st with
  | nil => cases t1
  | cons t st =>
    unfold sv at t1
    simp only at t1
    by_cases hl : ∃ j, j < 3 ∧ s0 14 (12 * m + i) = nI j
    · rw [if_pos hl] at t1
      obtain ⟨j, j1, j2⟩ := hl
      rw [j2, N_nI (by omega)] at t1
      cases t1
      have h4 := a5.1
      simp only [List.length_cons] at h4
      obtain ⟨x, y, σ', ρ', b1, b2, b3, b4, b5, b6, b7⟩ := pp_pop a4 a8 a3 (by omega)
      have b8 := TF_store (a := j) (v := t + 1) (x := x) (y := y) j1 b4 (fun _ => b3)
      refine ⟨0, tx_up σ' (28 + 3 * k) j x, tx_up ρ' 68 (3 * k + j) y, ?_, ?_, NR_e h (eC_tr (eC_tr a1 b5) (eC_u _ _ (by omega) (by omega))) (eM_tr (eM_tr a2 b6) (eM_u _ _ (Or.inr (Or.inr ⟨rfl, by omega, by omega⟩)))) hn.1 (by rw [hn.2]; exact b8)⟩
      · rw [stp_2 c0 c1 c2 c3 hx e, ← e3, b1, px_ci, j2, px_wr (j := j) rfl j1 (by decide), show 27 + 3 * k + 1 = 28 + 3 * k by omega]
      · rw [onc_2 d0 d1 d2 d3 d4 d5 hx e, ← e6, b2, px_ci, j2, px_ix3 k d3 j j1, px_wr (j := 3 * k + j) rfl (by omega) (by decide)]
    · rw [if_neg hl] at t1
      cases t1
theorem SR_5 (hS : Sx s0 nC nF nM τ) (h : SS s0 nC nF nM τ σ ρ K off md nh mc k m i) (e : s0 13 (12 * m + i) = (5 : Int32)) : SR s0 nC nF τ σ ρ K off md nh mc k m := by
  obtain ⟨c0, c1, c2, c3⟩ := SS_C h
  obtain ⟨d0, d1, d2, d3, d4, d5⟩ := SS_M hS h
  obtain ⟨σ3, ρ6, e3, e6, a1, a2, a3, a4, a5, a6, hx, a8, -⟩ := SS_adv hS h
  obtain ⟨m1, m2⟩ := h.2.2.2.2.1
  obtain ⟨s, t1, t2, t3⟩ := nx_s hS m1 m2 (op := 5) (by decide) e
  rw [tr_5] at t1
  cases t1
  obtain ⟨j, j1, j2, j3⟩ := t3 (s0 14 (12 * m + i)) (by unfold sc; rw [if_pos e]; simp)
  refine ⟨0, tx_up σ3 (27 + 3 * k) 1 (nI j), tx_up ρ6 65 k (nI j), ?_, ?_, NR_e h (eC_tr a1 (eC_u _ _ (by omega) (by omega))) (eM_tr a2 (eM_u _ _ (Or.inl ⟨by omega, rfl⟩))) j1 (by rw [j3]; exact TF_next a3)⟩
  · rw [stp_5 c0 c1 c2 c3 hx e, j2, e3]
  · rw [onc_5 d0 d1 d2 d3 d4 d5 hx e, j2, px_wr (j := k) rfl d3 (by decide), e6]
theorem SR_6 (hS : Sx s0 nC nF nM τ) (h : SS s0 nC nF nM τ σ ρ K off md nh mc k m i) (e : s0 13 (12 * m + i) = (6 : Int32)) : SR s0 nC nF τ σ ρ K off md nh mc k m := by
  obtain ⟨c0, c1, c2, c3⟩ := SS_C h
  obtain ⟨d0, d1, d2, d3, d4, d5⟩ := SS_M hS h
  obtain ⟨σ3, ρ6, e3, e6, a1, a2, a3, a4, a5, a6, hx, a8, -⟩ := SS_adv hS h
  obtain ⟨m1, m2⟩ := h.2.2.2.2.1
  have hl := (B_m12 hS.1 m1).1
  obtain ⟨s, t1, t2, t3⟩ := nx_s hS m1 m2 (op := 6) (by decide) e
  rw [tr_6] at t1
  have hsc : sc s0 m i = [s0 14 (12 * m + i), nI i + 1] := by unfold sc; rw [if_neg (by rw [e]; decide), if_neg (by rw [e]; decide), if_pos e]
  obtain ⟨j, j1, j2, j3⟩ := t3 (s0 14 (12 * m + i)) (by rw [hsc]; simp)
  obtain ⟨j', n1, n2, n3⟩ := t3 (nI i + 1) (by rw [hsc]; simp)
  rw [nI_1] at n2
  have : i + 1 = j' := (nI_eq (by omega) (by omega)).mp n2
  subst this
  obtain ⟨x, y, σ', ρ', b1, b2, b3, b4, b5, b6, b7, b8⟩ := pp_take hS.1 a6 (by omega) a4 a8 a3 a5 t1
  have hxy := vr_0.mp b3
  subst hxy
  by_cases hz : x = 0
  · refine ⟨0, tx_up σ' (27 + 3 * k) 1 (nI j), tx_up ρ' 65 k (nI j), ?_, ?_, NR_e h (eC_tr (eC_tr a1 b5) (eC_u _ _ (by omega) (by omega))) (eM_tr (eM_tr a2 b6) (eM_u _ _ (Or.inl ⟨by omega, rfl⟩))) j1 (by rw [j3]; exact TF_next b4)⟩
    · rw [stp_6 c0 c1 c2 c3 hx e, ← e3, b1, px_ci, if_pos hz, j2]
    · rw [onc_6 d0 d1 d2 d3 d4 d5 hx e, ← e6, b2, px_ci, if_pos hz, j2, px_wr (j := k) rfl d3 (by decide)]
  · refine ⟨0, σ', tx_up ρ' 65 k (nI (i + 1)), ?_, ?_, NR_e h (eC_tr a1 b5) (eM_tr (eM_tr a2 b6) (eM_u _ _ (Or.inl ⟨by omega, rfl⟩))) n1 ?_⟩
    · rw [stp_6 c0 c1 c2 c3 hx e, ← e3, b1, px_ci, if_neg hz]
    · rw [onc_6 d0 d1 d2 d3 d4 d5 hx e, ← e6, b2, px_ci, if_neg hz, px_wr (j := k) rfl d3 (by decide)]
    · rw [n3]
      refine TF_up b4 b8.1 (fun _ _ _ h => h) (fun _ _ _ => rfl) ⟨?_, ?_, ?_⟩ (fun q _ _ => ?_) (fun q _ _ => ?_)
      · rw [tx_up_ne _ _ _ (by decide)]
      · rw [px_up, if_pos rfl, if_pos rfl]
        exact b4.2.1.2.1.symm
      · rw [tx_up_ne _ _ _ (by decide)]
      · rw [tx_up_ne _ _ _ (by decide)]
      · rw [tx_up_ne _ _ _ (by decide)]
end S1
