section CHM
variable {σ s0 : tx_St} {nC nF nM : Nat} {τ : Nat → Nat → TS}
theorem chk_lt (hB : iv_B σ nC nF nM) : chk σ nC nF nM τ < 8000 := by
  have hb := B_n hB
  have hL : ∀ m, m < nM → N_ (σ 12 m) ≤ 12 := fun m hm => (B_m12 hB hm).1
  unfold chk
  cases e1 : fs (ru1 σ) 0 nF with
  | some f => have := fs_lt _ _ _ e1; simp only; omega
  | none =>
    cases e2 : fs (ru2 σ nC) 0 nF with
    | some f => have := fs_lt _ _ _ e2; simp only; omega
    | none =>
      cases e3 : fs (ru3 σ nM) 0 nM with
      | some f => have := fs_lt _ _ _ e3; simp only; omega
      | none =>
        cases e4 : fs (fun m => ¬ OKM σ nC nF nM m (N_ (σ 12 m))) 0 nM with
        | some f => have := fs_lt _ _ _ e4; simp only; omega
        | none =>
          cases e5 : fq (fun m => N_ (σ 12 m)) (brk σ τ 5) 0 nM with
          | some v => have := fq_lt hL _ _ _ (by omega) e5; simp only; omega
          | none =>
            cases e6 : fq (fun m => N_ (σ 12 m)) (brk σ τ 6) 0 nM with
            | some v => have := fq_lt hL _ _ _ (by omega) e6; simp only; omega
            | none =>
              cases e7 : fq (fun m => N_ (σ 12 m)) (brk σ τ 7) 0 nM with
              | some v => have := fq_lt hL _ _ _ (by omega) e7; simp only; omega
              | none => simp only; omega
def oE {β : Type} (o : Option Nat) (b : β) (a : Nat → β) : β := match o with
  | none => b
  | some v => a v
theorem cx_step {x F : Nat} {o : Option Nat} {ρ : tx_St} (hx : x < 8) (ho : ∀ v, o = some v → v < 128) (h : fx_Rules_firstBreach σ (nI x) = some (oI o, ρ)) : fx_X_check_b11 (F + 1) σ (nI x) = oE o (fx_X_check_b11 F ρ (nI (x + 1))) (fun v => some (nI (1000 * x + v), ρ)) := by
  rw [fx_X_check_b11, if_neg (show ¬ (7 : Int32) < nI x from fun z => by
    have := (nI_ltI (a := 7) (by decide) (by omega)).mp z
    omega), h, px_ci, px_1000 x hx, nI_1]
  cases o with
  | none => rw [if_pos (show oI none = -1 from rfl)]; rfl
  | some v =>
    have := ho v rfl
    rw [if_neg (show ¬ oI (some v) = -1 from fun z => nI_pos (n := v) (by omega) ((show nI v = -1 from z) ▸ (by decide : (-1 : Int32) < 0)))]
    show some (nI (1000 * x) + nI v, ρ) = some (nI (1000 * x + v), ρ)
    rw [nI_add]
theorem fb_up {x : Nat} (hx : 3 ≤ x) (hx8 : x < 8) : fx_Rules_firstBreach σ (nI x) = fx_Rules_firstBreach_b52 tx_fu σ (nI x) 0 := by
  unfold fx_Rules_firstBreach
  rw [show tx_fu = 399 + 1 from rfl, fx_Rules_firstBreach_b2, if_pos (show (2 : Int32) < nI x from nI_lt (a := 2) (by omega) (by omega))]
  rfl
theorem X_chk (hB : iv_B σ nC nF nM) (h0 : σ 0 5 = 0) (hτ : ∀ m, m < nM → OKM σ nC nF nM m (N_ (σ 12 m)) → okM σ nC nF nM m (N_ (σ 12 m)) (τ m)) :
    ∃ ρ, fx_X_check σ = some (nI (chk σ nC nF nM τ), ρ) ∧ ((chk σ nC nF nM τ ≠ 0 ∧ xK σ ρ) ∨ (chk σ nC nF nM τ = 0 ∧ ∃ ρ', xK σ ρ' ∧ ρ = tx_up ρ' 0 5 1 ∧ r16 σ ρ' τ nM)) := by
  have hb := B_n hB
  have hL : ∀ m, m < nM → N_ (σ 12 m) ≤ 12 := fun m hm => (B_m12 hB hm).1
  have rf : xK σ σ := fun _ _ => rfl
  unfold fx_X_check
  rw [if_pos h0]
  have s1 := cx_step (F := 399) (x := 1) (by decide) (fun v hv => by have := fs_lt _ _ _ hv; omega) (fb_1 hB nF 0 tx_fu (by omega) (by unfold tx_fu; omega))
  have s2 := cx_step (F := 398) (x := 2) (by decide) (fun v hv => by have := fs_lt _ _ _ hv; omega) (fb_2 hB nF 0 tx_fu (by omega) (by unfold tx_fu; omega))
  have s3 := cx_step (F := 397) (x := 3) (by decide) (fun v hv => by have := fs_lt _ _ _ hv; omega) ((fb_up (by decide) (by decide)).trans (fb_3 hB nM 0 tx_fu (by omega) (by unfold tx_fu; omega)))
  cases e1 : fs (ru1 σ) 0 nF with
  | some f =>
    have hc : chk σ nC nF nM τ = 1000 + f := by simp only [chk, e1]
    rw [e1] at s1
    exact ⟨σ, by rw [hc]; exact s1, Or.inl ⟨by omega, rf⟩⟩
  | none =>
    rw [e1] at s1
    cases e2 : fs (ru2 σ nC) 0 nF with
    | some f =>
      have hc : chk σ nC nF nM τ = 2000 + f := by simp only [chk, e1, e2]
      rw [e2] at s2
      exact ⟨σ, by rw [hc]; exact s1.trans s2, Or.inl ⟨by omega, rf⟩⟩
    | none =>
      rw [e2] at s2
      cases e3 : fs (ru3 σ nM) 0 nM with
      | some f =>
        have hc : chk σ nC nF nM τ = 3000 + f := by simp only [chk, e1, e2, e3]
        rw [e3] at s3
        exact ⟨σ, by rw [hc]; exact s1.trans (s2.trans s3), Or.inl ⟨by omega, rf⟩⟩
      | none =>
        rw [e3] at s3
        obtain ⟨ρ4, g1, g2, g3⟩ := fb_4 hB hτ nM 0 tx_fu σ (by omega) (by unfold tx_fu; omega) rf (fun m hm => by omega)
        have s4 := cx_step (F := 396) (x := 4) (by decide) (fun v hv => by have := fs_lt _ _ _ hv; omega) ((fb_up (by decide) (by decide)).trans g1)
        cases e4 : fs (fun m => ¬ OKM σ nC nF nM m (N_ (σ 12 m))) 0 nM with
        | some f =>
          have hc : chk σ nC nF nM τ = 4000 + f := by simp only [chk, e1, e2, e3, e4]
          rw [e4] at s4
          exact ⟨ρ4, by rw [hc]; exact s1.trans (s2.trans (s3.trans s4)), Or.inl ⟨by omega, g2⟩⟩
        | none =>
          rw [e4] at s4
          have hr := g3 e4
          have hag := xK_ag g2
          have hCk : Ck σ nC nF nM τ := fun m hm => hτ m hm (Classical.not_not.mp (fs_none _ _ e4 m (by omega) (by omega)))
          have h12 : ρ4 12 = σ 12 := g2 12 (by decide)
          have hX4 : Cx ρ4 nC nF nM τ := ⟨xK_B hB g2, ag_Ck hag hCk, fun m hm i hi => hr m hm i (by rw [← h12]; exact hi)⟩
          have key : ∀ (x F : Nat) (ρ : tx_St), (x = 5 ∨ x = 6 ∨ x = 7) → xe ρ4 ρ → ∃ ρ2, xe ρ4 ρ2 ∧ fx_X_check_b11 (F + 1) ρ (nI x) = oE (fq (fun m => N_ (σ 12 m)) (brk σ τ x) 0 nM) (fx_X_check_b11 F ρ2 (nI (x + 1))) (fun v => some (nI (1000 * x + v), ρ2)) := by
            intro x F ρ hx he
            have hX := Cx_xe hX4 he
            have hagρ : ag σ ρ := fun k h1 h2 => (xe_ag he k h1 h2).trans (hag k h1 h2)
            obtain ⟨ρ2, f1, f2⟩ := fb_57 hx nM 0 tx_fu ρ (by omega) (by unfold tx_fu; omega) hX
            rw [show brk ρ τ x = brk σ τ x from funext fun m => funext fun i => ag_brk hagρ τ x m i, hagρ 12 (by decide) (by decide)] at f2
            exact ⟨ρ2, xe_tr he f1, cx_step (by omega) (fun v hv => by have := fq_lt hL _ _ _ (by omega) hv; omega) ((fb_up (by omega) (by omega)).trans f2)⟩
          have xk : ∀ ρ, xe ρ4 ρ → xK σ ρ := fun ρ he k hk => (he.1 k (by omega) (by omega) (by omega)).trans (g2 k hk)
          obtain ⟨ρ5, k5, s5⟩ := key 5 395 ρ4 (by omega) (xe_rf _)
          obtain ⟨ρ6, k6, s6⟩ := key 6 394 ρ5 (by omega) k5
          obtain ⟨ρ7, k7, s7⟩ := key 7 393 ρ6 (by omega) k6
          cases e5 : fq (fun m => N_ (σ 12 m)) (brk σ τ 5) 0 nM with
          | some f =>
            have hc : chk σ nC nF nM τ = 5000 + f := by simp only [chk, e1, e2, e3, e4, e5]
            rw [e5] at s5
            exact ⟨ρ5, by rw [hc]; exact s1.trans (s2.trans (s3.trans (s4.trans s5))), Or.inl ⟨by omega, xk _ k5⟩⟩
          | none =>
            rw [e5] at s5
            cases e6 : fq (fun m => N_ (σ 12 m)) (brk σ τ 6) 0 nM with
            | some f =>
              have hc : chk σ nC nF nM τ = 6000 + f := by simp only [chk, e1, e2, e3, e4, e5, e6]
              rw [e6] at s6
              exact ⟨ρ6, by rw [hc]; exact s1.trans (s2.trans (s3.trans (s4.trans (s5.trans s6)))), Or.inl ⟨by omega, xk _ k6⟩⟩
            | none =>
              rw [e6] at s6
              cases e7 : fq (fun m => N_ (σ 12 m)) (brk σ τ 7) 0 nM with
              | some f =>
                have hc : chk σ nC nF nM τ = 7000 + f := by simp only [chk, e1, e2, e3, e4, e5, e6, e7]
                rw [e7] at s7
                exact ⟨ρ7, by rw [hc]; exact s1.trans (s2.trans (s3.trans (s4.trans (s5.trans (s6.trans s7))))), Or.inl ⟨by omega, xk _ k7⟩⟩
              | none =>
                have hc : chk σ nC nF nM τ = 0 := by simp only [chk, e1, e2, e3, e4, e5, e6, e7]
                rw [e7] at s7
                have s8 : fx_X_check_b11 393 ρ7 (nI 8) = some (0, tx_up ρ7 0 5 1) := by
                  rw [show (393 : Nat) = 392 + 1 from rfl, fx_X_check_b11, if_pos (by decide), px_pz (Or.inr rfl)]
                refine ⟨tx_up ρ7 0 5 1, by rw [hc]; exact s1.trans (s2.trans (s3.trans (s4.trans (s5.trans (s6.trans (s7.trans s8)))))), Or.inr ⟨hc, ρ7, xk _ k7, rfl, fun m hm i hi => ?_⟩⟩
                rw [k7.1 16 (by decide) (by decide) (by decide)]
                exact hr m hm i hi
/-! the reference -/
def yK (s0 σ : tx_St) : Prop := (∀ k, k ≠ 45 → k ≠ 59 → k ≠ 60 → σ k = s0 k) ∧ ∀ j, j ≠ 19 → σ 45 j = s0 45 j
theorem yK_B (hB : iv_B s0 nC nF nM) (h : yK s0 σ) : iv_B σ nC nF nM := B_eq45 hB (fun k hk => h.1 k (by omega) (by omega) (by omega)) (fun j hj => h.2 j (by omega))
theorem yK_ag (h : yK s0 σ) : ag s0 σ := fun k h1 h2 => h.1 k (by omega) (by omega) (by omega)
def r59 (s0 σ : tx_St) (τ : Nat → Nat → TS) (n : Nat) : Prop := ∀ m, m < n → ∀ i, i < N_ (s0 12 m) → σ 59 (12 * m + i) = nI (pk_ (τ m i))
theorem mb_1 (hB : iv_B σ nC nF nM) : ∀ k d F, d + k = nF → k < F → fx_Mo_broken_b2 F σ (nI d) = (match fs (ru1 σ) d k with | some f => some (nI (1000 + f), σ) | none => fx_Mo_broken_b32 tx_fu σ 0) := by
  have hb := B_n hB
  have h3 : σ 45 3 = nI nF := hB.1.1.2.1.trans hB.2.2.1.2.1
  intro k
  induction k with
  | zero =>
    intro d F h1 h2
    obtain ⟨F, rfl⟩ : ∃ G, F = G + 1 := ⟨F - 1, by omega⟩
    rw [fx_Mo_broken_b2, h3, if_pos (nI_le (by omega) (by omega))]
    rfl
  | succ k ih =>
    intro d F h1 h2
    obtain ⟨F, rfl⟩ : ∃ G, F = G + 1 := ⟨F - 1, by omega⟩
    rw [fx_Mo_broken_b2, h3, if_neg (nI_ge (by omega) (by omega)), fx_Mo_looseStatic_e hB (by omega), px_ci, nI_1, px_k1, nI_add]
    by_cases hp : ru1 σ d
    · rw [bP_t hp, if_neg (by decide), fs_t hp]
    · rw [bP_f hp, if_pos rfl, fs_f hp]
      exact ih (d + 1) F (by omega) (by omega)
theorem mb_2 (hB : iv_B σ nC nF nM) : ∀ k d F, d + k = nF → k < F → fx_Mo_broken_b32 F σ (nI d) = (match fs (ru2 σ nC) d k with | some f => some (nI (2000 + f), σ) | none => fx_Mo_broken_b62 tx_fu σ 0) := by
  have hb := B_n hB
  have h3 : σ 45 3 = nI nF := hB.1.1.2.1.trans hB.2.2.1.2.1
  intro k
  induction k with
  | zero =>
    intro d F h1 h2
    obtain ⟨F, rfl⟩ : ∃ G, F = G + 1 := ⟨F - 1, by omega⟩
    rw [fx_Mo_broken_b32, h3, if_pos (nI_le (by omega) (by omega))]
    rfl
  | succ k ih =>
    intro d F h1 h2
    obtain ⟨F, rfl⟩ : ∃ G, F = G + 1 := ⟨F - 1, by omega⟩
    rw [fx_Mo_broken_b32, h3, if_neg (nI_ge (by omega) (by omega)), fx_Mo_looseField_e hB (by omega), px_ci, nI_1, px_k2, nI_add]
    by_cases hp : ru2 σ nC d
    · rw [bP_t hp, if_neg (by decide), fs_t hp]
    · rw [bP_f hp, if_pos rfl, fs_f hp]
      exact ih (d + 1) F (by omega) (by omega)
theorem mb_3 (hB : iv_B σ nC nF nM) : ∀ k d F, d + k = nM → k < F → fx_Mo_broken_b62 F σ (nI d) = (match fs (ru3 σ nM) d k with | some f => some (nI (3000 + f), σ) | none => fx_Mo_broken_b92 tx_fu σ 0) := by
  have hb := B_n hB
  have h3 : σ 45 7 = nI nM := hB.1.1.2.2.trans hB.2.2.1.2.2
  intro k
  induction k with
  | zero =>
    intro d F h1 h2
    obtain ⟨F, rfl⟩ : ∃ G, F = G + 1 := ⟨F - 1, by omega⟩
    rw [fx_Mo_broken_b62, h3, if_pos (nI_le (by omega) (by omega))]
    rfl
  | succ k ih =>
    intro d F h1 h2
    obtain ⟨F, rfl⟩ : ∃ G, F = G + 1 := ⟨F - 1, by omega⟩
    rw [fx_Mo_broken_b62, h3, if_neg (nI_ge (by omega) (by omega)), fx_Mo_unlike_e hB (by omega), px_ci, nI_1, px_k3, nI_add]
    by_cases hp : ru3 σ nM d
    · rw [bP_t hp, if_neg (by decide), fs_t hp]
    · rw [bP_f hp, if_pos rfl, fs_f hp]
      exact ih (d + 1) F (by omega) (by omega)
theorem mb_4 (hB : iv_B s0 nC nF nM) (hτ : ∀ m, m < nM → OKM s0 nC nF nM m (N_ (s0 12 m)) → okM s0 nC nF nM m (N_ (s0 12 m)) (τ m)) : ∀ k d F σ, d + k = nM → k < F → yK s0 σ → r59 s0 σ τ d → ∃ ρ, fx_Mo_broken_b92 F σ (nI d) = (match fs (fun m => ¬ OKM s0 nC nF nM m (N_ (s0 12 m))) d k with | some f => some (nI (4000 + f), ρ) | none => fx_Mo_broken_b122 tx_fu ρ 5) ∧ yK s0 ρ ∧ (fs (fun m => ¬ OKM s0 nC nF nM m (N_ (s0 12 m))) d k = none → r59 s0 ρ τ nM) := by
  have hb := B_n hB
  intro k
  induction k with
  | zero =>
    intro d F σ h1 h2 hK hr
    have hBσ := yK_B hB hK
    have h3 : σ 45 7 = nI nM := hBσ.1.1.2.2.trans hBσ.2.2.1.2.2
    obtain ⟨F, rfl⟩ : ∃ G, F = G + 1 := ⟨F - 1, by omega⟩
    refine ⟨σ, ?_, hK, fun _ => by rw [show nM = d by omega]; exact hr⟩
    rw [fx_Mo_broken_b92, h3, if_pos (nI_le (by omega) (by omega))]
    rfl
  | succ k ih =>
    intro d F σ h1 h2 hK hr
    obtain ⟨F, rfl⟩ : ∃ G, F = G + 1 := ⟨F - 1, by omega⟩
    have hBσ := yK_B hB hK
    have h3 : σ 45 7 = nI nM := hBσ.1.1.2.2.trans hBσ.2.2.1.2.2
    have hag := yK_ag hK
    obtain ⟨l1, l2, l3⟩ := B_m12 hBσ (m := d) (by omega)
    have hl : σ 12 d = s0 12 d := by rw [hK.1 12 (by decide) (by decide) (by decide)]
    obtain ⟨ρ, c1, ⟨c2, c2', c3⟩, c4⟩ := fx_Mo_fitsTypes_e hBσ (m := d) (by omega) l1 l2 l3
    rw [ag_OKM hag, hl] at c1
    have hKρ : yK s0 ρ := ⟨fun k h1 h2 h3 => (c2 k h1 h2 h3).trans (hK.1 k h1 h2 h3), fun j hj => (c2' j hj).trans (hK.2 j hj)⟩
    rw [fx_Mo_broken_b92, h3, if_neg (nI_ge (by omega) (by omega)), c1, px_ci, nI_1, px_k4, nI_add]
    by_cases hp : OKM s0 nC nF nM d (N_ (s0 12 d))
    · rw [bP_t hp, if_neg (by decide), fs_f (fun z => z hp)]
      refine ih (d + 1) F ρ (by omega) (by omega) hKρ (fun m hm i hi => ?_)
      by_cases hmd : m = d
      · subst hmd
        refine c4 (τ m) ?_ i (by rw [hl]; exact hi)
        rw [ag_okM hag, hl]
        exact hτ m (by omega) hp
      · have : i < 12 := Nat.lt_of_lt_of_le hi (B_m12 hB (m := m) (by omega)).1
        rw [c3 _ (by omega)]
        exact hr m (by omega) i hi
    · rw [bP_f hp, if_pos rfl, fs_t hp]
      exact ⟨ρ, rfl, hKρ, fun z => by cases z⟩
theorem mb_57i (hB : iv_B σ nC nF nM) (hC : Ck σ nC nF nM τ) (hr : r59 σ σ τ nM) (K1 : tx_St → Int32 → Option (Int32 × tx_St)) (K2 : tx_St → Int32 → Int32 → Option (Int32 × tx_St)) {x d : Nat} (hx : x = 5 ∨ x = 6 ∨ x = 7) (hd : d < nM) : ∀ k i F, i + k = N_ (σ 12 d) → k < F → fx_Mo_broken_b140 K1 K2 F σ (nI x) (nI d) (nI i) = (match fs (brk σ τ x d) i k with | some j => some (nI (1000 * x + (16 * d + j)), σ) | none => K2 σ (nI x) (nI (d + 1))) := by
  have hb := B_n hB
  obtain ⟨l1, l2, -⟩ := B_m12 hB hd
  have h56 : σ 56 d = nI (N_ (σ 12 d)) := by rw [hB.1.2.2.2.2.2.2.2.2.2.1]; exact l2
  intro k
  induction k with
  | zero =>
    intro i F h1 h2
    obtain ⟨F, rfl⟩ : ∃ G, F = G + 1 := ⟨F - 1, by omega⟩
    rw [fx_Mo_broken_b140, px_rd (j := d) rfl (by omega) (by decide), h56, if_pos (nI_le (by omega) (by omega)), nI_1]
    rfl
  | succ k ih =>
    intro i F h1 h2
    obtain ⟨F, rfl⟩ : ∃ G, F = G + 1 := ⟨F - 1, by omega⟩
    rw [fx_Mo_broken_b140, px_rd (j := d) rfl (by omega) (by decide), h56, if_neg (nI_ge (by omega) (by omega)), px_ix12', fx_Mo_wild_e hB hC (hr d hd i (by omega)) hd (by omega) hx, px_ci, px_16 d (by omega), px_1000 x (by omega), nI_add, nI_add, nI_1, Nat.add_assoc]
    by_cases hp : brk σ τ x d i
    · rw [bP_t hp, if_neg (by decide), fs_t hp]
    · rw [bP_f hp, if_pos rfl, fs_f hp]
      exact ih (i + 1) F (by omega) (by omega)
theorem mb_57 (hB : iv_B σ nC nF nM) (hC : Ck σ nC nF nM τ) (hr : r59 σ σ τ nM) (K : tx_St → Int32 → Option (Int32 × tx_St)) {x : Nat} (hx : x = 5 ∨ x = 6 ∨ x = 7) : ∀ k d F, d + k = nM → k < F → fx_Mo_broken_b130 K F σ (nI x) (nI d) = (match fq (fun m => N_ (σ 12 m)) (brk σ τ x) d k with | some v => some (nI (1000 * x + v), σ) | none => K σ (nI (x + 1))) := by
  have hb := B_n hB
  have h3 : σ 45 7 = nI nM := hB.1.1.2.2.trans hB.2.2.1.2.2
  intro k
  induction k with
  | zero =>
    intro d F h1 h2
    obtain ⟨F, rfl⟩ : ∃ G, F = G + 1 := ⟨F - 1, by omega⟩
    rw [fx_Mo_broken_b130, h3, if_pos (nI_le (by omega) (by omega)), nI_1]
    rfl
  | succ k ih =>
    intro d F h1 h2
    obtain ⟨F, rfl⟩ : ∃ G, F = G + 1 := ⟨F - 1, by omega⟩
    have l1 := (B_m12 hB (m := d) (by omega)).1
    rw [fx_Mo_broken_b130, h3, if_neg (nI_ge (by omega) (by omega)), show (0 : Int32) = nI 0 from rfl, mb_57i hB hC hr K (fx_Mo_broken_b130 K F) hx (by omega) (N_ (σ 12 d)) 0 tx_fu (by omega) (by unfold tx_fu; omega), fq]
    cases e : fs (brk σ τ x d) 0 (N_ (σ 12 d)) with
    | some j => rfl
    | none => exact ih (d + 1) F (by omega) (by omega)
theorem Mo_brk (hB : iv_B s0 nC nF nM) (hτ : ∀ m, m < nM → OKM s0 nC nF nM m (N_ (s0 12 m)) → okM s0 nC nF nM m (N_ (s0 12 m)) (τ m)) :
    ∃ ρ, fx_Mo_broken s0 = some (nI (chk s0 nC nF nM τ), ρ) ∧ yK s0 ρ ∧ (chk s0 nC nF nM τ = 0 → r59 s0 ρ τ nM) := by
  have hb := B_n hB
  have rf : yK s0 s0 := ⟨fun _ _ _ _ => rfl, fun _ _ => rfl⟩
  have s1 := mb_1 hB nF 0 tx_fu (by omega) (by unfold tx_fu; omega)
  have s2 := mb_2 hB nF 0 tx_fu (by omega) (by unfold tx_fu; omega)
  have s3 := mb_3 hB nM 0 tx_fu (by omega) (by unfold tx_fu; omega)
  unfold fx_Mo_broken
  cases e1 : fs (ru1 s0) 0 nF with
  | some f =>
    have hc : chk s0 nC nF nM τ = 1000 + f := by simp only [chk, e1]
    rw [e1] at s1
    exact ⟨s0, by rw [hc]; exact s1, rf, fun z => by omega⟩
  | none =>
    rw [e1] at s1
    cases e2 : fs (ru2 s0 nC) 0 nF with
    | some f =>
      have hc : chk s0 nC nF nM τ = 2000 + f := by simp only [chk, e1, e2]
      rw [e2] at s2
      exact ⟨s0, by rw [hc]; exact s1.trans s2, rf, fun z => by omega⟩
    | none =>
      rw [e2] at s2
      cases e3 : fs (ru3 s0 nM) 0 nM with
      | some f =>
        have hc : chk s0 nC nF nM τ = 3000 + f := by simp only [chk, e1, e2, e3]
        rw [e3] at s3
        exact ⟨s0, by rw [hc]; exact s1.trans (s2.trans s3), rf, fun z => by omega⟩
      | none =>
        rw [e3] at s3
        obtain ⟨ρ4, s4, g2, g3⟩ := mb_4 hB hτ nM 0 tx_fu s0 (by omega) (by unfold tx_fu; omega) rf (fun m hm => by omega)
        cases e4 : fs (fun m => ¬ OKM s0 nC nF nM m (N_ (s0 12 m))) 0 nM with
        | some f =>
          have hc : chk s0 nC nF nM τ = 4000 + f := by simp only [chk, e1, e2, e3, e4]
          rw [e4] at s4
          exact ⟨ρ4, by rw [hc]; exact s1.trans (s2.trans (s3.trans s4)), g2, fun z => by omega⟩
        | none =>
          have hr := g3 e4
          rw [e4] at s4
          have hag := yK_ag g2
          have h12 : ρ4 12 = s0 12 := g2.1 12 (by decide) (by decide) (by decide)
          have hCk : Ck ρ4 nC nF nM τ := ag_Ck hag (fun m hm => hτ m hm (Classical.not_not.mp (fs_none _ _ e4 m (by omega) (by omega))))
          have hr4 : r59 ρ4 ρ4 τ nM := fun m hm i hi => hr m hm i (by rw [← h12]; exact hi)
          have key : ∀ (x F : Nat), (x = 5 ∨ x = 6 ∨ x = 7) → fx_Mo_broken_b122 (F + 1) ρ4 (nI x) = (match fq (fun m => N_ (s0 12 m)) (brk s0 τ x) 0 nM with | some v => some (nI (1000 * x + v), ρ4) | none => fx_Mo_broken_b122 F ρ4 (nI (x + 1))) := by
            intro x F hx
            rw [fx_Mo_broken_b122, if_neg (show ¬ (7 : Int32) < nI x from fun z => by
              have := (nI_ltI (a := 7) (by decide) (by omega)).mp z
              omega), show (0 : Int32) = nI 0 from rfl, mb_57 (yK_B hB g2) hCk hr4 _ hx nM 0 tx_fu (by omega) (by unfold tx_fu; omega), show brk ρ4 τ x = brk s0 τ x from funext fun m => funext fun i => ag_brk hag τ x m i, h12]
          have s5 := key 5 399 (by omega)
          have s6 := key 6 398 (by omega)
          have s7 := key 7 397 (by omega)
          cases e5 : fq (fun m => N_ (s0 12 m)) (brk s0 τ 5) 0 nM with
          | some f =>
            have hc : chk s0 nC nF nM τ = 5000 + f := by simp only [chk, e1, e2, e3, e4, e5]
            rw [e5] at s5
            exact ⟨ρ4, by rw [hc]; exact s1.trans (s2.trans (s3.trans (s4.trans s5))), g2, fun z => by omega⟩
          | none =>
            rw [e5] at s5
            cases e6 : fq (fun m => N_ (s0 12 m)) (brk s0 τ 6) 0 nM with
            | some f =>
              have hc : chk s0 nC nF nM τ = 6000 + f := by simp only [chk, e1, e2, e3, e4, e5, e6]
              rw [e6] at s6
              exact ⟨ρ4, by rw [hc]; exact s1.trans (s2.trans (s3.trans (s4.trans (s5.trans s6)))), g2, fun z => by omega⟩
            | none =>
              rw [e6] at s6
              cases e7 : fq (fun m => N_ (s0 12 m)) (brk s0 τ 7) 0 nM with
              | some f =>
                have hc : chk s0 nC nF nM τ = 7000 + f := by simp only [chk, e1, e2, e3, e4, e5, e6, e7]
                rw [e7] at s7
                exact ⟨ρ4, by rw [hc]; exact s1.trans (s2.trans (s3.trans (s4.trans (s5.trans (s6.trans s7))))), g2, fun z => by omega⟩
              | none =>
                have hc : chk s0 nC nF nM τ = 0 := by simp only [chk, e1, e2, e3, e4, e5, e6, e7]
                rw [e7] at s7
                have s8 : fx_Mo_broken_b122 397 ρ4 (nI 8) = some (0, ρ4) := by
                  rw [show (397 : Nat) = 396 + 1 from rfl, fx_Mo_broken_b122, if_pos (by decide)]
                exact ⟨ρ4, by rw [hc]; exact s1.trans (s2.trans (s3.trans (s4.trans (s5.trans (s6.trans (s7.trans s8)))))), g2, fun _ => hr⟩
/-- what a good check says -/
theorem chk_0 (h : chk σ nC nF nM τ = 0) : (∀ f, f < nF → ¬ ru1 σ f) ∧ (∀ m, m < nM → ¬ ru3 σ nM m) ∧ (∀ m, m < nM → OKM σ nC nF nM m (N_ (σ 12 m))) ∧ ∀ m, m < nM → ∀ i, i < N_ (σ 12 m) → ¬ brk σ τ 5 m i ∧ ¬ brk σ τ 6 m i := by
  cases e1 : fs (ru1 σ) 0 nF with
  | some f => simp only [chk, e1] at h; omega
  | none =>
    cases e2 : fs (ru2 σ nC) 0 nF with
    | some f => simp only [chk, e1, e2] at h; omega
    | none =>
      cases e3 : fs (ru3 σ nM) 0 nM with
      | some f => simp only [chk, e1, e2, e3] at h; omega
      | none =>
        cases e4 : fs (fun m => ¬ OKM σ nC nF nM m (N_ (σ 12 m))) 0 nM with
        | some f => simp only [chk, e1, e2, e3, e4] at h; omega
        | none =>
          cases e5 : fq (fun m => N_ (σ 12 m)) (brk σ τ 5) 0 nM with
          | some f => simp only [chk, e1, e2, e3, e4, e5] at h; omega
          | none =>
            cases e6 : fq (fun m => N_ (σ 12 m)) (brk σ τ 6) 0 nM with
            | some f => simp only [chk, e1, e2, e3, e4, e5, e6] at h; omega
            | none => exact ⟨fun f hf => fs_none _ _ e1 f (by omega) (by omega), fun m hm => fs_none _ _ e3 m (by omega) (by omega), fun m hm => Classical.not_not.mp (fs_none _ _ e4 m (by omega) (by omega)), fun m hm i hi => ⟨fq_none _ _ e5 m (by omega) (by omega) i hi, fq_none _ _ e6 m (by omega) (by omega) i hi⟩⟩
end CHM
