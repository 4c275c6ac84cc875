/-! the check of all rules: the first breach -/
noncomputable def fs (P : Nat → Prop) : Nat → Nat → Option Nat
  | _, 0 => none
  | d, k + 1 => cif (P d) (some d) (fs P (d + 1) k)
noncomputable def fq (Lf : Nat → Nat) (Q : Nat → Nat → Prop) : Nat → Nat → Option Nat
  | _, 0 => none
  | d, k + 1 => match fs (Q d) 0 (Lf d) with
    | some i => some (16 * d + i)
    | none => fq Lf Q (d + 1) k
def oI : Option Nat → Int32
  | none => -1
  | some f => nI f
theorem fs_t {P : Nat → Prop} {d k : Nat} (h : P d) : fs P d (k + 1) = some d := by rw [fs, cif_t h]
theorem fs_f {P : Nat → Prop} {d k : Nat} (h : ¬ P d) : fs P d (k + 1) = fs P (d + 1) k := by rw [fs, cif_f h]
theorem fs_none {P : Nat → Prop} : ∀ (k d : Nat), fs P d k = none → ∀ i, d ≤ i → i < d + k → ¬ P i
  | 0, d, _, i, h1, h2 => by omega
  | k + 1, d, h, i, h1, h2 => by
    rcases Classical.em (P d) with hp | hp
    · rw [fs_t hp] at h
      cases h
    · rw [fs_f hp] at h
      by_cases hi : i = d
      · exact hi ▸ hp
      · exact fs_none k (d + 1) h i (by omega) (by omega)
theorem fs_lt {P : Nat → Prop} : ∀ (k d j : Nat), fs P d k = some j → j < d + k
  | 0, d, j, h => by cases h
  | k + 1, d, j, h => by
    rcases Classical.em (P d) with hp | hp
    · rw [fs_t hp] at h
      cases h
      omega
    · rw [fs_f hp] at h
      have := fs_lt k (d + 1) j h
      omega
theorem fq_none {Lf : Nat → Nat} {Q : Nat → Nat → Prop} : ∀ (k d : Nat), fq Lf Q d k = none → ∀ m, d ≤ m → m < d + k → ∀ i, i < Lf m → ¬ Q m i
  | 0, d, _, m, h1, h2, _, _ => by omega
  | k + 1, d, h, m, h1, h2, i, hi => by
    rw [fq] at h
    cases e : fs (Q d) 0 (Lf d) with
    | some j => rw [e] at h; cases h
    | none =>
      rw [e] at h
      by_cases hm : m = d
      · subst hm
        exact fs_none _ _ e i (by omega) (by omega)
      · exact fq_none k (d + 1) h m (by omega) (by omega) i hi
theorem fq_lt {Lf : Nat → Nat} {Q : Nat → Nat → Prop} {n : Nat} (hL : ∀ m, m < n → Lf m ≤ 12) : ∀ (k d v : Nat), d + k = n → fq Lf Q d k = some v → v < 16 * n
  | 0, d, v, _, h => by cases h
  | k + 1, d, v, hn, h => by
    rw [fq] at h
    cases e : fs (Q d) 0 (Lf d) with
    | some j =>
      rw [e] at h
      cases h
      have := fs_lt _ _ _ e
      have := hL d (by omega)
      omega
    | none =>
      rw [e] at h
      exact fq_lt hL k (d + 1) v (by omega) h
section AGM
variable {σ ρ : tx_St}
theorem ag_sc (h : ag σ ρ) (m i : Nat) : sc ρ m i = sc σ m i := by
  unfold sc
  rw [h 13 (by decide) (by decide), h 14 (by decide) (by decide)]
theorem ag_reaN (h : ag σ ρ) (m L : Nat) : ∀ k i, reaN ρ m L k i = reaN σ m L k i
  | 0, i => rfl
  | k + 1, i => by
    unfold reaN
    simp only [ag_sc h, ag_reaN h m L k]
theorem ag_okM (h : ag σ ρ) (nC nF nM m L : Nat) (τ : Nat → TS) : okM ρ nC nF nM m L τ = okM σ nC nF nM m L τ := by
  unfold okM rea ent stM
  simp only [ag_tri h, ag_sc h, ag_reaN h, h 7 (by decide) (by decide), h 8 (by decide) (by decide), h 10 (by decide) (by decide)]
theorem ag_OKM (h : ag σ ρ) (nC nF nM m L : Nat) : OKM ρ nC nF nM m L = OKM σ nC nF nM m L := by
  unfold OKM
  simp only [ag_okM h]
theorem ag_Ck (h : ag σ ρ) {nC nF nM : Nat} {τ : Nat → Nat → TS} (hC : Ck σ nC nF nM τ) : Ck ρ nC nF nM τ := fun m hm => by
  rw [ag_okM h, h 12 (by decide) (by decide)]
  exact hC m hm
theorem ag_brk (h : ag σ ρ) (τ : Nat → Nat → TS) (x m i : Nat) : brk ρ τ x m i = brk σ τ x m i := by
  unfold brk fiF im mk
  rw [h 13 (by decide) (by decide), h 14 (by decide) (by decide), h 5 (by decide) (by decide), h 3 (by decide) (by decide)]
theorem ag_ru1 (h : ag σ ρ) (f : Nat) : ru1 ρ f = ru1 σ f := by
  unfold ru1 stF fiF pw mk
  rw [h 5 (by decide) (by decide), h 6 (by decide) (by decide), h 3 (by decide) (by decide)]
theorem ag_ru2 (h : ag σ ρ) (nC f : Nat) : ru2 ρ nC f = ru2 σ nC f := by
  unfold ru2 ru2c im pw mk fiF
  simp only [ag_ow h, h 5 (by decide) (by decide), h 6 (by decide) (by decide), h 3 (by decide) (by decide)]
theorem ag_ru3 (h : ag σ ρ) (nM f : Nat) : ru3 ρ nM f = ru3 σ nM f := by
  unfold ru3 ovr agr stM ln
  simp only [h 2 (by decide) (by decide), h 7 (by decide) (by decide), h 8 (by decide) (by decide), h 9 (by decide) (by decide), h 10 (by decide) (by decide), h 11 (by decide) (by decide)]
theorem xe_ag (h : xe σ ρ) : ag σ ρ := fun k h1 h2 => h.1 k (by omega) (by omega) (by omega)
end AGM
/-- the check's answer -/
noncomputable def chk (σ : tx_St) (nC nF nM : Nat) (τ : Nat → Nat → TS) : Nat := match fs (ru1 σ) 0 nF with
  | some f => 1000 + f
  | none => match fs (ru2 σ nC) 0 nF with
    | some f => 2000 + f
    | none => match fs (ru3 σ nM) 0 nM with
      | some m => 3000 + m
      | none => match fs (fun m => ¬ OKM σ nC nF nM m (N_ (σ 12 m))) 0 nM with
        | some m => 4000 + m
        | none => match fq (fun m => N_ (σ 12 m)) (brk σ τ 5) 0 nM with
          | some v => 5000 + v
          | none => match fq (fun m => N_ (σ 12 m)) (brk σ τ 6) 0 nM with
            | some v => 6000 + v
            | none => match fq (fun m => N_ (σ 12 m)) (brk σ τ 7) 0 nM with
              | some v => 7000 + v
              | none => 0
theorem ag_chk {σ ρ : tx_St} (h : ag σ ρ) (nC nF nM : Nat) (τ : Nat → Nat → TS) : chk ρ nC nF nM τ = chk σ nC nF nM τ := by
  unfold chk
  have e1 : ru1 ρ = ru1 σ := funext (ag_ru1 h)
  have e2 : ru2 ρ nC = ru2 σ nC := funext (ag_ru2 h nC)
  have e3 : ru3 ρ nM = ru3 σ nM := funext (ag_ru3 h nM)
  have e4 : ∀ x, brk ρ τ x = brk σ τ x := fun x => funext fun m => funext fun i => ag_brk h τ x m i
  simp only [e1, e2, e3, e4, ag_OKM h, h 12 (by decide) (by decide)]
section CHX
variable {σ s0 : tx_St} {nC nF nM : Nat} {τ : Nat → Nat → TS}
theorem px_1000 : ∀ x, x < 8 → (1000 : Int32) * nI x = nI (1000 * x) := by decide +kernel
theorem px_16 : ∀ x, x < 8 → (16 : Int32) * nI x = nI (16 * x) := by decide +kernel
theorem px_k1 : (1000 : Int32) = nI 1000 := by decide
theorem px_k2 : (2000 : Int32) = nI 2000 := by decide
theorem px_k3 : (3000 : Int32) = nI 3000 := by decide
theorem px_k4 : (4000 : Int32) = nI 4000 := by decide
theorem fb_1 (hB : iv_B σ nC nF nM) : ∀ k d F, d + k = nF → k < F → fx_Rules_firstBreach_b2 F σ (nI 1) (nI d) = some (oI (fs (ru1 σ) d k), σ) := by
  have hb := B_n hB
  intro k
  induction k with
  | zero =>
    intro d F h1 h2
    obtain ⟨F, rfl⟩ : ∃ G, F = G + 1 := ⟨F - 1, by omega⟩
    rw [fx_Rules_firstBreach_b2, if_neg (by decide), hB.2.2.1.2.1, if_pos (nI_le (by omega) (by omega))]
    unfold fx_Rules_firstBreach_b50
    rw [show tx_fu = 399 + 1 from rfl, fx_Rules_firstBreach_b52, if_pos (by decide)]
    rfl
  | succ k ih =>
    intro d F h1 h2
    obtain ⟨F, rfl⟩ : ∃ G, F = G + 1 := ⟨F - 1, by omega⟩
    rw [fx_Rules_firstBreach_b2, if_neg (by decide), hB.2.2.1.2.1, if_neg (nI_ge (by omega) (by omega)), if_pos (by decide), fx_Rules_changesForAll_e hB (by omega), px_ci]
    unfold fx_Rules_firstBreach_b44 fx_Rules_firstBreach_b42
    rw [nI_1]
    by_cases hp : ru1 σ d
    · rw [bP_t hp, if_neg (by decide), fs_t hp]
      rfl
    · rw [bP_f hp, if_pos rfl, fs_f hp]
      exact ih (d + 1) F (by omega) (by omega)
theorem fb_2 (hB : iv_B σ nC nF nM) : ∀ k d F, d + k = nF → k < F → fx_Rules_firstBreach_b2 F σ (nI 2) (nI d) = some (oI (fs (ru2 σ nC) d k), σ) := by
  have hb := B_n hB
  intro k
  induction k with
  | zero =>
    intro d F h1 h2
    obtain ⟨F, rfl⟩ : ∃ G, F = G + 1 := ⟨F - 1, by omega⟩
    rw [fx_Rules_firstBreach_b2, if_neg (by decide), hB.2.2.1.2.1, if_pos (nI_le (by omega) (by omega))]
    unfold fx_Rules_firstBreach_b50
    rw [show tx_fu = 399 + 1 from rfl, fx_Rules_firstBreach_b52, if_pos (by decide)]
    rfl
  | succ k ih =>
    intro d F h1 h2
    obtain ⟨F, rfl⟩ : ∃ G, F = G + 1 := ⟨F - 1, by omega⟩
    rw [fx_Rules_firstBreach_b2, if_neg (by decide), hB.2.2.1.2.1, if_neg (nI_ge (by omega) (by omega)), if_neg (by decide), fx_Rules_changesImmutable_e hB (by omega), px_ci]
    unfold fx_Rules_firstBreach_b44 fx_Rules_firstBreach_b42
    rw [nI_1]
    by_cases hp : ru2 σ nC d
    · rw [bP_t hp, if_neg (by decide), fs_t hp]
      rfl
    · rw [bP_f hp, if_pos rfl, fs_f hp]
      exact ih (d + 1) F (by omega) (by omega)
theorem fb_3 (hB : iv_B σ nC nF nM) : ∀ k d F, d + k = nM → k < F → fx_Rules_firstBreach_b52 F σ (nI 3) (nI d) = some (oI (fs (ru3 σ nM) d k), σ) := by
  have hb := B_n hB
  intro k
  induction k with
  | zero =>
    intro d F h1 h2
    obtain ⟨F, rfl⟩ : ∃ G, F = G + 1 := ⟨F - 1, by omega⟩
    rw [fx_Rules_firstBreach_b52, if_neg (by decide), hB.2.2.1.2.2, if_pos (nI_le (by omega) (by omega))]
    rfl
  | succ k ih =>
    intro d F h1 h2
    obtain ⟨F, rfl⟩ : ∃ G, F = G + 1 := ⟨F - 1, by omega⟩
    rw [fx_Rules_firstBreach_b52, if_neg (by decide), hB.2.2.1.2.2, if_neg (nI_ge (by omega) (by omega)), if_pos (by decide), fx_Rules_overridesBadly_e hB (by omega), px_ci]
    unfold fx_Rules_firstBreach_b83 fx_Rules_firstBreach_b101
    rw [if_neg (show ¬ nI 3 = 4 by decide), show tx_fu = 399 + 1 from rfl, fx_Rules_firstBreach_b103, if_pos (show nI 3 ≤ 4 by decide)]
    unfold fx_Rules_firstBreach_b144
    rw [nI_1]
    by_cases hp : ru3 σ nM d
    · rw [bP_t hp, if_neg (by decide), fs_t hp]
      rfl
    · rw [bP_f hp, if_pos rfl, fs_f hp]
      exact ih (d + 1) F (by omega) (by omega)
/-- only the class's places for the check of code differ -/
def xK (s0 σ : tx_St) : Prop := ∀ k, (k < 15 ∨ 19 < k) → σ k = s0 k
theorem xK_ag (h : xK s0 σ) : ag s0 σ := fun k h1 h2 => h k (Or.inl (by omega))
theorem xK_B (hB : iv_B s0 nC nF nM) (h : xK s0 σ) : iv_B σ nC nF nM := B_eq hB (fun k hk => h k (by omega))
def r16 (s0 σ : tx_St) (τ : Nat → Nat → TS) (n : Nat) : Prop := ∀ m, m < n → ∀ i, i < N_ (s0 12 m) → σ 16 (12 * m + i) = nI (pk_ (τ m i))
theorem fb_4 (hB : iv_B s0 nC nF nM) (hτ : ∀ m, m < nM → OKM s0 nC nF nM m (N_ (s0 12 m)) → okM s0 nC nF nM m (N_ (s0 12 m)) (τ m)) : ∀ k d F σ, d + k = nM → k < F → xK s0 σ → r16 s0 σ τ d → ∃ ρ, fx_Rules_firstBreach_b52 F σ (nI 4) (nI d) = some (oI (fs (fun m => ¬ OKM s0 nC nF nM m (N_ (s0 12 m))) d k), ρ) ∧ xK s0 ρ ∧ (fs (fun m => ¬ OKM s0 nC nF nM m (N_ (s0 12 m))) d k = none → r16 s0 ρ τ nM) := by
  have hb := B_n hB
  intro k
  induction k with
  | zero =>
    intro d F σ h1 h2 hK hr
    obtain ⟨F, rfl⟩ : ∃ G, F = G + 1 := ⟨F - 1, by omega⟩
    refine ⟨σ, ?_, hK, fun _ => by rw [show nM = d by omega]; exact hr⟩
    rw [fx_Rules_firstBreach_b52, if_neg (by decide), (xK_B hB hK).2.2.1.2.2, if_pos (nI_le (by omega) (by omega))]
    rfl
  | succ k ih =>
    intro d F σ h1 h2 hK hr
    obtain ⟨F, rfl⟩ : ∃ G, F = G + 1 := ⟨F - 1, by omega⟩
    have hBσ := xK_B hB hK
    have hag := xK_ag hK
    obtain ⟨l1, l2, l3⟩ := B_m12 hBσ (m := d) (by omega)
    have hl : σ 12 d = s0 12 d := by rw [hK 12 (by decide)]
    obtain ⟨ρ, c1, c2, c3, c4⟩ := fx_Fitting_codeFits_e hBσ (m := d) (by omega) l1 l2 l3
    rw [ag_OKM hag, hl] at c1
    have hKρ : xK s0 ρ := fun k hk => (c2 k hk).trans (hK k hk)
    rw [fx_Rules_firstBreach_b52, if_neg (by decide), hBσ.2.2.1.2.2, if_neg (nI_ge (by omega) (by omega)), if_neg (by decide)]
    unfold fx_Rules_firstBreach_b83 fx_Rules_firstBreach_b101
    rw [if_pos (by decide), c1, px_ci, show tx_fu = 399 + 1 from rfl, fx_Rules_firstBreach_b103, if_pos (show nI 4 ≤ 4 by decide)]
    unfold fx_Rules_firstBreach_b144
    rw [nI_1]
    by_cases hp : OKM s0 nC nF nM d (N_ (s0 12 d))
    · rw [bP_t hp, if_neg (by decide), fs_f (fun z => z hp)]
      refine ih (d + 1) F ρ (by omega) (by omega) hKρ (fun m hm i hi => ?_)
      by_cases hmd : m = d
      · subst hmd
        refine c4 (τ m) ?_ i (by rw [hl]; exact hi)
        rw [ag_okM hag, hl]
        exact hτ m (by omega) hp
      · have : i < 12 := Nat.lt_of_lt_of_le hi (B_m12 hB (m := m) (by omega)).1
        rw [c3 _ (by omega)]
        exact hr m (by omega) i hi
    · rw [bP_f hp, if_pos rfl, fs_t hp]
      exact ⟨ρ, rfl, hKρ, fun z => by cases z⟩
/-- checked, with the class's record of types -/
def Cx (σ : tx_St) (nC nF nM : Nat) (τ : Nat → Nat → TS) : Prop := iv_B σ nC nF nM ∧ Ck σ nC nF nM τ ∧ r16 σ σ τ nM
theorem Cx_xe {ρ : tx_St} (h : Cx σ nC nF nM τ) (he : xe σ ρ) : Cx ρ nC nF nM τ := by
  refine ⟨xe_B he h.1, ag_Ck (xe_ag he) h.2.1, fun m hm i hi => ?_⟩
  rw [he.1 12 (by decide) (by decide) (by decide)] at hi
  rw [he.1 16 (by decide) (by decide) (by decide)]
  exact h.2.2 m hm i hi
theorem fb_57i (K : tx_St → Int32 → Int32 → Option (Int32 × tx_St)) {x d : Nat} (hx : x = 5 ∨ x = 6 ∨ x = 7) (hd : d < nM) : ∀ k i F σ, i + k = N_ (σ 12 d) → k < F → Cx σ nC nF nM τ → ∃ ρ, xe σ ρ ∧ fx_Rules_firstBreach_b103 K F σ (nI x) (nI d) (nI i) = (match fs (brk σ τ x d) i k with | some j => some (nI (16 * d + j), ρ) | none => K ρ (nI x) (nI (d + 1))) := by
  have hx4 : ¬ nI x ≤ 4 := by rcases hx with rfl | rfl | rfl <;> decide
  intro k
  induction k with
  | zero =>
    intro i F σ h1 h2 hX
    obtain ⟨F, rfl⟩ : ∃ G, F = G + 1 := ⟨F - 1, by omega⟩
    have hb := B_n hX.1
    obtain ⟨l1, l2, -⟩ := B_m12 hX.1 hd
    refine ⟨σ, xe_rf σ, ?_⟩
    rw [fx_Rules_firstBreach_b103, if_neg hx4, px_rd (j := d) rfl (by omega) (by decide), l2, if_pos (nI_le (by omega) (by omega))]
    unfold fx_Rules_firstBreach_b144
    rw [nI_1]
    rfl
  | succ k ih =>
    intro i F σ h1 h2 hX
    obtain ⟨F, rfl⟩ : ∃ G, F = G + 1 := ⟨F - 1, by omega⟩
    have hb := B_n hX.1
    obtain ⟨l1, l2, -⟩ := B_m12 hX.1 hd
    obtain ⟨ρ, e1, e2⟩ := fx_Rules_breaks_e hX.1 hX.2.1 (hX.2.2 d hd i (by omega)) hd (by omega) hx
    rw [fx_Rules_firstBreach_b103, if_neg hx4, px_rd (j := d) rfl (by omega) (by decide), l2, if_neg (nI_ge (by omega) (by omega)), e1, px_ci, px_16 d (by omega), nI_add, nI_1]
    by_cases hp : brk σ τ x d i
    · refine ⟨ρ, e2, ?_⟩
      rw [bP_t hp, if_neg (by decide), fs_t hp]
    · rw [bP_f hp, if_pos rfl, fs_f hp]
      obtain ⟨ρ2, f1, f2⟩ := ih (i + 1) F ρ (by rw [e2.1 12 (by decide) (by decide) (by decide)]; omega) (by omega) (Cx_xe hX e2)
      refine ⟨ρ2, xe_tr e2 f1, ?_⟩
      rw [f2, show brk ρ τ x d = brk σ τ x d from funext fun i => ag_brk (xe_ag e2) τ x d i]
theorem fb_57 {x : Nat} (hx : x = 5 ∨ x = 6 ∨ x = 7) : ∀ k d F σ, d + k = nM → k < F → Cx σ nC nF nM τ → ∃ ρ, xe σ ρ ∧ fx_Rules_firstBreach_b52 F σ (nI x) (nI d) = some (oI (fq (fun m => N_ (σ 12 m)) (brk σ τ x) d k), ρ) := by
  have hx2 : ¬ nI x ≤ 2 := by rcases hx with rfl | rfl | rfl <;> decide
  have hx3 : ¬ nI x = 3 := by rcases hx with rfl | rfl | rfl <;> decide
  have hx4 : ¬ nI x = 4 := by rcases hx with rfl | rfl | rfl <;> decide
  intro k
  induction k with
  | zero =>
    intro d F σ h1 h2 hX
    have hb := B_n hX.1
    obtain ⟨F, rfl⟩ : ∃ G, F = G + 1 := ⟨F - 1, by omega⟩
    refine ⟨σ, xe_rf σ, ?_⟩
    rw [fx_Rules_firstBreach_b52, if_neg hx2, hX.1.2.2.1.2.2, if_pos (nI_le (by omega) (by omega))]
    rfl
  | succ k ih =>
    intro d F σ h1 h2 hX
    have hb := B_n hX.1
    obtain ⟨F, rfl⟩ : ∃ G, F = G + 1 := ⟨F - 1, by omega⟩
    have l1 := (B_m12 hX.1 (m := d) (by omega)).1
    rw [fx_Rules_firstBreach_b52, if_neg hx2, hX.1.2.2.1.2.2, if_neg (nI_ge (by omega) (by omega)), if_neg hx3]
    unfold fx_Rules_firstBreach_b83 fx_Rules_firstBreach_b101
    rw [if_neg hx4]
    obtain ⟨ρ, e1, e2⟩ := fb_57i (fx_Rules_firstBreach_b52 F) hx (show d < nM by omega) (N_ (σ 12 d)) 0 tx_fu σ (by omega) (by unfold tx_fu; omega) hX
    rw [show (0 : Int32) = nI 0 from rfl, e2, fq]
    cases e : fs (brk σ τ x d) 0 (N_ (σ 12 d)) with
    | some j => exact ⟨ρ, e1, rfl⟩
    | none =>
      obtain ⟨ρ2, f1, f2⟩ := ih (d + 1) F ρ (by omega) (by omega) (Cx_xe hX e1)
      refine ⟨ρ2, xe_tr e1 f1, ?_⟩
      show fx_Rules_firstBreach_b52 F ρ (nI x) (nI (d + 1)) = _
      rw [f2, show brk ρ τ x = brk σ τ x from funext fun m => funext fun i => ag_brk (xe_ag e1) τ x m i, e1.1 12 (by decide) (by decide) (by decide)]
end CHX
