/-! the method that is chosen -/
section CHO
variable {s0 : tx_St} {nC nF nM : Nat} {τ : Nat → Nat → TS}
theorem ln_chain (hn : nC ≤ 8) (hC : ∀ c, c < nC → iv_cl s0 c) {e g : Nat} (he : e < 32) (hg : g < 32) (hge : g ≤ e) : ∀ d, d < nC → ln s0 d e → ln s0 d g → ln s0 e g := by
  intro d
  induction d using Nat.strongRecOn with
  | ind d ih =>
    intro hd h1 h2
    rcases (ln_rec (by omega) (hC d hd) he).mp h1 with h1 | ⟨p, p1, p2, p3⟩
    · rw [h1]
      exact h2
    · have hep := ln_lt hn hC he p (by omega) p3
      rcases (ln_rec (by omega) (hC d hd) hg).mp h2 with h2 | ⟨q, q1, q2, q3⟩
      · omega
      · have : p = q := (nI_eq (by omega) (by omega)).mp (p2.symm.trans q2)
        subst this
        exact ih p p1 (by omega) p3 q3
def fnd (s0 : tx_St) (nM x e : Nat) : Int32 := px_find (s0 7) (s0 9) (nI e) (s0 9 x) 0 nM
/-- the lowest class in line that has it -/
noncomputable def fd (s0 : tx_St) (nM x d : Nat) : Nat → Option Nat
  | 0 => none
  | j + 1 => cif (ln s0 d j ∧ fnd s0 nM x j ≠ -1) (some j) (fd s0 nM x d j)
theorem fd_t {x d j : Nat} (h : ln s0 d j ∧ fnd s0 nM x j ≠ -1) : fd s0 nM x d (j + 1) = some j := by rw [fd, cif_t h]
theorem fd_f {x d j : Nat} (h : ¬ (ln s0 d j ∧ fnd s0 nM x j ≠ -1)) : fd s0 nM x d (j + 1) = fd s0 nM x d j := by rw [fd, cif_f h]
theorem fd_some {x d e : Nat} : ∀ j, fd s0 nM x d j = some e → e < j ∧ ln s0 d e ∧ fnd s0 nM x e ≠ -1
  | 0, h => by cases h
  | j + 1, h => by
    rcases Classical.em (ln s0 d j ∧ fnd s0 nM x j ≠ -1) with hp | hp
    · rw [fd_t hp] at h
      cases h
      exact ⟨by omega, hp⟩
    · rw [fd_f hp] at h
      have := fd_some j h
      exact ⟨by omega, this.2⟩
theorem fd_ge {x d c : Nat} (h : ln s0 d c ∧ fnd s0 nM x c ≠ -1) : ∀ j, c < j → ∃ e, c ≤ e ∧ fd s0 nM x d j = some e
  | 0, hc => by omega
  | j + 1, hc => by
    rcases Classical.em (ln s0 d j ∧ fnd s0 nM x j ≠ -1) with hp | hp
    · exact ⟨j, by omega, fd_t hp⟩
    · by_cases hcj : c = j
      · exact absurd (hcj ▸ h) hp
      · obtain ⟨e, h1, h2⟩ := fd_ge h j (by omega)
        exact ⟨e, h1, by rw [fd_f hp]; exact h2⟩
theorem fd_skip {x d a : Nat} : ∀ b, a ≤ b → (∀ g, a ≤ g → g < b → ¬ ln s0 d g) → fd s0 nM x d b = fd s0 nM x d a
  | 0, h, _ => by
    have : a = 0 := by omega
    rw [this]
  | b + 1, h, hg => by
    by_cases hab : a = b + 1
    · rw [hab]
    · rw [fd_f (fun z => hg b (by omega) (by omega) z.1)]
      exact fd_skip b (by omega) (fun g h1 h2 => hg g h1 (by omega))
def oF (s0 : tx_St) (nM x : Nat) (o : Option Nat) (b : Int32) : Int32 := match o with
  | some e => fnd s0 nM x e
  | none => b
theorem fnd_neg (hm : nM ≤ 8) {x e : Nat} : fnd s0 nM x e = -1 ↔ fnd s0 nM x e < 0 := px_find_neg hm
theorem cho_C (hB : iv_B s0 nC nF nM) {σ : tx_St} (hp : pe s0 σ) {x d : Nat} (hx : x < nM) (hd : d < nC) : ∀ (j F : Nat), j ≤ 8 → j < F → fx_Plan_chosenMethod_b2 F σ (nI x) (nI d) (nI j - 1) = some (oF s0 nM x (fd s0 nM x d j) (nI x), σ) := by
  have hb := B_n hB
  have hBσ := pe_B hB hp
  intro j
  induction j with
  | zero =>
    intro F h8 hF
    obtain ⟨F, rfl⟩ : ∃ G, F = G + 1 := ⟨F - 1, by omega⟩
    rw [fx_Plan_chosenMethod_b2, if_pos (by decide)]
    rfl
  | succ j ih =>
    intro F h8 hF
    obtain ⟨F, rfl⟩ : ∃ G, F = G + 1 := ⟨F - 1, by omega⟩
    have hln : ln σ d j = ln s0 d j := by unfold ln; rw [hp.1 2 (by decide)]
    rw [fx_Plan_chosenMethod_b2, px_s1, if_neg (nI_pos (by omega)), fx_Plan_isUnder_e (by omega) (by omega), px_ci, hln, px_rd (j := x) rfl (by omega) (by decide), hp.1 9 (by decide), fx_Plan_methodNamed_e hb.2.2 hBσ.2.2.1.2.2, px_ci, hp.1 7 (by decide), hp.1 9 (by decide)]
    unfold fx_Plan_chosenMethod_b30
    rw [px_m1, ih F (by omega) (by omega), if_pos rfl]
    show (if bP (ln s0 d j) = 0 then some (oF s0 nM x (fd s0 nM x d j) (nI x), σ) else if fnd s0 nM x j = -1 then some (oF s0 nM x (fd s0 nM x d j) (nI x), σ) else some (fnd s0 nM x j, σ)) = _
    rcases Classical.em (ln s0 d j) with hl | hl
    · rw [bP_t hl, if_neg (by decide)]
      by_cases hf : fnd s0 nM x j = -1
      · rw [if_pos hf, fd_f (fun z => z.2 hf)]
      · rw [if_neg hf, fd_t ⟨hl, hf⟩]
        rfl
    · rw [bP_f hl, if_pos rfl, fd_f (fun z => hl z.1)]
theorem cho_M (hB : iv_B s0 nC nF nM) {ρ : tx_St} (hp : pe s0 ρ) {x d : Nat} (hx : x < nM) (hd : d < nC) : ∀ e, e < nC → ln s0 d e → ∀ (cnt F : Nat), cnt + e < 8 → e + 1 < F → fx_Mo_chosen_b29 F ρ (nI x) (nI e) (-1) (nI cnt) = some (oF s0 nM x (fd s0 nM x d (e + 1)) (-1), ρ) := by
  have hb := B_n hB
  have hBρ := pe_B hB hp
  intro e
  induction e using Nat.strongRecOn with
  | ind e ih =>
    intro he hde cnt F hcnt hF
    obtain ⟨F, rfl⟩ : ∃ G, F = G + 1 := ⟨F - 1, by omega⟩
    have e53 : ρ 53 = s0 9 := (hp.1 53 (by decide)).trans hB.1.2.2.2.2.2.2.1
    have e51 : ρ 51 = s0 7 := (hp.1 51 (by decide)).trans hB.1.2.2.2.2.1
    have k7 : ρ 45 7 = nI nM := hBρ.1.1.2.2.trans hBρ.2.2.1.2.2
    rw [fx_Mo_chosen_b29, if_neg (show ¬ (8 : Int32) ≤ nI cnt from nI_8 ▸ nI_ge (by omega) (by decide)), if_neg (nI_pos (by omega)), if_neg (by decide), px_rd (j := x) rfl (by omega) (by decide), e53, fx_Mo_methodOf_e hb.2.2 k7, px_ci, e51, e53, px_rd (j := e) rfl (by omega) (by decide), hp.1 46 (by decide), nI_1]
    show fx_Mo_chosen_b29 F ρ (nI x) (s0 46 e) (fnd s0 nM x e) (nI (cnt + 1)) = _
    by_cases hf : fnd s0 nM x e = -1
    · rw [fd_f (fun z => z.2 hf), hf]
      rcases (B_C hB e he).2 with ⟨p1, -⟩ | ⟨p, p1, p2, -⟩
      · obtain ⟨F, rfl⟩ : ∃ G, F = G + 1 := ⟨F - 1, by omega⟩
        have hno : fd s0 nM x d e = none := by
          rw [fd_skip (a := 0) e (by omega) (fun g h1 h2 hg => ?_)]
          · rfl
          · have hl := ln_chain hb.1 (B_C hB) (by omega) (by omega) (by omega) d hd hde hg
            rcases (ln_rec (by omega) (B_C hB e he) (by omega)).mp hl with z | ⟨p, z1, z2, -⟩
            · omega
            · rw [p1] at z2
              exact nI_pos (n := p) (by omega) (z2 ▸ (by decide : (-1 : Int32) < 0))
        rw [hno, p1, fx_Mo_chosen_b29]
        unfold fx_Mo_chosen_b71
        rw [if_pos (show (-1 : Int32) < 0 by decide)]
        split <;> rfl
      · have hep : ln s0 e p := (ln_rec (by omega) (B_C hB e he) (by omega)).mpr (Or.inr ⟨p, p1, p2, ln_rf hb.1 (B_C hB) (by omega)⟩)
        have hdp := ln_tr hb.1 (B_C hB) he (by omega) hep d hd hde
        rw [p2, ih p p1 (by omega) hdp (cnt + 1) F (by omega) (by omega), fd_skip (a := p + 1) e (by omega) (fun g h1 h2 hg => ?_)]
        have hl := ln_chain hb.1 (B_C hB) (by omega) (by omega) (by omega) d hd hde hg
        rcases (ln_rec (by omega) (B_C hB e he) (by omega)).mp hl with z | ⟨q, z1, z2, z3⟩
        · omega
        · have : p = q := (nI_eq (by omega) (by omega)).mp (p2.symm.trans z2)
          subst this
          have := ln_lt hb.1 (B_C hB) (by omega) p (by omega) z3
          omega
    · obtain ⟨F, rfl⟩ : ∃ G, F = G + 1 := ⟨F - 1, by omega⟩
      have hnn : 0 ≤ fnd s0 nM x e := Int32.not_lt.mp (fun z => hf ((fnd_neg hb.2.2).mpr z))
      rw [fd_t ⟨hde, hf⟩, fx_Mo_chosen_b29]
      unfold fx_Mo_chosen_b71
      rw [if_pos hnn]
      split
      · rfl
      · split <;> rfl
/-- both sides choose the same, and its types agree -/
theorem cho_e (hS : Sx s0 nC nF nM τ) {x d : Nat} (hx : x < nM) (hs : ¬ stM s0 x) (hd : d < nC) (hl : ln s0 d (N_ (s0 7 x))) : ∃ m', m' < nM ∧ ¬ stM s0 m' ∧ s0 10 m' = s0 10 x ∧ s0 11 m' = s0 11 x ∧ ln s0 d (N_ (s0 7 m')) ∧ (∀ σ, pe s0 σ → fx_Plan_chosenMethod σ (nI x) (nI d) = some (nI m', σ)) ∧ ∀ ρ, pe s0 ρ → fx_Mo_chosen_b29 tx_fu ρ (nI x) (nI d) (-1) 0 = some (nI m', ρ) := by
  have hB := hS.1
  have hb := B_n hB
  obtain ⟨b1, b2⟩ := B_m7 hB hx
  have hfx : fnd s0 nM x (N_ (s0 7 x)) ≠ -1 := fun z => px_find_no nM 0 (by omega) z x (by omega) (by omega) ⟨b2, rfl⟩
  have hcd := ln_lt hb.1 (B_C hB) (by omega) d hd hl
  obtain ⟨e, e1, e2⟩ := fd_ge (nM := nM) ⟨hl, hfx⟩ (d + 1) (by omega)
  obtain ⟨e3, e4, e5⟩ := fd_some _ e2
  rcases px_find_r (f := s0 7) (g := s0 9) (c := nI e) (n := s0 9 x) nM 0 with z | ⟨m', z1, z2, z3, z4⟩
  · exact absurd z e5
  · have hm' : m' < nM := by omega
    have h7 : N_ (s0 7 m') = e := by rw [z3, N_nI (by omega)]
    have facts : ¬ stM s0 m' ∧ s0 10 m' = s0 10 x ∧ s0 11 m' = s0 11 x := by
      by_cases hec : s0 7 x = s0 7 m'
      · have : m' = x := hS.2.2.2.2.2 nM m' x hb.2.2 hB.2.2.1.2.2 hm' hx hec.symm z4
        subst this
        exact ⟨hs, rfl, rfl⟩
      · have hov : ovr s0 m' x := ⟨hec, by rw [h7]; exact ln_chain hb.1 (B_C hB) (by omega) (by omega) e1 d hd e4 hl, z4.symm⟩
        have hag : agr s0 m' x := Classical.not_not.mp (fun z => hS.2.2.2.1 m' hm' ⟨x, hx, hov, z⟩)
        exact ⟨hag.1, hag.2.2.1, hag.2.2.2⟩
    have hv : oF s0 nM x (fd s0 nM x d (d + 1)) (nI x) = nI m' := by rw [e2]; exact z2
    have hv2 : oF s0 nM x (fd s0 nM x d (d + 1)) (-1) = nI m' := by rw [e2]; exact z2
    refine ⟨m', hm', facts.1, facts.2.1, facts.2.2, by rw [h7]; exact e4, fun σ hp => ?_, fun ρ hp => ?_⟩
    · have h := cho_C hB hp hx hd (d + 1) tx_fu (by omega) (by unfold tx_fu; omega)
      rw [px_s1, hv] at h
      exact h
    · have h := cho_M hB hp hx hd d hd (ln_rf hb.1 (B_C hB) hd) 0 tx_fu (by omega) (by unfold tx_fu; omega)
      rw [hv2] at h
      exact h
end CHO
