/-! fields, methods, ownership; rules 1 to 3 -/
def iv_sz (σ : tx_St) : Prop := (σ 45 0 = σ 1 0 ∧ σ 45 3 = σ 1 1 ∧ σ 45 7 = σ 1 2) ∧
  (σ 48 = σ 4 ∧ σ 49 = σ 5 ∧ σ 50 = σ 6 ∧ σ 51 = σ 7 ∧ σ 52 = σ 8 ∧ σ 53 = σ 9 ∧ σ 54 = σ 10 ∧ σ 55 = σ 11 ∧ σ 56 = σ 12 ∧ σ 57 = σ 13 ∧ σ 58 = σ 14)
def iv_B (σ : tx_St) (nC nF nM : Nat) : Prop := iv_sz σ ∧ iv_pl σ nC nF nM
theorem iv_sy_sz {σ : tx_St} (h : iv_sy σ) : iv_sz σ := ⟨⟨h.1.1, h.1.2.1, h.1.2.2.1⟩, h.2⟩
abbrev N_ (x : Int32) : Nat := x.toNatClampNeg
def stF (σ : tx_St) (f : Nat) : Prop := ¬ σ 5 f &&& 1 = 0
def fiF (σ : tx_St) (f : Nat) : Prop := ¬ σ 5 f &&& 2 = 0
def stM (σ : tx_St) (m : Nat) : Prop := ¬ σ 8 m &&& 1 = 0
def ow (σ : tx_St) (c f : Nat) : Prop := ¬ stF σ f ∧ ln σ c (N_ (σ 4 f))
theorem px_2 (d : Nat) : (2 : Int32) + nI d = nI (d + 2) := by rw [show (2 : Int32) = nI 2 by decide, nI_add, Nat.add_comm]
theorem px_m2 {d : Nat} : nI (d + 2) - 2 = nI d := by rw [show (2 : Int32) = nI 2 by decide, pk_sub (by omega)]; rfl
theorem N_nI {n : Nat} (h : n < 2 ^ 31) : N_ (nI n) = n := nI_clamp h
section B
variable {σ : tx_St} {nC nF nM : Nat}
theorem B_C (h : iv_B σ nC nF nM) : ∀ c, c < nC → iv_cl σ c := h.2.2.2.1
theorem B_n (h : iv_B σ nC nF nM) : nC ≤ 8 ∧ nF ≤ 12 ∧ nM ≤ 8 := h.2.1
theorem B_s0 (h : iv_B σ nC nF nM) : σ 45 0 = nI nC := h.1.1.1.trans h.2.2.1.1
theorem B_f4 (h : iv_B σ nC nF nM) {f : Nat} (hf : f < nF) : N_ (σ 4 f) < nC ∧ σ 4 f = nI (N_ (σ 4 f)) := by
  obtain ⟨⟨c, hc, e⟩, -⟩ := h.2.2.2.2.1 f hf
  have := (B_n h).1
  rw [e, N_nI (by omega)]
  exact ⟨hc, rfl⟩
theorem B_f6 (h : iv_B σ nC nF nM) {f : Nat} (hf : f < nF) : N_ (σ 6 f) < nC + 2 ∧ σ 6 f = nI (N_ (σ 6 f)) := by
  obtain ⟨-, -, ⟨c, hc, e⟩⟩ := h.2.2.2.2.1 f hf
  have := (B_n h).1
  rw [e, N_nI (by omega)]
  exact ⟨hc, rfl⟩
theorem B_m7 (h : iv_B σ nC nF nM) {m : Nat} (hm : m < nM) : N_ (σ 7 m) < nC ∧ σ 7 m = nI (N_ (σ 7 m)) := by
  obtain ⟨⟨c, hc, e⟩, -⟩ := h.2.2.2.2.2 m hm
  have := (B_n h).1
  rw [e, N_nI (by omega)]
  exact ⟨hc, rfl⟩
theorem B_m11 (h : iv_B σ nC nF nM) {m : Nat} (hm : m < nM) : N_ (σ 11 m) < nC + 2 ∧ σ 11 m = nI (N_ (σ 11 m)) := by
  obtain ⟨-, -, -, -, ⟨c, hc, e⟩, -⟩ := h.2.2.2.2.2 m hm
  have := (B_n h).1
  rw [e, N_nI (by omega)]
  exact ⟨hc, rfl⟩
theorem B_m8 (h : iv_B σ nC nF nM) {m : Nat} (hm : m < nM) : (¬ stM σ m ∧ σ 8 m = 0) ∨ (stM σ m ∧ σ 8 m = 1) := by
  obtain ⟨-, ⟨c, hc, e⟩, -⟩ := h.2.2.2.2.2 m hm
  unfold stM
  rw [e]
  rcases (by omega : c = 0 ∨ c = 1) with rfl | rfl
  · exact Or.inl ⟨by decide, rfl⟩
  · exact Or.inr ⟨by decide, rfl⟩
theorem fx_Plan_isStaticField_e {f : Nat} (hf : f < 12) : fx_Plan_isStaticField σ (nI f) = some (bP (stF σ f), σ) := by
  unfold fx_Plan_isStaticField fx_Plan_isStaticField_b16
  rw [px_rd rfl hf (by decide)]
  by_cases h : σ 5 f &&& 1 = 0
  · rw [if_pos h, px_rz (Or.inl rfl), bP_f (fun z => z h)]
  · rw [if_neg h, px_rz (Or.inr rfl), bP_t (show stF σ f from h)]
theorem fx_Plan_isFinalField_e {f : Nat} (hf : f < 12) : fx_Plan_isFinalField σ (nI f) = some (bP (fiF σ f), σ) := by
  unfold fx_Plan_isFinalField fx_Plan_isFinalField_b16
  rw [px_rd rfl hf (by decide)]
  by_cases h : σ 5 f &&& 2 = 0
  · rw [if_pos h, px_rz (Or.inl rfl), bP_f (fun z => z h)]
  · rw [if_neg h, px_rz (Or.inr rfl), bP_t (show fiF σ f from h)]
theorem fx_Plan_isStaticMethod_e {m : Nat} (hf : m < 8) : fx_Plan_isStaticMethod σ (nI m) = some (bP (stM σ m), σ) := by
  unfold fx_Plan_isStaticMethod fx_Plan_isStaticMethod_b16
  rw [px_rd rfl hf (by decide)]
  by_cases h : σ 8 m &&& 1 = 0
  · rw [if_pos h, px_rz (Or.inl rfl), bP_f (fun z => z h)]
  · rw [if_neg h, px_rz (Or.inr rfl), bP_t (show stM σ m from h)]
theorem fx_Mo_isStatic_e (h : iv_B σ nC nF nM) {f : Nat} (hf : f < 12) : fx_Mo_isStatic σ (nI f) = some (bP (stF σ f), σ) := by
  unfold fx_Mo_isStatic fx_Mo_isStatic_b16
  rw [px_rd rfl hf (by decide), h.1.2.2.1]
  by_cases h : σ 5 f &&& 1 = 0
  · rw [if_pos h, px_rz (Or.inl rfl), bP_f (fun z => z h)]
  · rw [if_neg h, px_rz (Or.inr rfl), bP_t (show stF σ f from h)]
theorem fx_Mo_isFinal_e (h : iv_B σ nC nF nM) {f : Nat} (hf : f < 12) : fx_Mo_isFinal σ (nI f) = some (bP (fiF σ f), σ) := by
  unfold fx_Mo_isFinal fx_Mo_isFinal_b16
  rw [px_rd rfl hf (by decide), h.1.2.2.1]
  by_cases h : σ 5 f &&& 2 = 0
  · rw [if_pos h, px_rz (Or.inl rfl), bP_f (fun z => z h)]
  · rw [if_neg h, px_rz (Or.inr rfl), bP_t (show fiF σ f from h)]
theorem fx_Plan_owns_e (h : iv_B σ nC nF nM) {c f : Nat} (hc : c < 8) (hf : f < nF) : fx_Plan_owns σ (nI c) (nI f) = some (bP (ow σ c f), σ) := by
  have hn := B_n h
  unfold fx_Plan_owns fx_Plan_owns_b26 fx_Plan_owns_b27
  rw [fx_Plan_isStaticField_e (by omega), px_ci]
  by_cases hs : stF σ f
  · rw [bP_t hs, if_neg (by decide), px_rz (Or.inl rfl), bP_f (fun z => z.1 hs)]
  · rw [bP_f hs, if_pos rfl, px_rd rfl (by omega) (by decide), (B_f4 h hf).2, fx_Plan_isUnder_e hc (by have := (B_f4 h hf).1; omega), px_ci]
    by_cases hl : ln σ c (N_ (σ 4 f))
    · rw [bP_t hl, if_neg (by decide), px_rz (Or.inr rfl), bP_t (show ow σ c f from ⟨hs, hl⟩)]
    · rw [bP_f hl, if_pos rfl, px_rz (Or.inl rfl), bP_f (fun z => hl z.2)]
theorem fx_Mo_owns_e (h : iv_B σ nC nF nM) {c f : Nat} (hc : c < nC) (hf : f < nF) : fx_Mo_owns σ (nI c) (nI f) = some (bP (ow σ c f), σ) := by
  have hn := B_n h
  unfold fx_Mo_owns fx_Mo_owns_b26 fx_Mo_owns_b27
  rw [fx_Mo_isStatic_e h (by omega), px_ci]
  by_cases hs : stF σ f
  · rw [bP_t hs, if_neg (by decide), px_rz (Or.inl rfl), bP_f (fun z => z.1 hs)]
  · rw [bP_f hs, if_pos rfl, px_rd rfl (by omega) (by decide), h.1.2.1, (B_f4 h hf).2, fx_Mo_inLine_e hn.1 (B_C h) hc (by have := (B_f4 h hf).1; omega), px_ci]
    by_cases hl : ln σ c (N_ (σ 4 f))
    · rw [bP_t hl, if_neg (by decide), px_rz (Or.inr rfl), bP_t (show ow σ c f from ⟨hs, hl⟩)]
    · rw [bP_f hl, if_pos rfl, px_rz (Or.inl rfl), bP_f (fun z => hl z.2)]
/-- rule 1 is broken at f -/
def ru1 (σ : tx_St) (f : Nat) : Prop := stF σ f ∧ ¬ (fiF σ f ∧ pw σ (N_ (σ 6 f)))
theorem fx_Rules_changesForAll_e (h : iv_B σ nC nF nM) {f : Nat} (hf : f < nF) : fx_Rules_changesForAll σ (nI f) = some (bP (ru1 σ f), σ) := by
  have hn := B_n h
  unfold fx_Rules_changesForAll fx_Rules_changesForAll_b43 fx_Rules_changesForAll_b48
  rw [fx_Plan_isStaticField_e (by omega), px_ci]
  by_cases hs : stF σ f
  · rw [bP_t hs, if_neg (by decide), fx_Plan_isFinalField_e (by omega), px_ci]
    by_cases hi : fiF σ f
    · rw [bP_t hi, if_neg (by decide), px_rd rfl (by omega) (by decide), (B_f6 h hf).2, fx_Plan_isPowerless_e hn.1 (B_f6 h hf).1, px_ci]
      by_cases hp : pw σ (N_ (σ 6 f))
      · rw [bP_t hp, if_neg (by decide), px_rz (Or.inl rfl), bP_f (fun z => z.2 ⟨hi, hp⟩)]
      · rw [bP_f hp, if_pos rfl, px_rz (Or.inr rfl), bP_t (show ru1 σ f from ⟨hs, fun z => hp z.2⟩)]
    · rw [bP_f hi, if_pos rfl, px_rz (Or.inr rfl), bP_t (show ru1 σ f from ⟨hs, fun z => hi z.1⟩)]
  · rw [bP_f hs, if_pos rfl, bP_f (fun z => hs z.1)]
theorem fx_Mo_looseStatic_e (h : iv_B σ nC nF nM) {f : Nat} (hf : f < nF) : fx_Mo_looseStatic σ (nI f) = some (bP (ru1 σ f), σ) := by
  have hn := B_n h
  unfold fx_Mo_looseStatic fx_Mo_looseStatic_b33 fx_Mo_looseStatic_b29 fx_Mo_looseStatic_b34
  rw [fx_Mo_isStatic_e h (by omega), px_ci]
  by_cases hs : stF σ f
  · rw [bP_t hs, if_neg (by decide), fx_Mo_isFinal_e h (by omega), px_ci]
    by_cases hi : fiF σ f
    · rw [bP_t hi, if_neg (by decide), px_rd rfl (by omega) (by decide), h.1.2.2.2.1, (B_f6 h hf).2, fx_Mo_powerless_e hn.1 (B_s0 h) (B_C h) (B_f6 h hf).1, px_ci]
      by_cases hp : pw σ (N_ (σ 6 f))
      · rw [bP_t hp, if_neg (by decide), px_rz (Or.inl rfl), bP_f (fun z => z.2 ⟨hi, hp⟩)]
      · rw [bP_f hp, if_pos rfl, px_rz (Or.inr rfl), bP_t (show ru1 σ f from ⟨hs, fun z => hp z.2⟩)]
    · rw [bP_f hi, if_pos rfl, px_rz (Or.inr rfl), bP_t (show ru1 σ f from ⟨hs, fun z => hi z.1⟩)]
  · rw [bP_f hs, if_pos rfl, px_rz (Or.inl rfl), bP_f (fun z => hs z.1)]
/-- rule 2 is broken at f, for class c -/
def ru2c (σ : tx_St) (f c : Nat) : Prop := ow σ c f ∧ ((im σ (c + 2) ∧ ¬ (fiF σ f ∧ im σ (N_ (σ 6 f)))) ∨ (pw σ (c + 2) ∧ ¬ pw σ (N_ (σ 6 f))))
def ru2 (σ : tx_St) (nC f : Nat) : Prop := ∃ c, c < nC ∧ ru2c σ f c
theorem ex_step {P : Nat → Prop} {d n : Nat} (hd : d < n) : (∃ c, d ≤ c ∧ c < n ∧ P c) ↔ P d ∨ ∃ c, d + 1 ≤ c ∧ c < n ∧ P c := by
  constructor
  · rintro ⟨c, h1, h2, h3⟩
    by_cases h : c = d
    · exact Or.inl (h ▸ h3)
    · exact Or.inr ⟨c, by omega, h2, h3⟩
  · rintro (h | ⟨c, h1, h2, h3⟩)
    · exact ⟨d, Nat.le_refl d, hd, h⟩
    · exact ⟨c, by omega, h2, h3⟩
theorem ex_0 {P : Nat → Prop} {n : Nat} : (∃ c, 0 ≤ c ∧ c < n ∧ P c) ↔ ∃ c, c < n ∧ P c := by
  constructor
  · rintro ⟨c, -, h⟩
    exact ⟨c, h⟩
  · rintro ⟨c, h⟩
    exact ⟨c, Nat.zero_le c, h⟩
theorem ex_up {P : Nat → Prop} {d : Nat} : (∃ c, c < d + 1 ∧ P c) ↔ (∃ c, c < d ∧ P c) ∨ P d := by
  constructor
  · rintro ⟨c, h1, h2⟩
    by_cases h : c = d
    · exact Or.inr (h ▸ h2)
    · exact Or.inl ⟨c, by omega, h2⟩
  · rintro (⟨c, h1, h2⟩ | h)
    · exact ⟨c, by omega, h2⟩
    · exact ⟨d, by omega, h⟩
theorem fx_Rules_changesImmutable_l (h : iv_B σ nC nF nM) {f : Nat} (hf : f < nF) : ∀ (j d F : Nat), d + j = nC → j < F →
    fx_Rules_changesImmutable_b56 F σ (nI f) (bP (fiF σ f ∧ im σ (N_ (σ 6 f)))) (bP (pw σ (N_ (σ 6 f)))) (nI d) = some (bP (∃ c, d ≤ c ∧ c < nC ∧ ru2c σ f c), σ) := by
  have hn := B_n h
  intro j
  induction j with
  | zero =>
    intro d F hd hF
    obtain ⟨F, rfl⟩ : ∃ G, F = G + 1 := ⟨F - 1, by omega⟩
    rw [fx_Rules_changesImmutable_b56, h.2.2.1.1, if_pos (nI_le (by omega) (by omega)), bP_f]
    rintro ⟨c, h1, h2, -⟩
    omega
  | succ j ih =>
    intro d F hd hF
    obtain ⟨F, rfl⟩ : ∃ G, F = G + 1 := ⟨F - 1, by omega⟩
    have nx : ¬ ru2c σ f d → fx_Rules_changesImmutable_b126 (fx_Rules_changesImmutable_b56 F) σ (nI f) (bP (fiF σ f ∧ im σ (N_ (σ 6 f)))) (bP (pw σ (N_ (σ 6 f)))) (nI d) = some (bP (∃ c, d ≤ c ∧ c < nC ∧ ru2c σ f c), σ) := by
      intro hnd
      unfold fx_Rules_changesImmutable_b126
      rw [nI_1, ih (d + 1) F (by omega) (by omega)]
      rw [bP_c]
      rw [ex_step (d := d) (by omega)]
      exact ⟨fun z => Or.inr z, fun z => z.resolve_left hnd⟩
    have hit : ru2c σ f d → (bP (∃ c, d ≤ c ∧ c < nC ∧ ru2c σ f c)) = 1 := fun hd0 => bP_t ⟨d, Nat.le_refl d, by omega, hd0⟩
    rw [fx_Rules_changesImmutable_b56, h.2.2.1.1, if_neg (nI_ge (by omega) (by omega)), fx_Plan_owns_e h (by omega) hf, px_ci]
    by_cases ho : ow σ d f
    · rw [bP_t ho, if_neg (by decide), px_2, fx_Plan_isImmutable_e hn.1 (B_C h) (by omega), px_ci]
      have p2 : ∀ hni : ¬ (im σ (d + 2) ∧ ¬ (fiF σ f ∧ im σ (N_ (σ 6 f)))), fx_Rules_changesImmutable_b108 (fx_Rules_changesImmutable_b56 F) σ (nI f) (bP (fiF σ f ∧ im σ (N_ (σ 6 f)))) (bP (pw σ (N_ (σ 6 f)))) (nI d) (nI (d + 2)) = some (bP (∃ c, d ≤ c ∧ c < nC ∧ ru2c σ f c), σ) := by
        intro hni
        unfold fx_Rules_changesImmutable_b108
        rw [fx_Plan_isPowerless_e hn.1 (by omega), px_ci]
        by_cases hp : pw σ (d + 2)
        · rw [bP_t hp, if_neg (by decide)]
          by_cases hq : pw σ (N_ (σ 6 f))
          · have := nx (fun z => z.2.elim hni (fun w => w.2 hq))
            rw [bP_t hq] at this ⊢
            rw [if_neg (by decide)]
            exact this
          · rw [bP_f hq, if_pos rfl, hit ⟨ho, Or.inr ⟨hp, hq⟩⟩]
        · rw [bP_f hp, if_pos rfl]
          exact nx (fun z => z.2.elim hni (fun w => hp w.1))
      by_cases hi : im σ (d + 2)
      · rw [bP_t hi, if_neg (by decide)]
        by_cases hk : fiF σ f ∧ im σ (N_ (σ 6 f))
        · have := p2 (fun z => z.2 hk)
          rw [bP_t hk] at this ⊢
          rw [if_neg (by decide)]
          exact this
        · rw [bP_f hk, if_pos rfl, hit ⟨ho, Or.inl ⟨hi, hk⟩⟩]
      · rw [bP_f hi, if_pos rfl]
        exact p2 (fun z => hi z.1)
    · rw [bP_f ho, if_pos rfl]
      exact nx (fun z => ho z.1)
theorem fx_Rules_changesImmutable_e (h : iv_B σ nC nF nM) {f : Nat} (hf : f < nF) : fx_Rules_changesImmutable σ (nI f) = some (bP (ru2 σ nC f), σ) := by
  have hn := B_n h
  have hb : ∀ x : Int32, x = bP (fiF σ f ∧ im σ (N_ (σ 6 f))) → fx_Rules_changesImmutable_b35 σ (nI f) x = some (bP (ru2 σ nC f), σ) := by
    intro x hx
    unfold fx_Rules_changesImmutable_b35
    rw [px_rd rfl (by omega) (by decide), (B_f6 h hf).2, fx_Plan_isPowerless_e hn.1 (B_f6 h hf).1, px_ci, hx, show (0 : Int32) = nI 0 by decide, fx_Rules_changesImmutable_l h hf nC 0 tx_fu (by omega) (by unfold tx_fu; omega), bP_c ex_0]
    rfl
  unfold fx_Rules_changesImmutable fx_Rules_changesImmutable_b34
  rw [fx_Plan_isFinalField_e (by omega), px_ci]
  by_cases hi : fiF σ f
  · rw [bP_t hi, if_neg (by decide), px_rd rfl (by omega) (by decide), (B_f6 h hf).2, fx_Plan_isImmutable_e hn.1 (B_C h) (B_f6 h hf).1, px_ci]
    by_cases hk : im σ (N_ (σ 6 f))
    · rw [bP_t hk, if_neg (by decide), hb 1 (bP_t ⟨hi, hk⟩).symm]
    · rw [bP_f hk, if_pos rfl, hb 0 (bP_f (fun z => hk z.2)).symm]
  · rw [bP_f hi, if_pos rfl, hb 0 (bP_f (fun z => hi z.1)).symm]
theorem fx_Mo_looseField_l (h : iv_B σ nC nF nM) {f : Nat} (hf : f < nF) : ∀ (j d F : Nat), d + j = nC → j < F →
    fx_Mo_looseField_b4 F σ (nI f) (bP (∃ c, c < d ∧ ru2c σ f c)) (nI d) = some (bP (∃ c, c < nC ∧ ru2c σ f c), σ) := by
  have hn := B_n h
  intro j
  induction j with
  | zero =>
    intro d F hd hF
    obtain ⟨F, rfl⟩ : ∃ G, F = G + 1 := ⟨F - 1, by omega⟩
    have : d = nC := by omega
    subst this
    rw [fx_Mo_looseField_b4, B_s0 h, if_pos (nI_le (Nat.le_refl _) (by omega)), px_rz bP_r]
  | succ j ih =>
    intro d F hd hF
    obtain ⟨F, rfl⟩ : ∃ G, F = G + 1 := ⟨F - 1, by omega⟩
    have nx : ∀ (x : Int32) (q : Prop), x = bP q → (q ↔ ∃ c, c < d + 1 ∧ ru2c σ f c) → fx_Mo_looseField_b95 (fx_Mo_looseField_b4 F) σ (nI f) x (nI d) = some (bP (∃ c, c < nC ∧ ru2c σ f c), σ) := by
      intro x q hx hq
      unfold fx_Mo_looseField_b95
      rw [nI_1, hx, bP_c hq]
      exact ih (d + 1) F (by omega) (by omega)
    have hu := ex_up (P := ru2c σ f) (d := d)
    rw [fx_Mo_looseField_b4, B_s0 h, if_neg (nI_ge (by omega) (by omega)), fx_Mo_owns_e h (by omega) hf, px_ci]
    by_cases ho : ow σ d f
    · rw [bP_t ho, if_neg (by decide)]
      -- the second half
      have p2 : ∀ (x : Int32) (q : Prop), x = bP q → (q ↔ (∃ c, c < d ∧ ru2c σ f c) ∨ (im σ (d + 2) ∧ ¬ (fiF σ f ∧ im σ (N_ (σ 6 f))))) → fx_Mo_looseField_b61 (fx_Mo_looseField_b4 F) σ (nI f) (nI d) x = some (bP (∃ c, c < nC ∧ ru2c σ f c), σ) := by
        intro x q hx hq
        unfold fx_Mo_looseField_b61 fx_Mo_looseField_b93 fx_Mo_looseField_b89 fx_Mo_looseField_b94
        rw [hx]
        by_cases hqq : q
        · rw [bP_t hqq, if_neg (by decide)]
          refine nx 1 True (bP_t trivial).symm ⟨fun _ => ?_, fun _ => trivial⟩
          rw [hu]
          rcases hq.mp hqq with z | z
          · exact Or.inl z
          · exact Or.inr ⟨ho, Or.inl z⟩
        · have hno : ¬ ∃ c, c < d ∧ ru2c σ f c := fun z => hqq (hq.mpr (Or.inl z))
          have hni : ¬ (im σ (d + 2) ∧ ¬ (fiF σ f ∧ im σ (N_ (σ 6 f)))) := fun z => hqq (hq.mpr (Or.inr z))
          rw [bP_f hqq, if_pos rfl, px_2, fx_Mo_powerless_e hn.1 (B_s0 h) (B_C h) (by omega), px_ci]
          by_cases hp : pw σ (d + 2)
          · rw [bP_t hp, if_neg (by decide), px_rd rfl (by omega) (by decide), h.1.2.2.2.1, (B_f6 h hf).2, fx_Mo_powerless_e hn.1 (B_s0 h) (B_C h) (B_f6 h hf).1, px_ci]
            by_cases hr : pw σ (N_ (σ 6 f))
            · rw [bP_t hr, if_neg (by decide)]
              refine nx 0 False (bP_f not_false).symm ⟨fun z => z.elim, fun z => ?_⟩
              rcases hu.mp z with w | w
              · exact hno w
              · exact w.2.elim hni (fun v => v.2 hr)
            · rw [bP_f hr, if_pos rfl]
              refine nx 1 True (bP_t trivial).symm ⟨fun _ => hu.mpr (Or.inr ⟨ho, Or.inr ⟨hp, hr⟩⟩), fun _ => trivial⟩
          · rw [bP_f hp, if_pos rfl]
            refine nx 0 False (bP_f not_false).symm ⟨fun z => z.elim, fun z => ?_⟩
            rcases hu.mp z with w | w
            · exact hno w
            · exact w.2.elim hni (fun v => hp v.1)
      unfold fx_Mo_looseField_b60 fx_Mo_looseField_b56
      by_cases hE : ∃ c, c < d ∧ ru2c σ f c
      · rw [bP_t hE, if_neg (by decide)]
        exact p2 1 True (bP_t trivial).symm ⟨fun _ => Or.inl hE, fun _ => trivial⟩
      · rw [bP_f hE, if_pos rfl, px_2, fx_Mo_immutable_e hn.1 (B_s0 h) (B_C h) (by omega), px_ci]
        by_cases hi : im σ (d + 2)
        · rw [bP_t hi, if_neg (by decide), fx_Mo_isFinal_e h (by omega), px_ci]
          by_cases hfi : fiF σ f
          · rw [bP_t hfi, if_neg (by decide), px_rd rfl (by omega) (by decide), h.1.2.2.2.1, (B_f6 h hf).2, fx_Mo_immutable_e hn.1 (B_s0 h) (B_C h) (B_f6 h hf).1, px_ci]
            by_cases hk : im σ (N_ (σ 6 f))
            · rw [bP_t hk, if_neg (by decide)]
              exact p2 0 False (bP_f not_false).symm ⟨fun z => z.elim, fun z => z.elim hE (fun w => w.2 ⟨hfi, hk⟩)⟩
            · rw [bP_f hk, if_pos rfl]
              exact p2 1 True (bP_t trivial).symm ⟨fun _ => Or.inr ⟨hi, fun w => hk w.2⟩, fun _ => trivial⟩
          · rw [bP_f hfi, if_pos rfl]
            exact p2 1 True (bP_t trivial).symm ⟨fun _ => Or.inr ⟨hi, fun w => hfi w.1⟩, fun _ => trivial⟩
        · rw [bP_f hi, if_pos rfl]
          exact p2 0 False (bP_f not_false).symm ⟨fun z => z.elim, fun z => z.elim hE (fun w => hi w.1)⟩
    · rw [bP_f ho, if_pos rfl]
      refine nx _ _ rfl ?_
      rw [hu]
      exact ⟨fun z => Or.inl z, fun z => z.resolve_right (fun w => ho w.1)⟩
theorem fx_Mo_looseField_e (h : iv_B σ nC nF nM) {f : Nat} (hf : f < nF) : fx_Mo_looseField σ (nI f) = some (bP (ru2 σ nC f), σ) := by
  have hl := fx_Mo_looseField_l h hf nC 0 tx_fu (by omega) (by unfold tx_fu; have := B_n h; omega)
  rw [bP_f (p := ∃ c, c < 0 ∧ ru2c σ f c) (by rintro ⟨e, h, -⟩; omega), nI_0] at hl
  exact hl
end B
