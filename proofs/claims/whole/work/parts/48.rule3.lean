section B3
variable {σ : tx_St} {nC nF nM : Nat}
/-- methods m and n agree -/
def agr (σ : tx_St) (n m : Nat) : Prop := ¬ stM σ n ∧ ¬ stM σ m ∧ σ 10 n = σ 10 m ∧ σ 11 n = σ 11 m
def ovr (σ : tx_St) (n m : Nat) : Prop := ¬ σ 7 m = σ 7 n ∧ ln σ (N_ (σ 7 n)) (N_ (σ 7 m)) ∧ σ 9 m = σ 9 n
/-- rule 3 is broken at n -/
def ru3 (σ : tx_St) (nM n : Nat) : Prop := ∃ m, m < nM ∧ ovr σ n m ∧ ¬ agr σ n m
theorem fx_Rules_agree_e (h : iv_B σ nC nF nM) {n m : Nat} (hn : n < nM) (hm : m < nM) : fx_Rules_agree σ (nI n) (nI m) = some (bP (agr σ n m), σ) := by
  have hb := B_n h
  unfold fx_Rules_agree fx_Rules_agree_b22 fx_Rules_agree_b70 fx_Rules_agree_b71
  rw [fx_Plan_isStaticMethod_e (by omega), px_ci]
  by_cases h1 : stM σ n
  · rw [bP_t h1, if_neg (by decide), bP_f (fun z => z.1 h1)]
  · rw [bP_f h1, if_pos rfl, fx_Plan_isStaticMethod_e (by omega), px_ci]
    by_cases h2 : stM σ m
    · rw [bP_t h2, if_neg (by decide), bP_f (fun z => z.2.1 h2)]
    · rw [bP_f h2, if_pos rfl, px_rd rfl (by omega) (by decide), px_rd rfl (by omega) (by decide), px_rd rfl (by omega) (by decide), px_rd rfl (by omega) (by decide)]
      by_cases h3 : σ 10 n = σ 10 m
      · rw [if_pos h3]
        by_cases h4 : σ 11 n = σ 11 m
        · rw [if_pos h4, px_rz (Or.inr rfl), bP_t (show agr σ n m from ⟨h1, h2, h3, h4⟩)]
        · rw [if_neg h4, px_rz (Or.inl rfl), bP_f (fun z => h4 z.2.2.2)]
      · rw [if_neg h3, px_rz (Or.inl rfl), bP_f (fun z => h3 z.2.2.1)]
theorem fx_Rules_overridesBadly_l (h : iv_B σ nC nF nM) {n : Nat} (hn : n < nM) : ∀ (j d F : Nat), d + j = nM → j < F →
    fx_Rules_overridesBadly_b12 F σ (nI n) (σ 7 n) (nI d) = some (bP (∃ m, d ≤ m ∧ m < nM ∧ (ovr σ n m ∧ ¬ agr σ n m)), σ) := by
  have hb := B_n h
  intro j
  induction j with
  | zero =>
    intro d F hd hF
    obtain ⟨F, rfl⟩ : ∃ G, F = G + 1 := ⟨F - 1, by omega⟩
    rw [fx_Rules_overridesBadly_b12, h.2.2.1.2.2, if_pos (nI_le (by omega) (by omega)), bP_f]
    rintro ⟨c, h1, h2, -⟩
    omega
  | succ j ih =>
    intro d F hd hF
    obtain ⟨F, rfl⟩ : ∃ G, F = G + 1 := ⟨F - 1, by omega⟩
    have nx : ¬ (ovr σ n d ∧ ¬ agr σ n d) → fx_Rules_overridesBadly_b97 (fx_Rules_overridesBadly_b12 F) σ (nI n) (σ 7 n) (nI d) = some (bP (∃ m, d ≤ m ∧ m < nM ∧ (ovr σ n m ∧ ¬ agr σ n m)), σ) := by
      intro hnd
      unfold fx_Rules_overridesBadly_b97
      rw [nI_1, ih (d + 1) F (by omega) (by omega), bP_c]
      rw [ex_step (d := d) (by omega)]
      exact ⟨fun z => Or.inr z, fun z => z.resolve_left hnd⟩
    have no : ¬ ovr σ n d → fx_Rules_overridesBadly_b79 (fx_Rules_overridesBadly_b12 F) σ (nI n) (σ 7 n) (nI d) 0 = some (bP (∃ m, d ≤ m ∧ m < nM ∧ (ovr σ n m ∧ ¬ agr σ n m)), σ) := by
      intro ho
      unfold fx_Rules_overridesBadly_b79
      rw [if_pos rfl]
      exact nx (fun z => ho z.1)
    rw [fx_Rules_overridesBadly_b12, h.2.2.1.2.2, if_neg (nI_ge (by omega) (by omega)), px_rd rfl (by omega) (by decide)]
    unfold fx_Rules_overridesBadly_b78
    by_cases h1 : σ 7 d = σ 7 n
    · rw [if_pos h1]
      exact no (fun z => z.1 h1)
    · have e1 : fx_Plan_isUnder σ (σ 7 n) (σ 7 d) = some (bP (ln σ (N_ (σ 7 n)) (N_ (σ 7 d))), σ) := by
        have a1 := B_m7 h hn
        have a2 := B_m7 h (m := d) (by omega)
        have := fx_Plan_isUnder_e (σ := σ) (c := N_ (σ 7 n)) (d := N_ (σ 7 d)) (by omega) (by omega)
        rw [← a1.2, ← a2.2] at this
        exact this
      rw [if_neg h1, e1, px_ci]
      by_cases h2 : ln σ (N_ (σ 7 n)) (N_ (σ 7 d))
      · rw [bP_t h2, if_neg (by decide), px_rd rfl (by omega) (by decide), px_rd rfl (by omega) (by decide)]
        by_cases h3 : σ 9 d = σ 9 n
        · rw [if_pos h3]
          unfold fx_Rules_overridesBadly_b79
          rw [if_neg (by decide), fx_Rules_agree_e h hn (by omega), px_ci]
          by_cases h4 : agr σ n d
          · rw [bP_t h4, if_neg (by decide)]
            exact nx (fun z => z.2 h4)
          · rw [bP_f h4, if_pos rfl, bP_t ⟨d, Nat.le_refl d, by omega, ⟨h1, h2, h3⟩, h4⟩]
        · rw [if_neg h3]
          exact no (fun z => h3 z.2.2)
      · rw [bP_f h2, if_pos rfl]
        exact no (fun z => h2 z.2.1)
theorem fx_Rules_overridesBadly_e (h : iv_B σ nC nF nM) {n : Nat} (hn : n < nM) : fx_Rules_overridesBadly σ (nI n) = some (bP (ru3 σ nM n), σ) := by
  have hb := B_n h
  unfold fx_Rules_overridesBadly
  rw [px_rd rfl (by omega) (by decide), show (0 : Int32) = nI 0 by decide, fx_Rules_overridesBadly_l h hn nM 0 tx_fu (by omega) (by unfold tx_fu; omega), bP_c ex_0]
  rfl
theorem fx_Mo_unlike_l (h : iv_B σ nC nF nM) {n : Nat} (hn : n < nM) : ∀ (j d F : Nat), d + j = nM → j < F →
    fx_Mo_unlike_b4 F σ (nI n) (bP (∃ m, m < d ∧ (ovr σ n m ∧ ¬ agr σ n m))) (nI d) = some (bP (∃ m, m < nM ∧ (ovr σ n m ∧ ¬ agr σ n m)), σ) := by
  have hb := B_n h
  obtain ⟨⟨s0, s1, s2⟩, r1, r2, r3, r4, r5, r6, r7, r8, r9, r10, r11⟩ := h.1
  intro j
  induction j with
  | zero =>
    intro d F hd hF
    obtain ⟨F, rfl⟩ : ∃ G, F = G + 1 := ⟨F - 1, by omega⟩
    have : d = nM := by omega
    subst this
    rw [fx_Mo_unlike_b4, s2, h.2.2.1.2.2, if_pos (nI_le (Nat.le_refl _) (by omega)), px_rz bP_r]
  | succ j ih =>
    intro d F hd hF
    obtain ⟨F, rfl⟩ : ∃ G, F = G + 1 := ⟨F - 1, by omega⟩
    have hu := ex_up (P := fun m => ovr σ n m ∧ ¬ agr σ n m) (d := d)
    have nx : ∀ (x : Int32) (q : Prop), x = bP q → (q ↔ ∃ m, m < d + 1 ∧ (ovr σ n m ∧ ¬ agr σ n m)) → fx_Mo_unlike_b142 (fx_Mo_unlike_b4 F) σ (nI n) (nI d) x = some (bP (∃ m, m < nM ∧ (ovr σ n m ∧ ¬ agr σ n m)), σ) := by
      intro x q hx hq
      unfold fx_Mo_unlike_b142
      rw [nI_1, hx, bP_c hq]
      exact ih (d + 1) F (by omega) (by omega)
    -- found || other && !same
    have p3 : ∀ (o s : Int32) (Q S : Prop), o = bP Q → s = bP S → (Q ↔ ovr σ n d) → (S ↔ agr σ n d) → fx_Mo_unlike_b121 (fx_Mo_unlike_b4 F) σ (nI n) (bP (∃ m, m < d ∧ (ovr σ n m ∧ ¬ agr σ n m))) (nI d) o s = some (bP (∃ m, m < nM ∧ (ovr σ n m ∧ ¬ agr σ n m)), σ) := by
      intro o s Q S ho hs hQ hS
      unfold fx_Mo_unlike_b121 fx_Mo_unlike_b137 fx_Mo_unlike_b141
      rw [ho, hs]
      by_cases hE : ∃ m, m < d ∧ (ovr σ n m ∧ ¬ agr σ n m)
      · rw [bP_t hE, if_neg (by decide)]
        exact nx 1 True (bP_t trivial).symm ⟨fun _ => hu.mpr (Or.inl hE), fun _ => trivial⟩
      · rw [bP_f hE, if_pos rfl]
        by_cases q1 : Q
        · rw [bP_t q1, if_neg (by decide)]
          by_cases q2 : S
          · rw [bP_t q2, if_neg (by decide)]
            exact nx 0 False (bP_f not_false).symm ⟨fun z => z.elim, fun z => (hu.mp z).elim hE (fun w => w.2 (hS.mp q2))⟩
          · rw [bP_f q2, if_pos rfl]
            exact nx 1 True (bP_t trivial).symm ⟨fun _ => hu.mpr (Or.inr ⟨hQ.mp q1, fun w => q2 (hS.mpr w)⟩), fun _ => trivial⟩
        · rw [bP_f q1, if_pos rfl]
          exact nx 0 False (bP_f not_false).symm ⟨fun z => z.elim, fun z => (hu.mp z).elim hE (fun w => q1 (hQ.mpr w.1))⟩
    have p2 : ∀ (o : Int32) (Q : Prop), o = bP Q → (Q ↔ ovr σ n d) → fx_Mo_unlike_b66 (fx_Mo_unlike_b4 F) σ (nI n) (bP (∃ m, m < d ∧ (ovr σ n m ∧ ¬ agr σ n m))) (nI d) o = some (bP (∃ m, m < nM ∧ (ovr σ n m ∧ ¬ agr σ n m)), σ) := by
      intro o Q ho hQ
      unfold fx_Mo_unlike_b66 fx_Mo_unlike_b120
      rw [px_rd (c := 52) (j := d) rfl (by omega) (by decide), px_rd (c := 52) (j := n) rfl (by omega) (by decide), px_rd (c := 54) (j := d) rfl (by omega) (by decide), px_rd (c := 54) (j := n) rfl (by omega) (by decide), px_rd (c := 55) (j := d) rfl (by omega) (by decide), px_rd (c := 55) (j := n) rfl (by omega) (by decide), r5, r7, r8]
      have no : ¬ agr σ n d → fx_Mo_unlike_b121 (fx_Mo_unlike_b4 F) σ (nI n) (bP (∃ m, m < d ∧ (ovr σ n m ∧ ¬ agr σ n m))) (nI d) o 0 = some (bP (∃ m, m < nM ∧ (ovr σ n m ∧ ¬ agr σ n m)), σ) := fun hna => p3 o 0 Q False ho (bP_f not_false).symm hQ ⟨fun z => z.elim, fun z => hna z⟩
      rcases B_m8 h (m := d) (by omega) with ⟨d1, d2⟩ | ⟨d1, d2⟩
      · rw [if_pos d2]
        rcases B_m8 h hn with ⟨n1, n2⟩ | ⟨n1, n2⟩
        · rw [if_pos n2]
          by_cases h3 : σ 10 d = σ 10 n
          · rw [if_pos h3]
            by_cases h4 : σ 11 d = σ 11 n
            · rw [if_pos h4]
              exact p3 o 1 Q True ho (bP_t trivial).symm hQ ⟨fun _ => ⟨n1, d1, h3.symm, h4.symm⟩, fun _ => trivial⟩
            · rw [if_neg h4]
              exact no (fun z => h4 z.2.2.2.symm)
          · rw [if_neg h3]
            exact no (fun z => h3 z.2.2.1.symm)
        · rw [if_neg (by rw [n2]; decide)]
          exact no (fun z => z.1 n1)
      · rw [if_neg (by rw [d2]; decide)]
        exact no (fun z => z.2.1 d1)
    rw [fx_Mo_unlike_b4, s2, h.2.2.1.2.2, if_neg (nI_ge (by omega) (by omega)), px_rd (c := 51) (j := d) rfl (by omega) (by decide), px_rd (c := 51) (j := n) rfl (by omega) (by decide), r4]
    unfold fx_Mo_unlike_b65
    have p0 : ¬ ovr σ n d → fx_Mo_unlike_b66 (fx_Mo_unlike_b4 F) σ (nI n) (bP (∃ m, m < d ∧ (ovr σ n m ∧ ¬ agr σ n m))) (nI d) 0 = some (bP (∃ m, m < nM ∧ (ovr σ n m ∧ ¬ agr σ n m)), σ) := fun hno => p2 0 False (bP_f not_false).symm ⟨fun z => z.elim, fun z => hno z⟩
    by_cases h1 : σ 7 d = σ 7 n
    · rw [if_pos h1]
      exact p0 (fun z => z.1 h1)
    · have e1 : fx_Mo_inLine σ (σ 7 n) (σ 7 d) = some (bP (ln σ (N_ (σ 7 n)) (N_ (σ 7 d))), σ) := by
        have a1 := B_m7 h hn
        have a2 := B_m7 h (m := d) (by omega)
        have := fx_Mo_inLine_e (σ := σ) (c := N_ (σ 7 n)) (d := N_ (σ 7 d)) hb.1 (B_C h) a1.1 (by omega)
        rw [← a1.2, ← a2.2] at this
        exact this
      rw [if_neg h1, px_rd (c := 51) (j := n) rfl (by omega) (by decide), px_rd (c := 51) (j := d) rfl (by omega) (by decide), r4, e1, px_ci]
      by_cases h2 : ln σ (N_ (σ 7 n)) (N_ (σ 7 d))
      · rw [bP_t h2, if_neg (by decide), px_rd (c := 53) (j := d) rfl (by omega) (by decide), px_rd (c := 53) (j := n) rfl (by omega) (by decide), r6]
        by_cases h3 : σ 9 d = σ 9 n
        · rw [if_pos h3]
          exact p2 1 True (bP_t trivial).symm ⟨fun _ => ⟨h1, h2, h3⟩, fun _ => trivial⟩
        · rw [if_neg h3]
          exact p0 (fun z => h3 z.2.2)
      · rw [bP_f h2, if_pos rfl]
        exact p0 (fun z => h2 z.2.1)
theorem fx_Mo_unlike_e (h : iv_B σ nC nF nM) {n : Nat} (hn : n < nM) : fx_Mo_unlike σ (nI n) = some (bP (ru3 σ nM n), σ) := by
  have hl := fx_Mo_unlike_l h hn nM 0 tx_fu (by omega) (by unfold tx_fu; have := B_n h; omega)
  rw [bP_f (p := ∃ c, c < 0 ∧ (ovr σ n c ∧ ¬ agr σ n c)) (by rintro ⟨e, h, -⟩; omega), nI_0] at hl
  exact hl
/-- a value of type s may stand where t is asked for -/
def fi (σ : tx_St) (s t : Nat) : Prop := s = t ∨ (2 ≤ s ∧ 2 ≤ t ∧ ln σ (s - 2) (t - 2))
theorem fx_Plan_fits_e {s t : Nat} (hs : s < 10) (ht : t < 10) : fx_Plan_fits σ (nI s) (nI t) = some (bP (fi σ s t), σ) := by
  unfold fx_Plan_fits fx_Plan_fits_b21 fx_Plan_fits_b22 fx_Plan_fits_b48 fx_Plan_fits_b49
  by_cases h1 : s = t
  · rw [if_pos (by rw [h1]), bP_t (show fi σ s t from Or.inl h1)]
  · rw [if_neg (fun z => h1 ((nI_eq (by omega) (by omega)).mp z))]
    by_cases h2 : 2 ≤ s
    · rw [if_neg (by rw [show (2 : Int32) = nI 2 by decide]; exact nI_nlt h2 (by omega))]
      by_cases h3 : 2 ≤ t
      · rw [if_neg (by rw [show (2 : Int32) = nI 2 by decide]; exact nI_nlt h3 (by omega)), if_neg (by decide), px_rd (j := s - 2) (by rw [show (2 : Int32) = nI 2 by decide, pk_sub h2]) (by omega) (by decide)]
        rw [show nI t - 2 = nI (t - 2) by rw [show (2 : Int32) = nI 2 by decide, pk_sub h3], px_ite0 (p := ln σ (s - 2) (t - 2)) (px_lnbit (σ 2 (s - 2)) (d := t - 2) (by omega))]
        by_cases h4 : ln σ (s - 2) (t - 2)
        · rw [bP_t h4, if_neg (by decide), px_rz (Or.inr rfl), bP_t (show fi σ s t from Or.inr ⟨h2, h3, h4⟩)]
        · rw [bP_f h4, if_pos rfl, px_rz (Or.inl rfl), bP_f]
          rintro (z | z)
          · exact h1 z
          · exact h4 z.2.2
      · rw [if_pos (by rw [show (2 : Int32) = nI 2 by decide]; exact nI_lt (by omega) (by omega)), if_pos rfl, px_rz (Or.inl rfl), bP_f]
        rintro (z | z)
        · exact h1 z
        · exact h3 z.2.1
    · rw [if_pos (by rw [show (2 : Int32) = nI 2 by decide]; exact nI_lt (by omega) (by omega)), if_pos rfl, px_rz (Or.inl rfl), bP_f]
      rintro (z | z)
      · exact h1 z
      · exact h2 z.1
theorem fx_Plan_fits_m {t : Nat} (ht : t < 10) : fx_Plan_fits σ (-1) (nI t) = some (0, σ) := by
  unfold fx_Plan_fits fx_Plan_fits_b21 fx_Plan_fits_b22 fx_Plan_fits_b48 fx_Plan_fits_b49
  have h1 : ¬ (-1 : Int32) = nI t := fun z => nI_pos (n := t) (by omega) (z ▸ (by decide : (-1 : Int32) < 0))
  rw [if_neg h1, if_pos (by decide), if_pos rfl, px_rz (Or.inl rfl)]
theorem fx_Mo_fits_e (h : iv_B σ nC nF nM) {s t : Nat} (hs : s < nC + 2) (ht : t < nC + 2) : fx_Mo_fits σ (nI s) (nI t) = some (bP (fi σ s t), σ) := by
  have hb := B_n h
  unfold fx_Mo_fits fx_Mo_fits_b28 fx_Mo_fits_b32 fx_Mo_fits_b33
  by_cases h1 : s = t
  · rw [if_pos (by rw [h1]), px_rz (Or.inr rfl), bP_t (show fi σ s t from Or.inl h1)]
  · rw [if_neg (fun z => h1 ((nI_eq (by omega) (by omega)).mp z))]
    by_cases h2 : 2 ≤ s
    · rw [if_neg (by rw [show (2 : Int32) = nI 2 by decide]; exact nI_nlt h2 (by omega))]
      by_cases h3 : 2 ≤ t
      · rw [if_neg (by rw [show (2 : Int32) = nI 2 by decide]; exact nI_nlt h3 (by omega)), show nI t - 2 = nI (t - 2) by rw [show (2 : Int32) = nI 2 by decide, pk_sub h3], show nI s - 2 = nI (s - 2) by rw [show (2 : Int32) = nI 2 by decide, pk_sub h2], fx_Mo_inLine_e hb.1 (B_C h) (by omega) (by omega), px_ci]
        by_cases h4 : ln σ (s - 2) (t - 2)
        · rw [bP_t h4, if_neg (by decide), px_rz (Or.inr rfl), bP_t (show fi σ s t from Or.inr ⟨h2, h3, h4⟩)]
        · rw [bP_f h4, if_pos rfl, px_rz (Or.inl rfl), bP_f]
          rintro (z | z)
          · exact h1 z
          · exact h4 z.2.2
      · rw [if_pos (by rw [show (2 : Int32) = nI 2 by decide]; exact nI_lt (by omega) (by omega)), px_rz (Or.inl rfl), bP_f]
        rintro (z | z)
        · exact h1 z
        · exact h3 z.2.1
    · rw [if_pos (by rw [show (2 : Int32) = nI 2 by decide]; exact nI_lt (by omega) (by omega)), px_rz (Or.inl rfl), bP_f]
      rintro (z | z)
      · exact h1 z
      · exact h2 z.1
/-- how many fields before f an object of class c has -/
noncomputable def cw (σ : tx_St) (c : Nat) : Nat → Nat
  | 0 => 0
  | f + 1 => @ite _ (ow σ c f) (Classical.propDecidable _) (cw σ c f + 1) (cw σ c f)
theorem cw_t {c f : Nat} (h : ow σ c f) : cw σ c (f + 1) = cw σ c f + 1 := by
  rw [cw]
  exact if_pos h
theorem cw_f {c f : Nat} (h : ¬ ow σ c f) : cw σ c (f + 1) = cw σ c f := by
  rw [cw]
  exact if_neg h
theorem cw_le {c : Nat} : ∀ f, cw σ c f ≤ f
  | 0 => Nat.le_refl 0
  | f + 1 => by
    have := cw_le (c := c) f
    by_cases h : ow σ c f
    · rw [cw_t h]; omega
    · rw [cw_f h]; omega
theorem fx_Plan_slotOf_l (h : iv_B σ nC nF nM) {c f : Nat} (hc : c < 8) (hf : f ≤ nF) : ∀ (j d F : Nat), d + j = f → j < F → fx_Plan_slotOf_b5 F σ (nI c) (nI f) (nI (cw σ c d)) (nI d) = some (nI (cw σ c f), σ) := by
  have hb := B_n h
  intro j
  induction j with
  | zero =>
    intro d F hd hF
    obtain ⟨F, rfl⟩ : ∃ G, F = G + 1 := ⟨F - 1, by omega⟩
    have : d = f := by omega
    subst this
    rw [fx_Plan_slotOf_b5, if_pos (nI_le (Nat.le_refl _) (by omega))]
  | succ j ih =>
    intro d F hd hF
    obtain ⟨F, rfl⟩ : ∃ G, F = G + 1 := ⟨F - 1, by omega⟩
    rw [fx_Plan_slotOf_b5, if_neg (nI_ge (by omega) (by omega)), fx_Plan_owns_e h hc (by omega), px_ci]
    unfold fx_Plan_slotOf_b24
    rw [nI_1, nI_1]
    by_cases ho : ow σ c d
    · rw [bP_t ho, if_neg (by decide), ← cw_t ho]
      exact ih (d + 1) F (by omega) (by omega)
    · rw [bP_f ho, if_pos rfl, ← cw_f ho]
      exact ih (d + 1) F (by omega) (by omega)
theorem fx_Plan_slotOf_e (h : iv_B σ nC nF nM) {c f : Nat} (hc : c < 8) (hf : f ≤ nF) : fx_Plan_slotOf σ (nI c) (nI f) = some (nI (cw σ c f), σ) := by
  have hb := B_n h
  exact fx_Plan_slotOf_l h hc hf f 0 tx_fu (by omega) (by unfold tx_fu; omega)
theorem fx_Plan_isField_e (x : Int32) : fx_Plan_isField σ x = some (b01 (¬ x < 0 ∧ ¬ σ 1 1 ≤ x), σ) := by
  unfold fx_Plan_isField fx_Plan_isField_b16 fx_Plan_isField_b17
  by_cases h1 : x < 0
  · rw [if_pos h1, px_rz (Or.inl rfl), b01_f (fun h => h.1 h1)]
  · rw [if_neg h1]
    by_cases h2 : σ 1 1 ≤ x
    · rw [if_pos h2, px_rz (Or.inl rfl), b01_f (fun h => h.2 h2)]
    · rw [if_neg h2, px_rz (Or.inr rfl), b01_t ⟨h1, h2⟩]
end B3
