theorem nI_z {t : Nat} (h : t < 2 ^ 31) : nI t = 0 ↔ t = 0 := nI_eq (b := 0) h (by decide)
theorem px_orand (a b k : Int32) : (a ||| b) &&& k = 0 ↔ a &&& k = 0 ∧ b &&& k = 0 := by
  constructor
  · intro h
    have hb : ∀ i, ((bt a i || bt b i) && bt k i) = false := fun i => by
      have : bt ((a ||| b) &&& k) i = bt 0 i := by rw [h]
      rw [b_and, b_or, b_0] at this
      exact this
    constructor
    · apply b_ext
      intro i _
      rw [b_and, b_0]
      have := hb i
      revert this
      cases bt a i <;> cases bt b i <;> cases bt k i <;> simp
    · apply b_ext
      intro i _
      rw [b_and, b_0]
      have := hb i
      revert this
      cases bt a i <;> cases bt b i <;> cases bt k i <;> simp
  · rintro ⟨h1, h2⟩
    apply b_ext
    intro i _
    have e1 : (bt a i && bt k i) = false := by rw [← b_and, h1, b_0]
    have e2 : (bt b i && bt k i) = false := by rw [← b_and, h2, b_0]
    rw [b_and, b_or, b_0]
    revert e1 e2
    cases bt a i <;> cases bt b i <;> cases bt k i <;> simp
theorem px_or0 (b : Int32) : (0 : Int32) ||| b = b := by
  apply b_ext
  intro i _
  rw [b_or, b_0, Bool.false_or]
theorem px_or3 : ∀ a, a ≤ 3 → ∀ b, b ≤ 3 → ∃ k, k ≤ 3 ∧ nI a ||| nI b = nI k := by
  intro a ha b hb
  have : ∀ a, a < 4 → ∀ b, b < 4 → nI a ||| nI b = nI (a ||| b) ∧ a ||| b < 4 := by decide +kernel
  obtain ⟨h1, h2⟩ := this a (by omega) b (by omega)
  exact ⟨a ||| b, by omega, h1⟩
/-- a line's marks are small, and are those of its classes -/
theorem mk_3 {σ : tx_St} {nC : Nat} (hC : ∀ c, c < nC → iv_cl σ c) : ∀ c, c < nC → ∃ k, k ≤ 3 ∧ σ 3 c = nI k := by
  intro c
  induction c using Nat.strongRecOn with
  | ind c ih =>
    intro hc
    obtain ⟨⟨k, hk, ek⟩, h⟩ := hC c hc
    rcases h with ⟨-, -, e⟩ | ⟨p, hp, -, -, e⟩
    · exact ⟨k, hk, by rw [e, px_or0, ek]⟩
    · obtain ⟨j, hj, ej⟩ := ih p hp (by omega)
      obtain ⟨q, hq, eq⟩ := px_or3 j hj k hk
      exact ⟨q, hq, by rw [e, ej, ek, eq]⟩
theorem mk_ex {σ : tx_St} {nC : Nat} (hn : nC ≤ 8) (hC : ∀ c, c < nC → iv_cl σ c) (k : Int32) : ∀ c, c < nC → (¬ σ 3 c &&& k = 0 ↔ ∃ d, d < nC ∧ ln σ c d ∧ ¬ σ 47 d &&& k = 0) := by
  intro c
  induction c using Nat.strongRecOn with
  | ind c ih =>
    intro hc
    have hr : ∀ d, d < 32 → (ln σ c d ↔ d = c ∨ ∃ p, p < c ∧ σ 46 c = nI p ∧ ln σ p d) := fun d hd => ln_rec (by omega) (hC c hc) hd
    rcases (hC c hc).2 with ⟨e1, -, e⟩ | ⟨p, hp, e1, -, e⟩
    · rw [e, px_or0]
      constructor
      · intro h
        exact ⟨c, hc, (hr c (by omega)).mpr (Or.inl rfl), h⟩
      · rintro ⟨d, hd, h1, h2⟩
        rcases (hr d (by omega)).mp h1 with w | ⟨q, hq, w, -⟩
        · exact w ▸ h2
        · rw [e1] at w
          exact absurd (w ▸ (by decide : (-1 : Int32) < 0)) (nI_pos (by omega))
    · rw [e, px_orand]
      constructor
      · intro h
        by_cases h1 : σ 3 p &&& k = 0
        · exact ⟨c, hc, (hr c (by omega)).mpr (Or.inl rfl), fun h2 => h ⟨h1, h2⟩⟩
        · obtain ⟨d, hd, g1, g2⟩ := (ih p hp (by omega)).mp h1
          exact ⟨d, hd, (hr d (by omega)).mpr (Or.inr ⟨p, hp, e1, g1⟩), g2⟩
      · rintro ⟨d, hd, h1, h2⟩ ⟨g1, g2⟩
        rcases (hr d (by omega)).mp h1 with w | ⟨q, hq, w, w2⟩
        · exact h2 (w ▸ g2)
        · rw [e1] at w
          have : p = q := (nI_eq (by omega) (by omega)).mp w
          exact (ih p hp (by omega)).mpr ⟨d, hd, this ▸ w2, h2⟩ g1
/-- a type that is marked along its line -/
def mk (σ : tx_St) (k : Int32) (t : Nat) : Prop := t = 0 ∨ (2 ≤ t ∧ ¬ σ 3 (t - 2) &&& k = 0)
def im (σ : tx_St) (t : Nat) : Prop := mk σ 3 t
def pw (σ : tx_St) (t : Nat) : Prop := mk σ 2 t
theorem px_and3 : ∀ k, k ≤ 3 → (nI k = 0 ↔ nI k &&& 3 = 0) := by
  intro k hk
  have : ∀ k, k < 4 → (nI k = 0 ↔ nI k &&& 3 = 0) := by decide +kernel
  exact this k (by omega)
theorem fx_Plan_isImmutable_e {σ : tx_St} {nC : Nat} (hn : nC ≤ 8) (hC : ∀ c, c < nC → iv_cl σ c) {t : Nat} (ht : t < nC + 2) : fx_Plan_isImmutable σ (nI t) = some (bP (im σ t), σ) := by
  unfold fx_Plan_isImmutable fx_Plan_isImmutable_b31 fx_Plan_isImmutable_b14
  by_cases h2 : 2 ≤ t
  · obtain ⟨k, hk, ek⟩ := mk_3 hC (t - 2) (by omega)
    rw [if_pos (by rw [show (2 : Int32) = nI 2 by decide]; exact nI_le h2 (by omega)), px_rd (j := t - 2) (by rw [show (2 : Int32) = nI 2 by decide, pk_sub h2]) (by omega) (by decide)]
    by_cases h3 : σ 3 (t - 2) = 0
    · rw [if_pos h3, px_rz (Or.inl rfl), bP_f]
      rintro (z | ⟨-, z⟩)
      · omega
      · rw [ek] at h3 z
        exact z ((px_and3 k hk).mp h3)
    · have hi : im σ t := Or.inr ⟨h2, fun z => by
        rw [ek] at h3 z
        exact h3 ((px_and3 k hk).mpr z)⟩
      rw [if_neg h3, px_rz (Or.inr rfl), bP_t hi]
  · rw [if_neg (by rw [show (2 : Int32) = nI 2 by decide]; exact nI_ge (by omega) (by omega))]
    by_cases h0 : t = 0
    · subst h0
      rw [if_pos nI_0, px_rz (Or.inr rfl), bP_t (show im σ 0 from Or.inl rfl)]
    · rw [if_neg (fun z => h0 ((nI_z (by omega)).mp z)), px_rz (Or.inl rfl), bP_f]
      rintro (z | ⟨z, -⟩)
      · exact h0 z
      · exact h2 z
theorem fx_Plan_isPowerless_e {σ : tx_St} {nC : Nat} (hn : nC ≤ 8) {t : Nat} (ht : t < nC + 2) : fx_Plan_isPowerless σ (nI t) = some (bP (pw σ t), σ) := by
  unfold fx_Plan_isPowerless fx_Plan_isPowerless_b33 fx_Plan_isPowerless_b14
  by_cases h2 : 2 ≤ t
  · rw [if_pos (by rw [show (2 : Int32) = nI 2 by decide]; exact nI_le h2 (by omega)), px_rd (j := t - 2) (by rw [show (2 : Int32) = nI 2 by decide, pk_sub h2]) (by omega) (by decide)]
    by_cases h3 : σ 3 (t - 2) &&& 2 = 0
    · rw [if_pos h3, px_rz (Or.inl rfl), bP_f]
      rintro (z | ⟨-, z⟩)
      · omega
      · exact z h3
    · rw [if_neg h3, px_rz (Or.inr rfl), bP_t (show pw σ t from Or.inr ⟨h2, h3⟩)]
  · rw [if_neg (by rw [show (2 : Int32) = nI 2 by decide]; exact nI_ge (by omega) (by omega))]
    by_cases h0 : t = 0
    · subst h0
      rw [if_pos nI_0, px_rz (Or.inr rfl), bP_t (show pw σ 0 from Or.inl rfl)]
    · rw [if_neg (fun z => h0 ((nI_z (by omega)).mp z)), px_rz (Or.inl rfl), bP_f]
      rintro (z | ⟨z, -⟩)
      · exact h0 z
      · exact h2 z
theorem fx_Mo_marked_l {σ : tx_St} {nC : Nat} (hn : nC ≤ 8) (s0 : σ 45 0 = nI nC) (hC : ∀ c, c < nC → iv_cl σ c) {t : Nat} (h2 : 2 ≤ t) (ht : t < nC + 2) (k : Int32) : ∀ (j d F : Nat), d + j = nC → j < F →
    fx_Mo_marked_b13 F σ (nI t) k (bP (∃ e, e < d ∧ ln σ (t - 2) e ∧ ¬ σ 47 e &&& k = 0)) (nI d) = some (bP (∃ e, e < nC ∧ ln σ (t - 2) e ∧ ¬ σ 47 e &&& k = 0), σ) := by
  intro j
  induction j with
  | zero =>
    intro d F hd hF
    obtain ⟨F, rfl⟩ : ∃ G, F = G + 1 := ⟨F - 1, by omega⟩
    have : d = nC := by omega
    subst this
    rw [fx_Mo_marked_b13, s0, if_pos (nI_le (Nat.le_refl _) (by omega))]
    unfold fx_Mo_marked_b67
    rw [px_rz bP_r]
  | succ j ih =>
    intro d F hd hF
    obtain ⟨F, rfl⟩ : ∃ G, F = G + 1 := ⟨F - 1, by omega⟩
    have n2 : ¬ nI t < 2 := by
      rw [show (2 : Int32) = nI 2 by decide]
      exact nI_nlt h2 (by omega)
    have nx : ∀ (x : Int32) (q : Prop), x = bP q → (q ↔ ∃ e, e < d + 1 ∧ ln σ (t - 2) e ∧ ¬ σ 47 e &&& k = 0) → fx_Mo_marked_b60 (fx_Mo_marked_b13 F) σ (nI t) k (nI d) x = some (bP (∃ e, e < nC ∧ ln σ (t - 2) e ∧ ¬ σ 47 e &&& k = 0), σ) := by
      intro x q hx hq
      unfold fx_Mo_marked_b60
      rw [nI_1, hx, bP_c hq]
      exact ih (d + 1) F (by omega) (by omega)
    rw [fx_Mo_marked_b13, s0, if_neg (nI_ge (by omega) (by omega)), if_neg n2]
    unfold fx_Mo_marked_b59 fx_Mo_marked_b55
    by_cases hE : ∃ e, e < d ∧ ln σ (t - 2) e ∧ ¬ σ 47 e &&& k = 0
    · rw [bP_t hE, if_neg (by decide)]
      refine nx 1 True (bP_t trivial).symm ⟨fun _ => ?_, fun _ => trivial⟩
      obtain ⟨e, h1, h3⟩ := hE
      exact ⟨e, by omega, h3⟩
    · rw [bP_f hE, if_pos rfl, show (2 : Int32) = nI 2 by decide, pk_sub h2, fx_Mo_inLine_e hn hC (by omega) (by omega), px_ci]
      by_cases h3 : ln σ (t - 2) d
      · rw [bP_t h3, if_neg (by decide), px_rd rfl (by omega) (by decide)]
        by_cases h4 : σ 47 d &&& k = 0
        · rw [if_pos h4]
          refine nx 0 False (bP_f not_false).symm ⟨fun z => z.elim, ?_⟩
          rintro ⟨e, h5, h6, h7⟩
          by_cases h8 : e = d
          · subst h8
            exact h7 h4
          · exact hE ⟨e, by omega, h6, h7⟩
        · rw [if_neg h4]
          exact nx 1 True (bP_t trivial).symm ⟨fun _ => ⟨d, by omega, h3, h4⟩, fun _ => trivial⟩
      · rw [bP_f h3, if_pos rfl]
        refine nx 0 False (bP_f not_false).symm ⟨fun z => z.elim, ?_⟩
        rintro ⟨e, h5, h6, h7⟩
        by_cases h8 : e = d
        · subst h8
          exact h3 h6
        · exact hE ⟨e, by omega, h6, h7⟩
theorem fx_Mo_marked_e {σ : tx_St} {nC : Nat} (hn : nC ≤ 8) (s0 : σ 45 0 = nI nC) (hC : ∀ c, c < nC → iv_cl σ c) {t : Nat} (ht : t < nC + 2) (k : Int32) : fx_Mo_marked σ (nI t) k = some (bP (mk σ k t), σ) := by
  unfold fx_Mo_marked fx_Mo_marked_b9
  by_cases h2 : 2 ≤ t
  · have h0 : ¬ nI t = 0 := fun z => by
      have := (nI_eq (a := t) (b := 0) (by omega) (by omega)).mp z
      omega
    have hm : mk σ k t ↔ ∃ e, e < nC ∧ ln σ (t - 2) e ∧ ¬ σ 47 e &&& k = 0 := by
      rw [← mk_ex hn hC k (t - 2) (by omega)]
      unfold mk
      constructor
      · rintro (z | ⟨-, z⟩)
        · omega
        · exact z
      · intro z
        exact Or.inr ⟨h2, z⟩
    have h := fx_Mo_marked_l hn s0 hC h2 ht k nC 0 tx_fu (by omega) (by unfold tx_fu; omega)
    rw [bP_f (p := ∃ e, e < 0 ∧ ln σ (t - 2) e ∧ ¬ σ 47 e &&& k = 0) (by rintro ⟨e, h, -⟩; omega), nI_0] at h
    rw [if_neg h0, bP_c hm]
    exact h
  · have go : ∀ x : Int32, (x = 0 ∨ x = 1) → fx_Mo_marked_b13 tx_fu σ (nI t) k x 0 = some (x, σ) := by
      intro x hx
      rw [show tx_fu = 399 + 1 from rfl, fx_Mo_marked_b13]
      unfold fx_Mo_marked_b67
      have n2 : nI t < 2 := by
        rw [show (2 : Int32) = nI 2 by decide]
        exact nI_lt (by omega) (by omega)
      rw [if_pos n2, px_rz hx, ite_self]
    by_cases h0 : t = 0
    · subst h0
      rw [if_pos nI_0, go 1 (Or.inr rfl), bP_t (show mk σ k 0 from Or.inl rfl)]
    · rw [if_neg (fun z => h0 ((nI_z (by omega)).mp z)), go 0 (Or.inl rfl), bP_f]
      rintro (z | ⟨z, -⟩)
      · exact h0 z
      · exact h2 z
theorem fx_Mo_immutable_e {σ : tx_St} {nC : Nat} (hn : nC ≤ 8) (s0 : σ 45 0 = nI nC) (hC : ∀ c, c < nC → iv_cl σ c) {t : Nat} (ht : t < nC + 2) : fx_Mo_immutable σ (nI t) = some (bP (im σ t), σ) := by
  unfold fx_Mo_immutable
  rw [fx_Mo_marked_e hn s0 hC ht, px_ci, px_rz bP_r]
  rfl
theorem fx_Mo_powerless_e {σ : tx_St} {nC : Nat} (hn : nC ≤ 8) (s0 : σ 45 0 = nI nC) (hC : ∀ c, c < nC → iv_cl σ c) {t : Nat} (ht : t < nC + 2) : fx_Mo_powerless σ (nI t) = some (bP (pw σ t), σ) := by
  unfold fx_Mo_powerless
  rw [fx_Mo_marked_e hn s0 hC ht, px_ci, px_rz bP_r]
  rfl
