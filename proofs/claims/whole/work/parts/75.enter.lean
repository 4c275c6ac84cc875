/-! a method begins, both sides -/
section EN
variable {s0 σ ρ : tx_St} {nC nF nM R0 off md nh mc un : Nat} {K : Nat → Nat} {τ : Nat → Nat → TS} {fr : Nat → Nat × Nat × TS}
theorem px_rf {β : Type} {j : Nat} (hj : j < 6) (f : Nat → Option β) : tx_rf (nI j) f = f (27 + 3 * j) := by
  unfold tx_rf
  rw [nI_clamp (by omega), if_neg]
  rintro (z | z)
  · exact nI_pos (by omega) z
  · omega
theorem ent_1 (m : Nat) : (ent s0 m).1 = [] := by
  unfold ent
  rcases Classical.em (stM s0 m) with h | h
  · rw [cif_t h]
  · rw [cif_f h]
theorem ent_lo2 (m : Nat) : lo_ (ent s0 m) 2 = 0 := by
  unfold ent lo_
  rcases Classical.em (stM s0 m) with h | h
  · rw [cif_t h]; rfl
  · rw [cif_f h]; rfl
theorem TF_ent {V : Nat → Int32 → Int32 → Prop} {σ' ρ' : tx_St} {k m : Nat} (c : σ' (27 + 3 * k) 0 = nI m ∧ σ' (27 + 3 * k) 1 = nI 0 ∧ σ' (27 + 3 * k) 4 = nI 0) (d : ρ' 64 k = nI m ∧ ρ' 65 k = nI 0 ∧ ρ' 66 k = nI 0) (l0 : lo_ (ent s0 m) 0 ≠ 0 → V (lo_ (ent s0 m) 0 - 1) (σ' (28 + 3 * k) 0) (ρ' 68 (3 * k))) (l1 : lo_ (ent s0 m) 1 ≠ 0 → V (lo_ (ent s0 m) 1 - 1) (σ' (28 + 3 * k) 1) (ρ' 68 (3 * k + 1))) : TF V σ' ρ' k m 0 (ent s0 m) := by
  unfold TF
  rw [ent_1]
  refine ⟨c, d, fun j hj => ?_, fun j hj hn => ?_⟩
  · simp at hj
  · rcases (by omega : j = 0 ∨ j = 1 ∨ j = 2) with rfl | rfl | rfl
    · exact l0 hn
    · exact l1 hn
    · exact absurd (ent_lo2 m) hn
/-- what entering changes -/
def nC_ (k : Nat) (σ σ' : tx_St) : Prop := (∀ p, p ≠ 25 → (p < 27 + 3 * k ∨ 29 + 3 * k < p) → σ' p = σ p) ∧ (∀ j, j ≠ 5 → σ' 25 j = σ 25 j) ∧ σ' 25 5 = nI (k + 1)
def nM_ (k : Nat) (ρ ρ' : tx_St) : Prop := (∀ p, p ≠ 45 → (p < 64 ∨ 68 < p) → ρ' p = ρ p) ∧ (∀ j, j ≠ 28 → ρ' 45 j = ρ 45 j) ∧ ρ' 45 28 = nI (k + 1) ∧ (∀ j, j ≠ k → ρ' 64 j = ρ 64 j ∧ ρ' 65 j = ρ 65 j ∧ ρ' 66 j = ρ 66 j) ∧ (∀ j, (j < 4 * k ∨ 4 * k + 4 ≤ j) → ρ' 67 j = ρ 67 j) ∧ ∀ j, (j < 3 * k ∨ 3 * k + 3 ≤ j) → ρ' 68 j = ρ 68 j
/-- the class's frame begins -/
def bC (σ : tx_St) (k m : Nat) : tx_St := tx_up (tx_up (tx_up (tx_up σ 25 5 (nI (k + 1))) (27 + 3 * k) 0 (nI m)) (27 + 3 * k) 1 0) (27 + 3 * k) 4 0
def bM (ρ : tx_St) (k m : Nat) (x y : Int32) : tx_St := tx_up (tx_up (tx_up (tx_up (tx_up (tx_up ρ 64 k (nI m)) 65 k 0) 66 k 0) 68 (3 * k) x) 68 (3 * k + 1) y) 45 28 (nI (k + 1))
theorem bC_n (k m : Nat) : nC_ k σ (bC σ k m) := by
  unfold bC
  refine ⟨fun p h1 h2 => ?_, fun j hj => ?_, ?_⟩
  · rw [tx_up_ne _ _ _ (by omega), tx_up_ne _ _ _ (by omega), tx_up_ne _ _ _ (by omega), tx_up_ne _ _ _ (by omega)]
  · rw [tx_up_ne _ _ _ (by omega), tx_up_ne _ _ _ (by omega), tx_up_ne _ _ _ (by omega), px_upN (Or.inr hj)]
  · rw [tx_up_ne _ _ _ (by omega), tx_up_ne _ _ _ (by omega), tx_up_ne _ _ _ (by omega), px_up, if_pos rfl, if_pos rfl]
theorem bC_v (k m : Nat) : bC σ k m (27 + 3 * k) 0 = nI m ∧ bC σ k m (27 + 3 * k) 1 = nI 0 ∧ bC σ k m (27 + 3 * k) 4 = nI 0 := by
  unfold bC
  refine ⟨?_, ?_, ?_⟩ <;> simp [px_up] <;> rfl
theorem nC_u {σ' : tx_St} {k j : Nat} {x : Int32} (h : nC_ k σ σ') : nC_ k σ (tx_up σ' (28 + 3 * k) j x) := by
  refine ⟨fun p h1 h2 => ?_, fun j hj => ?_, ?_⟩
  · rw [tx_up_ne _ _ _ (by omega)]; exact h.1 p h1 h2
  · rw [tx_up_ne _ _ _ (by omega)]; exact h.2.1 j hj
  · rw [tx_up_ne _ _ _ (by omega)]; exact h.2.2
theorem bM_n (k m : Nat) (x y : Int32) : nM_ k ρ (bM ρ k m x y) := by
  unfold bM
  refine ⟨fun p h1 h2 => ?_, fun j hj => ?_, ?_, fun j hj => ⟨?_, ?_, ?_⟩, fun j hj => ?_, fun j hj => ?_⟩
  · rw [tx_up_ne _ _ _ (by omega), tx_up_ne _ _ _ (by omega), tx_up_ne _ _ _ (by omega), tx_up_ne _ _ _ (by omega), tx_up_ne _ _ _ (by omega), tx_up_ne _ _ _ (by omega)]
  · rw [px_upN (Or.inr hj), tx_up_ne _ _ _ (by decide), tx_up_ne _ _ _ (by decide), tx_up_ne _ _ _ (by decide), tx_up_ne _ _ _ (by decide), tx_up_ne _ _ _ (by decide)]
  · rw [px_up, if_pos rfl, if_pos rfl]
  · rw [tx_up_ne _ _ _ (by decide), tx_up_ne _ _ _ (by decide), tx_up_ne _ _ _ (by decide), tx_up_ne _ _ _ (by decide), tx_up_ne _ _ _ (by decide), px_upN (Or.inr hj)]
  · rw [tx_up_ne _ _ _ (by decide), tx_up_ne _ _ _ (by decide), tx_up_ne _ _ _ (by decide), tx_up_ne _ _ _ (by decide), px_upN (Or.inr hj), tx_up_ne _ _ _ (by decide)]
  · rw [tx_up_ne _ _ _ (by decide), tx_up_ne _ _ _ (by decide), tx_up_ne _ _ _ (by decide), px_upN (Or.inr hj), tx_up_ne _ _ _ (by decide), tx_up_ne _ _ _ (by decide)]
  · rw [tx_up_ne _ _ _ (by decide), tx_up_ne _ _ _ (by decide), tx_up_ne _ _ _ (by decide), tx_up_ne _ _ _ (by decide), tx_up_ne _ _ _ (by decide), tx_up_ne _ _ _ (by decide)]
  · rw [tx_up_ne _ _ _ (by decide), px_upN (Or.inr (by omega)), px_upN (Or.inr (by omega)), tx_up_ne _ _ _ (by decide), tx_up_ne _ _ _ (by decide), tx_up_ne _ _ _ (by decide)]
theorem bM_v (k m : Nat) (x y : Int32) : (bM ρ k m x y 64 k = nI m ∧ bM ρ k m x y 65 k = nI 0 ∧ bM ρ k m x y 66 k = nI 0) ∧ bM ρ k m x y 68 (3 * k) = x ∧ bM ρ k m x y 68 (3 * k + 1) = y := by
  unfold bM
  refine ⟨⟨?_, ?_, ?_⟩, ?_, ?_⟩
  · simp [px_up]
  · simp [px_up]; rfl
  · simp [px_up]; rfl
  · rw [tx_up_ne _ _ _ (by decide), px_upN (Or.inr (by omega)), px_up, if_pos rfl, if_pos rfl]
  · rw [tx_up_ne _ _ _ (by decide), px_up, if_pos rfl, if_pos rfl]
theorem px_3k : ∀ k, k < 6 → (3 : Int32) * nI k = nI (3 * k) ∧ (3 : Int32) * nI k + 1 = nI (3 * k + 1) := by decide +kernel
theorem fx_Mo_enter_e (hS : Sx s0 nC nF nM τ) {m k : Nat} (hm : m < nM) (hk : k < 6) (hr : pe s0 ρ) (h28 : ρ 45 28 = nI k) (a b : Int32) : fx_Mo_enter ρ (nI m) a b = some (bM ρ k m (cif (stM s0 m) b a) b) := by
  have hb := B_n hS.1
  have h52 : ρ 52 m = s0 8 m := by rw [hr.1 52 (by decide), hS.1.1.2.2.2.2.2.1]
  unfold fx_Mo_enter
  rw [px_rd (j := m) rfl (by omega) (by decide), h52]
  have key : ∀ x y : Int32, fx_Mo_enter_b66 (tx_up (tx_up (tx_up ρ 64 k (nI m)) 65 k 0) 66 k 0) y x (nI (3 * k)) = some (bM ρ k m x y) := by
    intro x y
    unfold fx_Mo_enter_b66 bM
    have e28 : (tx_up (tx_up (tx_up (tx_up ρ 64 k (nI m)) 65 k 0) 66 k 0) 68 (3 * k) x) 45 28 = nI k := by
      rw [tx_up_ne _ _ _ (by decide), tx_up_ne _ _ _ (by decide), tx_up_ne _ _ _ (by decide), tx_up_ne _ _ _ (by decide)]; exact h28
    rw [px_wr (j := 3 * k) rfl (by omega) (by decide), e28, (px_3k k hk).2, px_wr (j := 3 * k + 1) rfl (by omega) (by decide), px_pt, tx_up_ne _ _ _ (show (45 : Nat) ≠ 68 by decide), e28, nI_1]
  have e1 : (tx_up ρ 64 k (nI m)) 45 28 = nI k := by rw [tx_up_ne _ _ _ (by decide)]; exact h28
  have e2 : (tx_up (tx_up ρ 64 k (nI m)) 65 k 0) 45 28 = nI k := by rw [tx_up_ne _ _ _ (by decide)]; exact e1
  have e3 : (tx_up (tx_up (tx_up ρ 64 k (nI m)) 65 k 0) 66 k 0) 45 28 = nI k := by rw [tx_up_ne _ _ _ (by decide)]; exact e2
  have b14 : ∀ s : Int32, fx_Mo_enter_b14 ρ (nI m) a b s = some (bM ρ k m (if s = 0 then b else a) b) := by
    intro s
    unfold fx_Mo_enter_b14
    rw [h28, px_wr (j := k) rfl hk (by decide), e1, px_wr (j := k) rfl hk (by decide), e2, px_wr (j := k) rfl hk (by decide), e3, (px_3k k hk).1, key, key]
    by_cases hs : s = 0
    · rw [if_pos hs, if_pos hs]
    · rw [if_neg hs, if_neg hs]
  rcases B_m8 hS.1 hm with ⟨g1, g2⟩ | ⟨g1, g2⟩
  · rw [g2, if_pos rfl, b14, cif_f g1, if_neg (by decide)]
  · rw [g2, if_neg (by decide), b14, cif_t g1, if_pos rfl]
/-- entering, both sides -/
theorem en_e (hS : Sx s0 nC nF nM τ) {x k : Nat} (hx : x < nM) (hk : k < 6) (hs : pe s0 σ) (hr : pe s0 ρ) (hh : hp s0 nC nF σ ρ K off md nh) (hmd : off + md ≤ 320) (h5 : σ 25 5 = nI k) (h28 : ρ 45 28 = nI k) {a b a' b' : Int32} (hrec : ¬ stM s0 x → ∃ u, 1 ≤ u ∧ u ≤ md ∧ a = nI u ∧ a' = nI (off + u) ∧ fi s0 (K u) (N_ (s0 7 x) + 2)) (harg : ¬ s0 10 x = -1 → vr s0 K off md (N_ (s0 10 x)) b b') :
    ∃ m' σ' ρ', m' < nM ∧ s0 11 m' = s0 11 x ∧ fx_Machine_enter σ (nI x) a b = some σ' ∧ fx_Mo_chosen ρ (nI x) a' = some (nI m', ρ) ∧ fx_Mo_enter ρ (nI m') a' b' = some ρ' ∧ TF (vr s0 K off md) σ' ρ' k m' 0 (ent s0 m') ∧ nC_ k σ σ' ∧ nM_ k ρ ρ' := by
  have hb := B_n hS.1
  have h8 : σ 8 = s0 8 := hs.1 8 (by decide)
  have h52 : ρ 52 x = s0 8 x := by rw [hr.1 52 (by decide), hS.1.1.2.2.2.2.2.1]
  have hst : stM σ x ↔ stM s0 x := by unfold stM; rw [h8]
  unfold fx_Machine_enter fx_Mo_chosen fx_Machine_enter_b93 fx_Frame_begin
  rw [fx_Plan_isStaticMethod_e (by omega), px_ci, h5, px_rf hk, px_pt, nI_1, px_rd (j := x) rfl (by omega) (by decide), h52]
  rcases B_m8 hS.1 hx with ⟨g1, g2⟩ | ⟨g1, g2⟩
  · rw [bP_f (fun z => g1 (hst.mp z)), if_pos rfl, g2, if_neg (by decide)]
    obtain ⟨u, u1, u2, rfl, rfl, u5⟩ := hrec g1
    obtain ⟨hK, hT⟩ := hh.2.1
    obtain ⟨v1, v2, -, -⟩ := hT u u1 u2
    obtain ⟨k2, k3⟩ := fi_cl u5
    have hKu := (hK u u1 u2).2
    have h7 := (B_m7 hS.1 hx).1
    have hln : ln s0 (K u - 2) (N_ (s0 7 x)) := by
      rcases k3 with k3 | k3
      · rw [k3, Nat.add_sub_cancel]
        exact ln_rf hb.1 (B_C hS.1) h7
      · exact k3
    obtain ⟨m', n1, n2, n3, n4, n5, n6, n7⟩ := cho_e hS (d := K u - 2) hx g1 (by omega) hln
    have eK : nI (K u) - 2 = nI (K u - 2) := by
      have := px_m2 (d := K u - 2)
      rw [show K u - 2 + 2 = K u by omega] at this
      exact this
    have eo : nI (off + u) - 1 = nI (off + u - 1) := by
      have := px_s1 (off + u - 1)
      rw [show off + u - 1 + 1 = off + u by omega] at this
      exact this
    have pσ : pe s0 (tx_up σ 25 5 (nI (k + 1))) := ⟨fun p hp => (tx_up_ne _ _ _ (by omega)).trans (hs.1 p hp), fun j hj => by rw [tx_up_ne _ _ _ (by decide)]; exact hs.2 j hj⟩
    rw [px_rd (j := u) rfl (by omega) (by decide), tx_up_ne _ _ _ (show (22 : Nat) ≠ 25 by decide), v1, eK, n6 _ pσ, px_ci, px_pt, px_pt, px_pt, px_cv, show 27 + 3 * k + 1 = 28 + 3 * k by omega, px_wr (i := 0) (j := 0) rfl (by decide) (by decide), px_wr (i := 1) (j := 1) rfl (by decide) (by decide), eo, px_rd (j := off + u - 1) rfl (by omega) (by decide), v2, eK, n7 ρ hr]
    refine ⟨m', tx_up (tx_up (bC σ k m') (28 + 3 * k) 0 (nI u)) (28 + 3 * k) 1 b, _, n1, n4, rfl, rfl, fx_Mo_enter_e hS n1 hk hr h28 _ _, TF_ent ⟨?_, ?_, ?_⟩ (bM_v k m' _ _).1 (fun _ => ?_) (fun hl => ?_), nC_u (nC_u (bC_n k m')), bM_n _ _ _ _⟩
    · rw [tx_up_ne _ _ _ (by omega), tx_up_ne _ _ _ (by omega)]; exact (bC_v k m').1
    · rw [tx_up_ne _ _ _ (by omega), tx_up_ne _ _ _ (by omega)]; exact (bC_v k m').2.1
    · rw [tx_up_ne _ _ _ (by omega), tx_up_ne _ _ _ (by omega)]; exact (bC_v k m').2.2
    · rw [(bM_v k m' _ _).2.1, cif_f n2, px_upN (Or.inr (by decide)), px_up, if_pos rfl, if_pos rfl]
      have : lo_ (ent s0 m') 0 = N_ (s0 7 m') + 3 := by
        unfold ent lo_
        rw [cif_f n2]
        rfl
      rw [this]
      exact Or.inr ⟨by omega, Or.inr ⟨u, u1, u2, rfl, rfl, Or.inr ⟨k2, by omega, n5⟩⟩⟩
    · rw [(bM_v k m' _ _).2.2, px_up, if_pos rfl, if_pos rfl]
      have e1 : lo_ (ent s0 m') 1 = cif (s0 10 m' = -1) 0 (N_ (s0 10 m') + 1) := by
        unfold ent lo_
        rw [cif_f n2]
        rfl
      rw [e1] at hl ⊢
      rw [n3] at hl ⊢
      rcases Classical.em (s0 10 x = -1) with hq | hq
      · rw [cif_t hq] at hl
        exact absurd rfl hl
      · rw [cif_f hq]
        exact harg hq
  · rw [bP_t (hst.mpr g1), if_neg (by decide), g2, if_pos rfl, px_pt, px_pt, px_pt, px_cv, show 27 + 3 * k + 1 = 28 + 3 * k by omega, px_wr (i := 0) (j := 0) rfl (by decide) (by decide)]
    refine ⟨x, tx_up (bC σ k x) (28 + 3 * k) 0 b, _, hx, rfl, rfl, rfl, fx_Mo_enter_e hS hx hk hr h28 _ _, TF_ent ⟨?_, ?_, ?_⟩ (bM_v k x _ _).1 (fun hl => ?_) (fun hl => ?_), nC_u (bC_n k x), bM_n _ _ _ _⟩
    · rw [tx_up_ne _ _ _ (by omega)]; exact (bC_v k x).1
    · rw [tx_up_ne _ _ _ (by omega)]; exact (bC_v k x).2.1
    · rw [tx_up_ne _ _ _ (by omega)]; exact (bC_v k x).2.2
    · rw [(bM_v k x _ _).2.1, cif_t g1, px_up, if_pos rfl, if_pos rfl]
      have e1 : lo_ (ent s0 x) 0 = cif (s0 10 x = -1) 0 (N_ (s0 10 x) + 1) := by
        unfold ent lo_
        rw [cif_t g1]
        rfl
      rw [e1] at hl ⊢
      rcases Classical.em (s0 10 x = -1) with hq | hq
      · rw [cif_t hq] at hl
        exact absurd rfl hl
      · rw [cif_f hq]
        exact harg hq
    · have e1 : lo_ (ent s0 x) 1 = 0 := by
        unfold ent lo_
        rw [cif_t g1]
        rfl
      exact absurd e1 hl
end EN
