/-! any step; the run's loop -/
def HR (σ σ' : tx_St) : Prop := ∀ p, (p < 21 ∨ p = 24 ∨ 44 < p) → σ' p = σ p
def HQ (ρ ρ' : tx_St) : Prop := (∀ p, (p < 45 ∨ (46 ≤ p ∧ p ≤ 60) ∨ p = 63 ∨ 68 < p) → ρ' p = ρ p) ∧ ∀ j, j ≠ 20 → j ≠ 26 → j ≠ 27 → j ≠ 28 → j ≠ 34 → ρ' 45 j = ρ 45 j
theorem HR_tr {a b c : tx_St} (h1 : HR a b) (h2 : HR b c) : HR a c := fun p hp => (h2 p hp).trans (h1 p hp)
theorem HQ_tr {a b c : tx_St} (h1 : HQ a b) (h2 : HQ b c) : HQ a c := ⟨fun p hp => (h2.1 p hp).trans (h1.1 p hp), fun j a b c d e => (h2.2 j a b c d e).trans (h1.2 j a b c d e)⟩
theorem HR_C {a b : tx_St} (h : HC a b) : HR a b := h.1
theorem HQ_M {a b : tx_St} (h : HM a b) : HQ a b := ⟨h.1, fun j a _ c d e => h.2 j a c d e⟩
theorem HR_u (σ : tx_St) {p j : Nat} {x : Int32} (h : 21 ≤ p ∧ p ≤ 44 ∧ p ≠ 24) : HR σ (tx_up σ p j x) := fun q hq => tx_up_ne _ _ _ (by omega)
theorem HQ_u (ρ : tx_St) {j : Nat} {x : Int32} (h : j = 20 ∨ j = 26 ∨ j = 27 ∨ j = 28 ∨ j = 34) : HQ ρ (tx_up ρ 45 j x) := ⟨fun q hq => tx_up_ne _ _ _ (by omega), fun i h1 h2 h3 h4 h5 => px_upN (Or.inr (by omega))⟩
section LO
variable {s0 σ ρ : tx_St} {nC nF nM R0 off nh : Nat} {τ : Nat → Nat → TS}
theorem OUT_any {K : Nat → Nat} {md mc un : Nat} {fr : Nat → Nat × Nat × TS} (hS : Sx s0 nC nF nM τ) (h : RN s0 nC nF nM τ R0 off nh σ ρ K md mc un fr) : ∃ r σ' ρ', fx_Machine_step σ (27 + 3 * (un - 1)) = some (r, σ') ∧ fx_Mo_once ρ = some (r, ρ') ∧ OUT s0 nC nF nM τ R0 off nh σ ρ K md mc r σ' ρ' := by
  have hSS := RN_SS h
  obtain ⟨m1, m2⟩ := hSS.2.2.2.2.1
  obtain ⟨o, ho, e⟩ := (B_m12 hS.1 m1).2.2 _ m2
  rcases (by omega : o = 0 ∨ o = 1 ∨ o = 2 ∨ o = 3 ∨ o = 4 ∨ o = 5 ∨ o = 6 ∨ o = 7 ∨ o = 8 ∨ o = 9 ∨ o = 10 ∨ o = 11 ∨ o = 12 ∨ o = 13 ∨ o = 14 ∨ o = 15 ∨ o = 16 ∨ o = 17 ∨ o = 18 ∨ o = 19) with rfl | rfl | rfl | rfl | rfl | rfl | rfl | rfl | rfl | rfl | rfl | rfl | rfl | rfl | rfl | rfl | rfl | rfl | rfl | rfl
  · exact OUT_SR hS h (SR_0 hS hSS e)
  · exact OUT_SR hS h (SR_1 hS hSS e)
  · exact OUT_SR hS h (SR_2 hS hSS e)
  · exact OUT_SR hS h (SR_3 hS hSS e)
  · exact OUT_SR hS h (SR_4 hS hSS e)
  · exact OUT_SR hS h (SR_5 hS hSS e)
  · exact OUT_SR hS h (SR_6 hS hSS e)
  · exact OUT_SR hS h (SR_7 hS hSS e)
  · exact OUT_SR hS h (SR_8 hS hSS e)
  · exact OUT_SR hS h (SR_9 hS hSS e)
  · exact OUT_SR hS h (SR_10 hS hSS e)
  · obtain ⟨s, t1, -, -⟩ := nx_s hS m1 m2 (op := 11) (by decide) e
    rw [tr_11] at t1
    obtain ⟨⟨f, f1, f2⟩, f3⟩ := (cif_some t1).1
    have hb := B_n hS.1
    rw [f2, N_nI (by omega)] at f3
    have hf : fiF s0 f := by
      rcases Classical.em (fiF s0 f) with q | q
      · exact q
      · exact absurd ⟨f3, fun z => q z.1⟩ (hS.2.2.1 f f1)
    refine absurd ?_ (hS.2.2.2.2.1 _ m1 _ m2).2
    exact Or.inr (Or.inl ⟨rfl, Or.inr e, by rw [f2, N_nI (by omega)]; exact hf⟩)
  · exact OUT_12 hS h e
  · exact OUT_SR hS h (SR_13 hS hSS e)
  · exact OUT_SR hS h (SR_14 hS hSS e)
  · exact OUT_SR hS h (SR_15 hS hSS e)
  · exact OUT_SR hS h (SR_16 hS hSS e)
  · exact OUT_SR hS h (SR_17 hS hSS e)
  · exact OUT_SR hS h (SR_18 hS hSS e)
  · exact OUT_19 hS h e
theorem RN_c {K : Nat → Nat} {md mc un : Nat} {fr : Nat → Nat × Nat × TS} (h : RN s0 nC nF nM τ R0 off nh σ ρ K md mc un fr) (x : Int32) : RN s0 nC nF nM τ R0 off nh (tx_up σ 25 0 x) ρ K md mc un fr := by
  obtain ⟨h1, h2, ⟨h3, h4, h5, h6⟩, ⟨h7, h7b, h7c⟩, h8, h9⟩ := h
  refine ⟨⟨⟨fun p hp => (tx_up_ne _ _ _ (by omega)).trans (h1.1.1 p hp), fun j hj => by rw [tx_up_ne _ _ _ (by decide)]; exact h1.1.2 j hj⟩, h1.2⟩, hp_eq h2 (fun p p1 p2 => tx_up_ne _ _ _ (by omega)) (fun _ _ _ => rfl) rfl rfl, ⟨h3, ?_, h5, h6⟩, ⟨?_, h7b, h7c⟩, fun k hk => ⟨(h8 k hk).1, TF_up (h8 k hk).2 (h8 k hk).1.2.2 (fun _ _ _ h => h) (fun p p1 p2 => tx_up_ne _ _ _ (by omega)) ⟨rfl, rfl, rfl⟩ (fun _ _ _ => rfl) (fun _ _ _ => rfl)⟩, h9⟩
  · rw [px_upN (Or.inr (by decide))]; exact h4
  · rw [px_upN (Or.inr (by decide))]; exact h7
theorem RN_d {K : Nat → Nat} {md mc un : Nat} {fr : Nat → Nat × Nat × TS} (h : RN s0 nC nF nM τ R0 off nh σ ρ K md mc un fr) (x : Int32) : RN s0 nC nF nM τ R0 off nh σ (tx_up ρ 45 26 x) K md mc un fr := by
  obtain ⟨h1, h2, ⟨h3, h4, h5, h6⟩, ⟨h7, h7b, h7c⟩, h8, h9⟩ := h
  refine ⟨⟨h1.1, ⟨fun p hp => (tx_up_ne _ _ _ (by omega)).trans (h1.2.1 p hp), fun j hj => by rw [px_upN (Or.inr (by omega))]; exact h1.2.2 j hj⟩⟩, hp_eq h2 (fun _ _ _ => rfl) (fun p p1 p2 => tx_up_ne _ _ _ (by omega)) (px_upN (Or.inr (by decide))) (px_upN (Or.inr (by decide))), ⟨?_, h4, h5, h6⟩, ⟨h7, ?_, h7c⟩, fun k hk => ⟨(h8 k hk).1, TF_up (h8 k hk).2 (h8 k hk).1.2.2 (fun _ _ _ h => h) (fun _ _ _ => rfl) ⟨by rw [tx_up_ne _ _ _ (by decide)], by rw [tx_up_ne _ _ _ (by decide)], by rw [tx_up_ne _ _ _ (by decide)]⟩ (fun _ _ _ => by rw [tx_up_ne _ _ _ (by decide)]) (fun _ _ _ => by rw [tx_up_ne _ _ _ (by decide)])⟩, h9⟩
  · rw [px_upN (Or.inr (by decide))]; exact h3
  · rw [px_upN (Or.inr (by decide))]; exact h7b
/-- a run's end -/
def LPx (s0 : tx_St) (nC nF R0 off nh : Nat) (σ ρ : tx_St) (K : Nat → Nat) (md mc : Nat) (r : Int32) (σ' ρ' : tx_St) : Prop := (HR σ σ' ∧ HQ ρ ρ') ∧ ∃ K' md' mc', hp s0 nC nF σ' ρ' K' off md' nh ∧ (md ≤ md' ∧ (∀ u, u ≤ md → K' u = K u) ∧ md' + mc = md + mc' ∧ mc' ≤ 8) ∧ (∃ c, c ≤ 64 ∧ σ' 25 0 = nI c ∧ ρ' 45 26 = nI c) ∧ (r = 0 → ρ' 45 28 = 0 ∧ vr s0 K' off md' R0 (σ' 25 1) (ρ' 45 34))
theorem lp_e (hS : Sx s0 nC nF nM τ) (x1 : Int32) : ∀ (n c F G : Nat) (σ ρ : tx_St) (K : Nat → Nat) (md mc un : Nat) (fr : Nat → Nat × Nat × TS), c + n = 65 → 1 ≤ c → n < F → n + 1 < G → RN s0 nC nF nM τ R0 off nh σ ρ K md mc un fr → σ 25 0 = nI c → ρ 45 26 = nI (c - 1) →
    ∃ r σ' ρ', fx_Machine_execute_b22 F σ = some (r, σ') ∧ ((r = 0 ∧ ∃ G', fx_Mo_run_b106 G ρ x1 = fx_Mo_run_b106 (G' + 1) ρ' x1) ∨ ((r = 1 ∨ r = 2 ∨ r = 3 ∨ r = 4) ∧ fx_Mo_run_b106 G ρ x1 = some ((17179869184 : Int64) + r.toInt64, ρ'))) ∧ LPx s0 nC nF R0 off nh σ ρ K md mc r σ' ρ' := by
  intro n
  induction n with
  | zero =>
    intro c F G σ ρ K md mc un fr h1 h2 h3 h4 h hc hd
    obtain ⟨F, rfl⟩ : ∃ F', F = F' + 1 := ⟨F - 1, by omega⟩
    obtain ⟨G, rfl⟩ : ∃ G', G = G' + 1 := ⟨G - 1, by omega⟩
    have hc65 : c = 65 := by omega
    subst hc65
    have hun := h.2.2.1
    have hmc := h.2.2.2.1
    rw [fx_Machine_execute_b22, fx_Mo_run_b106, hc, if_pos (by decide), px_pt, hun.1, if_neg (nI_nle (by omega) (by omega)), hd, if_pos (by decide)]
    refine ⟨2, tx_up σ 25 0 64, ρ, rfl, Or.inr ⟨by decide, rfl⟩, ⟨HR_u σ (by decide), fun _ _ => rfl, fun _ _ _ _ _ _ => rfl⟩, K, md, mc, hp_eq h.2.1 (fun p p1 p2 => tx_up_ne _ _ _ (by omega)) (fun _ _ _ => rfl) rfl rfl, ⟨Nat.le_refl _, fun _ _ => rfl, rfl, hmc.2.2.1⟩, ⟨64, Nat.le_refl _, ?_, hd⟩, fun z => absurd z (by decide)⟩
    rw [px_up, if_pos rfl, if_pos rfl]
    rfl
  | succ n ih =>
    intro c F G σ ρ K md mc un fr h1 h2 h3 h4 h hc hd
    obtain ⟨F, rfl⟩ : ∃ F', F = F' + 1 := ⟨F - 1, by omega⟩
    obtain ⟨G, rfl⟩ : ∃ G', G = G' + 1 := ⟨G - 1, by omega⟩
    have hun := h.2.2.1
    have hmc := h.2.2.2.1
    obtain ⟨r, σ8, ρ9, e1, e2, ⟨oC, oM⟩, K', md', mc', o1, o2, o3⟩ := OUT_any hS (RN_d h (nI c))
    have hcl : ¬ (64 : Int32) < nI c := by
      intro w
      have := (nI_ltI (a := 64) (b := c) (by decide) (by omega)).mp w
      omega
    have hu1 : σ 25 5 - 1 = nI (un - 1) := by
      rw [hun.2.1]
      have := px_s1 (un - 1)
      rw [show un - 1 + 1 = un by omega] at this
      exact this
    have hd1 : nI (c - 1) + 1 = nI c := by rw [nI_1, show c - 1 + 1 = c by omega]
    have hd64 : ¬ nI (c - 1) = 64 := fun z => by
      have := (nI_eq (b := 64) (by omega) (by decide)).mp z
      omega
    have s0c : σ8 25 0 = nI c := oC.2.trans hc
    have r26 : ρ9 45 26 = nI c := by rw [oM.2 26 (by decide) (by decide) (by decide) (by decide), px_up, if_pos rfl, if_pos rfl]
    have hR8 : HR σ σ8 := HR_C oC
    have hQ9 : HQ ρ ρ9 := HQ_tr (HQ_u ρ (by decide)) (HQ_M oM)
    rw [fx_Machine_execute_b22, fx_Mo_run_b106, hc, if_neg hcl, hu1, px_rf (by omega), e1, px_ci, hun.1, if_neg (nI_nle (by omega) (by omega)), hd, if_neg hd64, px_pt, px_pt, hd1, e2, px_ci]
    unfold fx_Machine_execute_b60
    rcases o3 with ⟨rfl, un', fr', o3⟩ | ⟨rfl, q1, q2, q3⟩ | hr
    · have hun' := o3.2.2.1
      rw [if_pos rfl, hun'.2.1, if_neg (nI_ne0 (by omega) (by omega)), s0c, nI_1, if_pos (by decide)]
      obtain ⟨r, σ', ρ', i1, i2, ⟨iR, iQ⟩, K2, md2, mc2, i3, i4, i5, i6⟩ := ih (c + 1) F G (tx_up σ8 25 0 (nI (c + 1))) ρ9 K' md' mc' un' fr' (by omega) (by omega) (by omega) (by omega) (RN_c o3 _) (by rw [px_up, if_pos rfl, if_pos rfl]) (by rw [r26, Nat.add_sub_cancel])
      exact ⟨r, σ', ρ', i1, i2, ⟨HR_tr hR8 (HR_tr (HR_u _ (by decide)) iR), HQ_tr hQ9 iQ⟩, K2, md2, mc2, i3, ⟨by omega, fun u hu => (i4.2.1 u (by omega)).trans (o2.2.1 u hu), by omega, i4.2.2.2⟩, i5, i6⟩
    · rw [if_pos rfl, q1, if_pos rfl, if_pos (by decide)]
      obtain ⟨G, rfl⟩ : ∃ G', G = G' + 1 := ⟨G - 1, by omega⟩
      exact ⟨0, σ8, ρ9, rfl, Or.inl ⟨rfl, G, rfl⟩, ⟨hR8, hQ9⟩, K', md', mc', o1, o2, ⟨c, by omega, s0c, r26⟩, fun _ => ⟨q2, q3⟩⟩
    · have hr0 : ¬ r = 0 ∧ ¬ r ≤ 0 ∧ (r = 1 ∨ r = 2 ∨ r = 3 ∨ r = 4) := by
        rcases hr with rfl | rfl | rfl <;> decide
      rw [if_neg hr0.1, if_neg hr0.2.1]
      exact ⟨r, σ8, ρ9, rfl, Or.inr ⟨hr0.2.2, rfl⟩, ⟨hR8, hQ9⟩, K', md', mc', o1, o2, ⟨c, by omega, s0c, r26⟩, fun z => absurd z hr0.1⟩
end LO
