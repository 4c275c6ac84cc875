/-! the class's step on types -/
section XA
variable {σ : tx_St} {nC nF nM : Nat} {o : Option TS} {s : TS}
theorem xe_tkF {τ : tx_St} (h : xe σ τ) (w : Nat) : tk τ w = tk σ w := funext (xe_tk h w)
/-- a step of a chain: the state so far differs from σ in the types alone -/
theorem xc_take (hB : iv_B σ nC nF nM) {τ : tx_St} (he : xe σ τ) (hx : xr τ (nC + 2) o) {w : Nat} (hw : w < nC + 2) : ∃ ρ, fx_Fitting_take τ (nI w) = some ρ ∧ xe σ ρ ∧ xr ρ (nC + 2) (o.bind (tk σ w)) := by
  obtain ⟨ρ, h1, h2, h3⟩ := xr_take (xe_B he hB) hx hw
  rw [xe_tkF he] at h3
  exact ⟨ρ, h1, xe_tr he h2, h3⟩
theorem xc_put {n : Nat} {τ : tx_St} (he : xe σ τ) (hx : xr τ n o) {t : Nat} (ht : t < n) : ∃ ρ, fx_Fitting_put τ (nI t) = some ρ ∧ xe σ ρ ∧ xr ρ n (o.bind (gv t)) := by
  obtain ⟨ρ, h1, h2, h3⟩ := xr_put hx ht
  exact ⟨ρ, h1, xe_tr he h2, h3⟩
theorem xc_tT {n : Nat} (hn : n ≤ 10) {τ : tx_St} (he : xe σ τ) (hx : xr τ n o) : ∃ ρ, fx_Fitting_takeReference τ = some ρ ∧ xe σ ρ ∧ xr ρ n (o.bind tT) := by
  obtain ⟨ρ, h1, h2, h3⟩ := xr_takeR hn hx
  exact ⟨ρ, h1, xe_tr he h2, h3⟩
/-- o is none: the flag is down; some: up -/
theorem xr_flag {n : Nat} (hx : xr σ n o) : (o = none ∧ σ 15 8 = 0) ∨ (∃ s, o = some s ∧ ¬ σ 15 8 = 0) := by
  cases o with
  | none => exact Or.inl ⟨rfl, hx.2.1 rfl⟩
  | some s => exact Or.inr ⟨s, rfl, by rw [(hx.2.2 s rfl).1]; decide⟩
theorem xr_dem {n : Nat} (hx : xr σ n o) (p : Prop) : ∃ τ, fx_Fitting_demand σ (bP p) = some τ ∧ xe σ τ ∧ xr τ n (cif p o none) ∧ (p → τ = σ) := by
  rcases Classical.em p with h | h
  · rw [bP_t h, cif_t h]
    exact ⟨σ, fx_Fitting_demand_t (by decide), xe_rf σ, hx, fun _ => rfl⟩
  · rw [bP_f h, cif_f h]
    exact ⟨_, fx_Fitting_demand_f, xe_15 σ 0 (Or.inr rfl), xr_bad hx.1, fun z => absurd z h⟩
theorem xr_make_l (hB : iv_B σ nC nF nM) {c : Nat} (hc : c < nC) : ∀ (f F : Nat) (τ : tx_St) (o : Option TS), f ≤ nF → f < F → xe σ τ → xr τ (nC + 2) o → ∃ ρ, fx_Fitting_make_b30 F τ (nI c) (nI f - 1) = some ρ ∧ xe σ ρ ∧ xr ρ (nC + 2) ((mkF σ c f o).bind (gv (c + 2))) := by
  have hb := B_n hB
  intro f
  induction f with
  | zero =>
    intro F τ o hf hF he hx
    obtain ⟨F, rfl⟩ : ∃ G, F = G + 1 := ⟨F - 1, by omega⟩
    obtain ⟨ρ, h1, h2, h3⟩ := xc_put he hx (t := c + 2) (by omega)
    refine ⟨ρ, ?_, h2, h3⟩
    rw [fx_Fitting_make_b30, if_pos (by decide), px_2, h1, px_cv]
  | succ f ih =>
    intro F τ o hf hF he hx
    obtain ⟨F, rfl⟩ : ∃ G, F = G + 1 := ⟨F - 1, by omega⟩
    have hB2 := xe_B he hB
    have e6 : τ 6 = σ 6 := he.1 6 (by decide) (by decide) (by decide)
    rw [fx_Fitting_make_b30, nI_pred, if_neg (nI_pos (by omega)), fx_Plan_owns_e hB2 (by omega) (by omega), px_ci, bP_c (xe_ow he c f)]
    unfold fx_Fitting_make_b59
    rw [px_m1, mkF]
    by_cases hw : ow σ c f
    · obtain ⟨ρ, h1, h2, h3⟩ := xc_take hB he hx (w := N_ (σ 6 f)) (B_f6 hB (f := f) (by omega)).1
      rw [← (B_f6 hB (f := f) (by omega)).2] at h1
      rw [bP_t hw, if_neg (by decide), px_rd rfl (by omega) (by decide), e6, h1, px_cv, cif_t hw]
      exact ih F ρ _ (by omega) (by omega) h2 h3
    · rw [bP_f hw, if_pos rfl, cif_f hw]
      exact ih F τ o (by omega) (by omega) he hx
theorem xr_make (hB : iv_B σ nC nF nM) (hx : xr σ (nC + 2) (some s)) (a : Int32) : ∃ ρ, fx_Fitting_make σ a = some ρ ∧ xe σ ρ ∧ xr ρ (nC + 2) (cif (cI nC a) ((mkF σ (N_ a) nF (some s)).bind (gv (N_ a + 2))) none) := by
  have hb := B_n hB
  unfold fx_Fitting_make
  obtain ⟨τ, h1, h2, h3, h4⟩ := xr_dem hx (cI nC a)
  rw [fx_Plan_isClass_e, px_ci, hB.2.2.1.1, bP_b, bP_c (px_cI (by omega) a), h1, px_cv]
  by_cases hc : cI nC a
  · obtain ⟨c1, c2⟩ := cI_N (by omega) hc
    have := h4 hc
    subst this
    rw [if_neg (by rw [(hx.2.2 s rfl).1]; decide), hB.2.2.1.2.1, cif_t hc]
    obtain ⟨ρ, g1, g2, g3⟩ := xr_make_l hB c1 nF tx_fu τ (some s) (Nat.le_refl _) (by unfold tx_fu; omega) (xe_rf _) hx
    rw [← c2] at g1
    exact ⟨ρ, g1, g2, g3⟩
  · rw [cif_f hc] at h3 ⊢
    rw [if_pos (h3.2.1 rfl)]
    exact ⟨τ, rfl, h2, h3⟩
theorem xr_putClass (hB : iv_B σ nC nF nM) (hx : xr σ (nC + 2) (some s)) (a : Int32) : ∃ ρ, fx_Fitting_putClass σ a = some ρ ∧ xe σ ρ ∧ xr ρ (nC + 2) (cif (cI nC a) (gv (N_ a + 2) s) none) := by
  have hb := B_n hB
  unfold fx_Fitting_putClass fx_Fitting_putClass_b26
  obtain ⟨τ, h1, h2, h3, h4⟩ := xr_dem hx (cI nC a)
  rw [fx_Plan_isClass_e, px_ci, hB.2.2.1.1, bP_b, bP_c (px_cI (by omega) a), h1, px_cv]
  by_cases hc : cI nC a
  · obtain ⟨c1, c2⟩ := cI_N (by omega) hc
    have := h4 hc
    subst this
    rw [if_neg (by rw [(hx.2.2 s rfl).1]; decide), cif_t hc]
    obtain ⟨ρ, g1, g2, g3⟩ := xr_put hx (t := N_ a + 2) (by omega)
    refine ⟨ρ, ?_, g2, g3⟩
    rw [show (2 : Int32) + a = nI (N_ a + 2) by rw [← px_2, ← c2], g1, px_cv]
  · rw [cif_f hc] at h3 ⊢
    rw [if_pos (h3.2.1 rfl)]
    exact ⟨τ, rfl, h2, h3⟩
theorem xr_field (hB : iv_B σ nC nF nM) (hx : xr σ (nC + 2) (some s)) (a : Int32) (m : Nat) : ∀ op, op = 8 ∨ op = 9 → ∃ ρ, fx_Fitting_useField σ (nI op) a = some ρ ∧ xe σ ρ ∧ xr ρ (nC + 2) (tr σ nC nF nM m op a s) := by
  have hb := B_n hB
  intro op hop
  have e0 : tr σ nC nF nM m op a s = cif (cI nF a ∧ ¬ stF σ (N_ a)) (tr σ nC nF nM m op a s) none := by
    by_cases hc : cI nF a ∧ ¬ stF σ (N_ a)
    · rw [cif_t hc]
    · rw [cif_f hc]
      rcases hop with rfl | rfl
      · rw [tr_8, cif_f hc]
      · rw [tr_9, cif_f hc]
  have hsf : fx_Plan_isField σ a = some (bP (cI nF a), σ) := by
    rw [fx_Plan_isField_e, hB.2.2.1.2.1, bP_b, bP_c (px_cI (by omega) a)]
  have hred : fx_Fitting_useField σ (nI op) a = fx_Fitting_useField_b28 σ (nI op) a (bP (cI nF a ∧ ¬ stF σ (N_ a))) := by
    unfold fx_Fitting_useField fx_Fitting_useField_b27
    rw [hsf, px_ci]
    by_cases hc : cI nF a
    · obtain ⟨c1, c2⟩ := cI_N (by omega) hc
      have es := fx_Plan_isStaticField_e (σ := σ) (f := N_ a) (by omega)
      rw [← c2] at es
      rw [bP_t hc, if_neg (by decide), es, px_ci]
      by_cases hs : stF σ (N_ a)
      · rw [bP_t hs, if_neg (by decide), bP_f (p := cI nF a ∧ ¬ stF σ (N_ a)) (fun z => z.2 hs)]
      · rw [bP_f hs, if_pos rfl, bP_t (p := cI nF a ∧ ¬ stF σ (N_ a)) ⟨hc, hs⟩]
    · rw [bP_f hc, if_pos rfl, bP_f (p := cI nF a ∧ ¬ stF σ (N_ a)) (fun z => hc z.1)]
  rw [hred, e0]
  unfold fx_Fitting_useField_b28
  obtain ⟨τ, h1, h2, h3, h4⟩ := xr_dem hx (cI nF a ∧ ¬ stF σ (N_ a))
  rw [h1, px_cv]
  by_cases hc : cI nF a ∧ ¬ stF σ (N_ a)
  · obtain ⟨c1, c2⟩ := cI_N (by omega) hc.1
    have := h4 hc
    subst this
    rw [if_neg (by rw [(hx.2.2 s rfl).1]; decide), cif_t hc]
    generalize hm : N_ a = f at *
    subst c2
    have b4 := B_f4 hB c1
    have b6 := B_f6 hB c1
    have r4 : ∀ ρ, xe τ ρ → ρ 4 f = nI (N_ (τ 4 f)) := fun ρ h => by rw [h.1 4 (by decide) (by decide) (by decide)]; exact b4.2
    have r6 : ∀ ρ, xe τ ρ → ρ 6 f = nI (N_ (τ 6 f)) := fun ρ h => by rw [h.1 6 (by decide) (by decide) (by decide)]; exact b6.2
    unfold fx_Fitting_useField_b58 fx_Fitting_useField_b92
    rcases hop with rfl | rfl
    · obtain ⟨ρ, g1, g2, g3⟩ := xc_take hB (xe_rf τ) hx (w := N_ (τ 4 f) + 2) (by omega)
      obtain ⟨π, k1, k2, k3⟩ := xc_put g2 g3 (t := N_ (τ 6 f)) b6.1
      refine ⟨π, ?_, k2, ?_⟩
      · rw [if_neg (by decide), px_rd rfl (by omega) (by decide), r4 τ (xe_rf τ), px_2, g1, px_cv, if_pos (by decide), px_rd rfl (by omega) (by decide), r6 ρ g2, k1, px_cv]
      · rw [tr_8, hm, cif_t hc]
        exact k3
    · obtain ⟨ρ, g1, g2, g3⟩ := xc_take hB (xe_rf τ) hx (w := N_ (τ 6 f)) b6.1
      obtain ⟨π, k1, k2, k3⟩ := xc_take hB g2 g3 (w := N_ (τ 4 f) + 2) (by omega)
      refine ⟨π, ?_, k2, ?_⟩
      · rw [if_pos (by decide), px_rd rfl (by omega) (by decide), r6 τ (xe_rf τ), g1, px_cv, px_rd rfl (by omega) (by decide), r4 ρ g2, px_2, k1, px_cv, if_neg (by decide)]
      · rw [tr_9, hm, cif_t hc]
        exact k3
  · rw [cif_f hc] at h3 ⊢
    rw [if_pos (h3.2.1 rfl)]
    exact ⟨τ, rfl, h2, h3⟩
theorem xr_static (hB : iv_B σ nC nF nM) (hx : xr σ (nC + 2) (some s)) (a : Int32) (m : Nat) : ∀ op, op = 10 ∨ op = 11 → ∃ ρ, fx_Fitting_useStaticField σ (nI op) a = some ρ ∧ xe σ ρ ∧ xr ρ (nC + 2) (tr σ nC nF nM m op a s) := by
  have hb := B_n hB
  intro op hop
  have e0 : tr σ nC nF nM m op a s = cif (cI nF a ∧ stF σ (N_ a)) (tr σ nC nF nM m op a s) none := by
    by_cases hc : cI nF a ∧ stF σ (N_ a)
    · rw [cif_t hc]
    · rw [cif_f hc]
      rcases hop with rfl | rfl
      · rw [tr_10, cif_f hc]
      · rw [tr_11, cif_f hc]
  have hsf : fx_Plan_isField σ a = some (bP (cI nF a), σ) := by
    rw [fx_Plan_isField_e, hB.2.2.1.2.1, bP_b, bP_c (px_cI (by omega) a)]
  have hred : fx_Fitting_useStaticField σ (nI op) a = fx_Fitting_useStaticField_b28 σ (nI op) a (bP (cI nF a ∧ stF σ (N_ a))) := by
    unfold fx_Fitting_useStaticField fx_Fitting_useStaticField_b27
    rw [hsf, px_ci]
    by_cases hc : cI nF a
    · obtain ⟨c1, c2⟩ := cI_N (by omega) hc
      have es := fx_Plan_isStaticField_e (σ := σ) (f := N_ a) (by omega)
      rw [← c2] at es
      rw [bP_t hc, if_neg (by decide), es, px_ci]
      by_cases hs : stF σ (N_ a)
      · rw [bP_t hs, if_neg (by decide), bP_t (p := cI nF a ∧ stF σ (N_ a)) ⟨hc, hs⟩]
      · rw [bP_f hs, if_pos rfl, bP_f (p := cI nF a ∧ stF σ (N_ a)) (fun z => hs z.2)]
    · rw [bP_f hc, if_pos rfl, bP_f (p := cI nF a ∧ stF σ (N_ a)) (fun z => hc z.1)]
  rw [hred, e0]
  unfold fx_Fitting_useStaticField_b28
  obtain ⟨τ, h1, h2, h3, h4⟩ := xr_dem hx (cI nF a ∧ stF σ (N_ a))
  rw [h1, px_cv]
  by_cases hc : cI nF a ∧ stF σ (N_ a)
  · obtain ⟨c1, c2⟩ := cI_N (by omega) hc.1
    have := h4 hc
    subst this
    rw [if_neg (by rw [(hx.2.2 s rfl).1]; decide), cif_t hc]
    generalize hm : N_ a = f at *
    subst c2
    have b6 := B_f6 hB c1
    unfold fx_Fitting_useStaticField_b58 fx_Fitting_useStaticField_b77
    rcases hop with rfl | rfl
    · obtain ⟨ρ, g1, g2, g3⟩ := xc_put (xe_rf τ) hx (t := N_ (τ 6 f)) b6.1
      rw [← b6.2] at g1
      refine ⟨ρ, ?_, g2, ?_⟩
      · rw [if_neg (by decide), if_pos (by decide), px_rd rfl (by omega) (by decide), g1, px_cv]
      · rw [tr_10, hm, cif_t hc]
        exact g3
    · obtain ⟨ρ, g1, g2, g3⟩ := xc_take hB (xe_rf τ) hx (w := N_ (τ 6 f)) b6.1
      rw [← b6.2] at g1
      refine ⟨ρ, ?_, g2, ?_⟩
      · rw [if_pos (by decide), px_rd rfl (by omega) (by decide), g1, px_cv, if_neg (by decide)]
      · rw [tr_11, hm, cif_t hc]
        exact g3
  · rw [cif_f hc] at h3 ⊢
    rw [if_pos (h3.2.1 rfl)]
    exact ⟨τ, rfl, h2, h3⟩
theorem xr_call (hB : iv_B σ nC nF nM) (hx : xr σ (nC + 2) (some s)) (a : Int32) : ∃ ρ, fx_Fitting_callMethod σ a = some ρ ∧ xe σ ρ ∧ xr ρ (nC + 2) (cif (cI nM a) (t_ca σ (N_ a) s) none) := by
  have hb := B_n hB
  unfold fx_Fitting_callMethod
  obtain ⟨τ, h1, h2, h3, h4⟩ := xr_dem hx (cI nM a)
  rw [fx_Plan_isMethod_e, px_ci, hB.2.2.1.2.2, bP_b, bP_c (px_cI (by omega) a), h1, px_cv]
  by_cases hc : cI nM a
  · obtain ⟨c1, c2⟩ := cI_N (by omega) hc
    have := h4 hc
    subst this
    rw [if_neg (by rw [(hx.2.2 s rfl).1]; decide), cif_t hc]
    generalize hm : N_ a = m at *
    subst c2
    have b7 := B_m7 hB c1
    have b11 := B_m11 hB c1
    have h72 : ∀ ρ o, xe τ ρ → xr ρ (nC + 2) o → ∃ π, fx_Fitting_callMethod_b72 ρ (nI m) = some π ∧ xe τ π ∧ xr π (nC + 2) (o.bind (gv (N_ (τ 11 m)))) := by
      intro ρ o he ho
      obtain ⟨π, k1, k2, k3⟩ := xc_put he ho (t := N_ (τ 11 m)) b11.1
      refine ⟨π, ?_, k2, k3⟩
      unfold fx_Fitting_callMethod_b72
      rw [px_rd rfl (by omega) (by decide), he.1 11 (by decide) (by decide) (by decide), b11.2, k1, px_cv]
    have h46 : ∀ ρ o, xe τ ρ → xr ρ (nC + 2) o → ∃ π, fx_Fitting_callMethod_b46 ρ (nI m) = some π ∧ xe τ π ∧ xr π (nC + 2) ((cif (stM τ m) o (o.bind (tk τ (N_ (τ 7 m) + 2)))).bind (gv (N_ (τ 11 m)))) := by
      intro ρ o he ho
      unfold fx_Fitting_callMethod_b46
      have es : fx_Plan_isStaticMethod ρ (nI m) = some (bP (stM τ m), ρ) := by
        rw [fx_Plan_isStaticMethod_e (by omega)]
        unfold stM
        rw [he.1 8 (by decide) (by decide) (by decide)]
      rw [es, px_ci]
      by_cases hs : stM τ m
      · rw [bP_t hs, if_neg (by decide), cif_t hs]
        exact h72 ρ o he ho
      · obtain ⟨π, k1, k2, k3⟩ := xc_take hB he ho (w := N_ (τ 7 m) + 2) (by omega)
        rw [bP_f hs, if_pos rfl, cif_f hs, px_rd rfl (by omega) (by decide), he.1 7 (by decide) (by decide) (by decide), b7.2, px_2, k1, px_cv]
        rw [← b7.2]
        exact h72 π _ k2 k3
    rw [px_rd rfl (by omega) (by decide), px_rd rfl (by omega) (by decide)]
    unfold t_ca
    rcases B_m10 hB c1 with e | ⟨e1, e2⟩
    · rw [if_pos e, cif_t e]
      exact h46 τ _ (xe_rf τ) hx
    · have hne : ¬ τ 10 m = -1 := fun z => by
        rw [e2] at z
        exact nI_pos (n := N_ (τ 10 m)) (by omega) (z.symm ▸ (by decide : (-1 : Int32) < 0))
      obtain ⟨ρ, g1, g2, g3⟩ := xc_take hB (xe_rf τ) hx e1
      rw [← e2] at g1
      rw [if_neg hne, g1, px_cv, cif_f hne]
      exact h46 ρ _ g2 g3
  · rw [cif_f hc] at h3 ⊢
    rw [if_pos (h3.2.1 rfl)]
    exact ⟨τ, rfl, h2, h3⟩
theorem xr_apply (hB : iv_B σ nC nF nM) (hx : xr σ (nC + 2) (some s)) {m op : Nat} (hm : m < nM) (e7 : σ 15 7 = nI m) (hop : op ≤ 19) (a : Int32) : ∃ ρ, fx_Fitting_apply σ (nI op) a = some ρ ∧ xe σ ρ ∧ xr ρ (nC + 2) (tr σ nC nF nM m op a s) := by
  have hb := B_n hB
  have hn : nC + 2 ≤ 10 := by omega
  have T : ∀ {τ o} (w : Nat), w < 2 → xe σ τ → xr τ (nC + 2) o → ∃ ρ, fx_Fitting_take τ (nI w) = some ρ ∧ xe σ ρ ∧ xr ρ (nC + 2) (o.bind (tk σ w)) := fun w hw he ho => xc_take hB he ho (by omega)
  have G : ∀ {τ o} (w : Nat), w < 2 → xe σ τ → xr τ (nC + 2) o → ∃ ρ, fx_Fitting_put τ (nI w) = some ρ ∧ xe σ ρ ∧ xr ρ (nC + 2) (o.bind (gv w)) := fun w hw he ho => xc_put he ho (by omega)
  unfold fx_Fitting_apply fx_Fitting_apply_b120 fx_Fitting_apply_b154 fx_Fitting_apply_b163 fx_Fitting_apply_b257 fx_Fitting_apply_b258 fx_Fitting_apply_b293
  rcases (by omega : op = 0 ∨ op = 1 ∨ op = 2 ∨ op = 3 ∨ op = 4 ∨ op = 5 ∨ op = 6 ∨ op = 7 ∨ op = 8 ∨ op = 9 ∨ op = 10 ∨ op = 11 ∨ op = 12 ∨ op = 13 ∨ op = 14 ∨ op = 15 ∨ op = 16 ∨ op = 17 ∨ op = 18 ∨ op = 19) with rfl | rfl | rfl | rfl | rfl | rfl | rfl | rfl | rfl | rfl | rfl | rfl | rfl | rfl | rfl | rfl | rfl | rfl | rfl | rfl
  · have c0 : xe σ σ := xe_rf σ
    obtain ⟨q0, u0, v0, w0⟩ := G 0 (by decide) c0 hx
    change fx_Fitting_put _ 0 = some q0 at u0
    refine ⟨q0, ?_, v0, w0⟩
    rw [if_pos (by decide), u0, px_cv]
  · obtain ⟨ρ, u, v, w⟩ := xr_load hn hx a
    exact ⟨ρ, by rw [if_neg (by decide), if_pos (by decide), u, px_cv], v, w⟩
  · obtain ⟨ρ, u, v, w⟩ := xr_store hn hx a
    exact ⟨ρ, by rw [if_neg (by decide), if_neg (by decide), if_pos (by decide), u, px_cv], v, w⟩
  · have c0 : xe σ σ := xe_rf σ
    obtain ⟨q0, u0, v0, w0⟩ := T 0 (by decide) c0 hx
    obtain ⟨q1, u1, v1, w1⟩ := T 0 (by decide) v0 w0
    obtain ⟨q2, u2, v2, w2⟩ := G 0 (by decide) v1 w1
    change fx_Fitting_take _ 0 = some q0 at u0
    change fx_Fitting_take _ 0 = some q1 at u1
    change fx_Fitting_put _ 0 = some q2 at u2
    refine ⟨q2, ?_, v2, w2⟩
    rw [if_neg (by decide), if_neg (by decide), if_neg (by decide), if_pos (by decide), u0, px_cv, u1, px_cv, u2, px_cv]
  · have c0 : xe σ σ := xe_rf σ
    obtain ⟨q0, u0, v0, w0⟩ := T 0 (by decide) c0 hx
    obtain ⟨q1, u1, v1, w1⟩ := T 0 (by decide) v0 w0
    obtain ⟨q2, u2, v2, w2⟩ := G 0 (by decide) v1 w1
    change fx_Fitting_take _ 0 = some q0 at u0
    change fx_Fitting_take _ 0 = some q1 at u1
    change fx_Fitting_put _ 0 = some q2 at u2
    refine ⟨q2, ?_, v2, w2⟩
    rw [if_neg (by decide), if_neg (by decide), if_neg (by decide), if_neg (by decide), if_pos (by decide), u0, px_cv, u1, px_cv, u2, px_cv]
  · exact ⟨σ, by rw [if_neg (by decide), if_neg (by decide), if_neg (by decide), if_neg (by decide), if_neg (by decide), if_pos (by decide)], xe_rf σ, hx⟩
  · have c0 : xe σ σ := xe_rf σ
    obtain ⟨q0, u0, v0, w0⟩ := T 0 (by decide) c0 hx
    change fx_Fitting_take _ 0 = some q0 at u0
    refine ⟨q0, ?_, v0, w0⟩
    rw [if_neg (by decide), if_neg (by decide), if_neg (by decide), if_neg (by decide), if_neg (by decide), if_neg (by decide), if_pos (by decide), u0, px_cv]
  · obtain ⟨ρ, u, v, w⟩ := xr_make hB hx a
    exact ⟨ρ, by rw [if_neg (by decide), if_neg (by decide), if_neg (by decide), if_neg (by decide), if_neg (by decide), if_neg (by decide), if_neg (by decide), if_pos (by decide), u, px_cv], v, w⟩
  · obtain ⟨ρ, u, v, w⟩ := xr_field hB hx a m 8 (by decide)
    exact ⟨ρ, by rw [if_neg (by decide), if_neg (by decide), if_neg (by decide), if_neg (by decide), if_neg (by decide), if_neg (by decide), if_neg (by decide), if_neg (by decide), if_pos (by decide), u, px_cv], v, w⟩
  · obtain ⟨ρ, u, v, w⟩ := xr_field hB hx a m 9 (by decide)
    exact ⟨ρ, by rw [if_neg (by decide), if_neg (by decide), if_neg (by decide), if_neg (by decide), if_neg (by decide), if_neg (by decide), if_neg (by decide), if_neg (by decide), if_neg (by decide), if_pos (by decide), u, px_cv], v, w⟩
  · obtain ⟨ρ, u, v, w⟩ := xr_static hB hx a m 10 (by decide)
    exact ⟨ρ, by rw [if_neg (by decide), if_neg (by decide), if_neg (by decide), if_neg (by decide), if_neg (by decide), if_neg (by decide), if_neg (by decide), if_neg (by decide), if_neg (by decide), if_neg (by decide), if_pos (by decide), u, px_cv], v, w⟩
  · obtain ⟨ρ, u, v, w⟩ := xr_static hB hx a m 11 (by decide)
    exact ⟨ρ, by rw [if_neg (by decide), if_neg (by decide), if_neg (by decide), if_neg (by decide), if_neg (by decide), if_neg (by decide), if_neg (by decide), if_neg (by decide), if_neg (by decide), if_neg (by decide), if_neg (by decide), if_pos (by decide), u, px_cv], v, w⟩
  · obtain ⟨ρ, u, v, w⟩ := xr_call hB hx a
    exact ⟨ρ, by rw [if_neg (by decide), if_neg (by decide), if_neg (by decide), if_neg (by decide), if_neg (by decide), if_neg (by decide), if_neg (by decide), if_neg (by decide), if_neg (by decide), if_neg (by decide), if_neg (by decide), if_neg (by decide), if_pos (by decide), u, px_cv], v, w⟩
  · have c0 : xe σ σ := xe_rf σ
    obtain ⟨q0, u0, v0, w0⟩ := T 0 (by decide) c0 hx
    obtain ⟨q1, u1, v1, w1⟩ := G 1 (by decide) v0 w0
    change fx_Fitting_take _ 0 = some q0 at u0
    change fx_Fitting_put _ 1 = some q1 at u1
    refine ⟨q1, ?_, v1, w1⟩
    rw [if_neg (by decide), if_neg (by decide), if_neg (by decide), if_neg (by decide), if_neg (by decide), if_neg (by decide), if_neg (by decide), if_neg (by decide), if_neg (by decide), if_neg (by decide), if_neg (by decide), if_neg (by decide), if_neg (by decide), if_pos (by decide), u0, px_cv, u1, px_cv]
  · have c0 : xe σ σ := xe_rf σ
    obtain ⟨q0, u0, v0, w0⟩ := T 1 (by decide) c0 hx
    obtain ⟨q1, u1, v1, w1⟩ := G 0 (by decide) v0 w0
    change fx_Fitting_take _ 1 = some q0 at u0
    change fx_Fitting_put _ 0 = some q1 at u1
    refine ⟨q1, ?_, v1, w1⟩
    rw [if_neg (by decide), if_neg (by decide), if_neg (by decide), if_neg (by decide), if_neg (by decide), if_neg (by decide), if_neg (by decide), if_neg (by decide), if_neg (by decide), if_neg (by decide), if_neg (by decide), if_neg (by decide), if_neg (by decide), if_neg (by decide), if_pos (by decide), u0, px_cv, u1, px_cv]
  · have c0 : xe σ σ := xe_rf σ
    obtain ⟨q0, u0, v0, w0⟩ := T 0 (by decide) c0 hx
    obtain ⟨q1, u1, v1, w1⟩ := T 1 (by decide) v0 w0
    change fx_Fitting_take _ 0 = some q0 at u0
    change fx_Fitting_take _ 1 = some q1 at u1
    refine ⟨q1, ?_, v1, w1⟩
    rw [if_neg (by decide), if_neg (by decide), if_neg (by decide), if_neg (by decide), if_neg (by decide), if_neg (by decide), if_neg (by decide), if_neg (by decide), if_neg (by decide), if_neg (by decide), if_neg (by decide), if_neg (by decide), if_neg (by decide), if_neg (by decide), if_neg (by decide), if_pos (by decide), u0, px_cv, u1, px_cv]
  · have c0 : xe σ σ := xe_rf σ
    obtain ⟨q0, u0, v0, w0⟩ := xc_tT hn c0 hx
    obtain ⟨q1, u1, v1, w1⟩ := xc_tT hn v0 w0
    obtain ⟨q2, u2, v2, w2⟩ := G 0 (by decide) v1 w1
    change fx_Fitting_put _ 0 = some q2 at u2
    refine ⟨q2, ?_, v2, w2⟩
    rw [if_neg (by decide), if_neg (by decide), if_neg (by decide), if_neg (by decide), if_neg (by decide), if_neg (by decide), if_neg (by decide), if_neg (by decide), if_neg (by decide), if_neg (by decide), if_neg (by decide), if_neg (by decide), if_neg (by decide), if_neg (by decide), if_neg (by decide), if_neg (by decide), if_pos (by decide), u0, px_cv, u1, px_cv, u2, px_cv]
  · obtain ⟨ρ, u, v, w⟩ := xr_putClass hB hx a
    exact ⟨ρ, by rw [if_neg (by decide), if_neg (by decide), if_neg (by decide), if_neg (by decide), if_neg (by decide), if_neg (by decide), if_neg (by decide), if_neg (by decide), if_neg (by decide), if_neg (by decide), if_neg (by decide), if_neg (by decide), if_neg (by decide), if_neg (by decide), if_neg (by decide), if_neg (by decide), if_neg (by decide), if_pos (by decide), u, px_cv], v, w⟩
  · obtain ⟨τ, h1, h2, h3, h4⟩ := xr_dem hx (cI 4 a)
    obtain ⟨q0, u0, v0, w0⟩ := T 0 (by decide) h2 h3
    obtain ⟨q1, u1, v1, w1⟩ := G 0 (by decide) v0 w0
    change fx_Fitting_take _ 0 = some q0 at u0
    change fx_Fitting_put _ 0 = some q1 at u1
    refine ⟨q1, ?_, v1, ?_⟩
    · rw [if_neg (by decide), if_neg (by decide), if_neg (by decide), if_neg (by decide), if_neg (by decide), if_neg (by decide), if_neg (by decide), if_neg (by decide), if_neg (by decide), if_neg (by decide), if_neg (by decide), if_neg (by decide), if_neg (by decide), if_neg (by decide), if_neg (by decide), if_neg (by decide), if_neg (by decide), if_neg (by decide), if_pos (by decide)]
      by_cases hc : cI 4 a
      · have h5 := (px_cI (n := 4) (by decide) a).mpr hc
        have h6 : ¬ (3 : Int32) < a := by
          obtain ⟨c, hc, rfl⟩ := hc
          rw [show (3 : Int32) = nI 3 by decide]
          exact nI_nlt (by omega) (by omega)
        rw [bP_t hc] at h1
        rw [if_neg h5.1, if_neg h6, h1, px_cv, u0, px_cv, u1, px_cv]
      · rw [bP_f hc] at h1
        by_cases h5 : a < 0
        · rw [if_pos h5, h1, px_cv, u0, px_cv, u1, px_cv]
        · have h6 : (3 : Int32) < a := by
            have h7 : (4 : Int32) ≤ a := Classical.not_not.mp (fun z => hc ((px_cI (n := 4) (by decide) a).mp ⟨h5, z⟩))
            rw [Int32.le_iff_toInt_le] at h7
            rw [Int32.lt_iff_toInt_lt]
            have : (4 : Int32).toInt = 4 := by decide
            have : (3 : Int32).toInt = 3 := by decide
            omega
          rw [if_neg h5, if_pos h6, h1, px_cv, u0, px_cv, u1, px_cv]
    · rw [tr_18]
      by_cases hc : cI 4 a
      · rw [cif_t hc] at w1 ⊢
        exact w1
      · rw [cif_f hc] at w1 ⊢
        exact w1
  · obtain ⟨ρ, u, v, w⟩ := xc_take hB (xe_rf σ) hx (B_m11 hB hm).1
    rw [← (B_m11 hB hm).2] at u
    exact ⟨ρ, by rw [if_neg (by decide), if_neg (by decide), if_neg (by decide), if_neg (by decide), if_neg (by decide), if_neg (by decide), if_neg (by decide), if_neg (by decide), if_neg (by decide), if_neg (by decide), if_neg (by decide), if_neg (by decide), if_neg (by decide), if_neg (by decide), if_neg (by decide), if_neg (by decide), if_neg (by decide), if_neg (by decide), if_neg (by decide), if_pos (by decide), px_rd e7 (by omega) (by decide), u, px_cv], v, w⟩
end XA
