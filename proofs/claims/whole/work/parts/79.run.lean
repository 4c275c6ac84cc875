/-! run, both sides -/
section RU
variable {s0 σ ρ : tx_St} {nC nF nM off md nh : Nat} {K : Nat → Nat} {τ : Nat → Nat → TS}
theorem pe_fi (h : pe s0 σ) {a b : Nat} : fi σ a b ↔ fi s0 a b := by
  unfold fi ln
  rw [h.1 2 (by decide)]
/-- a call from outside begins -/
theorem ex_e (hS : Sx s0 nC nF nM τ) {x r : Nat} (hx : x < nM) (hs : pe s0 σ) (hr : pe s0 ρ) (hh : hp s0 nC nF σ ρ K off md nh) (hmd : off + md ≤ 312) {a b a' b' : Int32} (h25 : ρ 45 25 = nI r) (hrec : ¬ stM s0 x → ∃ u, 1 ≤ u ∧ u ≤ md ∧ a = nI u ∧ a' = nI (off + u) ∧ fi s0 (K u) (N_ (s0 7 x) + 2)) (harg : ¬ s0 10 x = -1 → vr s0 K off md (N_ (s0 10 x)) b b') :
    ∃ q σ' ρ', fx_Machine_execute σ (nI x) a b = some (q, σ') ∧ ((q = 0 ∧ ∃ G', fx_Mo_run_b64 ρ (nI x) a' b' = fx_Mo_run_b106 (G' + 1) ρ' (nI x)) ∨ ((q = 1 ∨ q = 2 ∨ q = 3 ∨ q = 4) ∧ fx_Mo_run_b64 ρ (nI x) a' b' = some ((17179869184 : Int64) + q.toInt64, ρ'))) ∧ LPx s0 nC nF (N_ (s0 11 x)) off nh σ (tx_up ρ 45 25 (nI (r + 1))) K md 0 q σ' ρ' := by
  obtain ⟨σ2, hσ2⟩ : ∃ w, w = tx_up (tx_up σ 25 5 0) 25 6 0 := ⟨_, rfl⟩
  obtain ⟨ρ4, hρ4⟩ : ∃ w, w = tx_up (tx_up (tx_up (tx_up ρ 45 25 (nI (r + 1))) 45 26 0) 45 27 0) 45 28 0 := ⟨_, rfl⟩
  have sE : ∀ p, p ≠ 25 → σ2 p = σ p := fun p hp => by rw [hσ2, tx_up_ne _ _ _ hp, tx_up_ne _ _ _ hp]
  have rE : ∀ p, p ≠ 45 → ρ4 p = ρ p := fun p hp => by rw [hρ4, tx_up_ne _ _ _ hp, tx_up_ne _ _ _ hp, tx_up_ne _ _ _ hp, tx_up_ne _ _ _ hp]
  have r45 : ∀ j, j ≠ 25 → j ≠ 26 → j ≠ 27 → j ≠ 28 → ρ4 45 j = ρ 45 j := fun j h1 h2 h3 h4 => by rw [hρ4, px_upN (Or.inr h4), px_upN (Or.inr h3), px_upN (Or.inr h2), px_upN (Or.inr h1)]
  have r26 : ρ4 45 26 = nI 0 := by rw [hρ4, px_upN (Or.inr (by decide)), px_upN (Or.inr (by decide)), px_up, if_pos rfl, if_pos rfl]; rfl
  have r27 : ρ4 45 27 = nI 0 := by rw [hρ4, px_upN (Or.inr (by decide)), px_up, if_pos rfl, if_pos rfl]; rfl
  have r28 : ρ4 45 28 = nI 0 := by rw [hρ4, px_up, if_pos rfl, if_pos rfl]; rfl
  have s5 : σ2 25 5 = nI 0 := by rw [hσ2, px_upN (Or.inr (by decide)), px_up, if_pos rfl, if_pos rfl]; rfl
  have s6 : σ2 25 6 = nI 0 := by rw [hσ2, px_up, if_pos rfl, if_pos rfl]; rfl
  have pσ : pe s0 σ2 := ⟨fun p hp => (sE p (by omega)).trans (hs.1 p hp), fun j hj => by rw [sE 45 (by decide)]; exact hs.2 j hj⟩
  have pρ : pe s0 ρ4 := ⟨fun p hp => (rE p (by omega)).trans (hr.1 p hp), fun j hj => (r45 j (by omega) (by omega) (by omega) (by omega)).trans (hr.2 j hj)⟩
  have hh2 : hp s0 nC nF σ2 ρ4 K off md nh := hp_eq hh (fun p p1 p2 => sE p (by omega)) (fun p p1 p2 => rE p (by omega)) (r45 20 (by decide) (by decide) (by decide) (by decide)) (r45 23 (by decide) (by decide) (by decide) (by decide))
  obtain ⟨m', σ3, ρ5, n1, n2, n3, n4, n5, n6, n7, n8⟩ := en_e hS (k := 0) hx (by decide) pσ pρ hh2 (by omega) s5 r28 hrec harg
  have hR : HR σ σ3 := fun p hp => (n7.1 p (by omega) (by omega)).trans (sE p (by omega))
  have hQ : HQ (tx_up ρ 45 25 (nI (r + 1))) ρ5 := by
    refine ⟨fun p hp => (n8.1 p (by omega) (by omega)).trans ((rE p (by omega)).trans (tx_up_ne _ _ _ (by omega)).symm), fun j j1 j2 j3 j4 j5 => ?_⟩
    rw [n8.2.1 j j4, hρ4, px_upN (Or.inr j4), px_upN (Or.inr j3), px_upN (Or.inr j2)]
  have p3 : pe s0 σ3 := ⟨fun p hp => (hR p (by omega)).trans (hs.1 p hp), fun j hj => by rw [hR 45 (by omega)]; exact hs.2 j hj⟩
  have p5 : pe s0 ρ5 := ⟨fun p hp => (n8.1 p (by omega) (by omega)).trans (pρ.1 p hp), fun j hj => (n8.2.1 j (by omega)).trans (pρ.2 j hj)⟩
  have hh3 : hp s0 nC nF σ3 ρ5 K off md nh := hp_eq hh2 (fun p p1 p2 => n7.1 p (by omega) (by omega)) (fun p p1 p2 => n8.1 p (by omega) (by omega)) (n8.2.1 20 (by decide)) (n8.2.1 23 (by decide))
  have hRN : RN s0 nC nF nM τ (N_ (s0 11 x)) off nh σ3 ρ5 K md 0 1 (fun _ => (m', 0, ent s0 m')) := by
    refine ⟨⟨p3, p5⟩, hh3, ⟨n8.2.2.1, n7.2.2, by omega, by omega⟩, ⟨?_, ?_, by omega, by omega⟩, fun k hk => ⟨⟨n1, (hS.2.1 m' n1).1, by rw [ent_1]; decide⟩, ?_⟩, (hS.2.1 m' n1).2.1.symm, fun k hk => by omega, by rw [n2]⟩
    · rw [n7.2.1 6 (by decide)]; exact s6
    · rw [n8.2.1 27 (by decide)]; exact r27
    · have : k = 0 := by omega
      subst this
      exact n6
  obtain ⟨q, σ', ρ', l1, l2, l3⟩ := lp_e hS (nI x) 64 1 tx_fu tx_fu (tx_up σ3 25 0 1) ρ5 K md 0 1 _ (by omega) (by omega) (by unfold tx_fu; omega) (by unfold tx_fu; omega) (RN_c hRN 1) (by rw [px_up, if_pos rfl, if_pos rfl]; rfl) (by rw [n8.2.1 26 (by decide)]; exact r26)
  refine ⟨q, σ', ρ', ?_, ?_, ⟨HR_tr hR (HR_tr (HR_u _ (by decide)) l3.1.1), HQ_tr hQ l3.1.2⟩, l3.2⟩
  · unfold fx_Machine_execute
    rw [px_pt, px_pt, ← hσ2, n3, px_cv, px_pt]
    exact l1
  · have e : fx_Mo_run_b64 ρ (nI x) a' b' = fx_Mo_run_b106 tx_fu ρ5 (nI x) := by
      unfold fx_Mo_run_b64
      rw [px_pt, px_pt, px_pt, px_pt, h25, nI_1, ← hρ4, n4, px_ci, n5, px_cv]
    rw [e]
    exact l2
/-- the receiver -/
theorem rc_e (hS : Sx s0 nC nF nM τ) {x r : Nat} (hx : x < nM) (hs : pe s0 σ) (hr : pe s0 ρ) (hh : hp s0 nC nF σ ρ K off md nh) (hmd : off + md ≤ 320) (h16 : ¬ ρ 45 16 = 0) (h25 : ρ 45 25 = nI r) (hr40 : r < 40) (x2 x3 : Int32) :
    (∃ a a', fx_X_receiverFits σ (nI x) x2 = some (1, σ) ∧ fx_Mo_refuses ρ (nI x) x2 x3 = fx_Mo_refuses_b85 ρ (nI x) x3 ∧ (∀ w : tx_St, w 21 = σ 21 → w 24 = σ 24 → fx_Heap_inHandle w x2 = some (a, w)) ∧ (tx_rd ρ 52 8 (nI x) fun v4 => (if v4 = 0 then tx_rd ρ 63 16 x2 fun v6 => fx_Mo_run_b33 ρ (nI x) x3 v6 else fx_Mo_run_b33 ρ (nI x) x3 (0 : Int32))) = fx_Mo_run_b33 ρ (nI x) x3 a' ∧ (¬ stM s0 x → ∃ u, 1 ≤ u ∧ u ≤ md ∧ a = nI u ∧ a' = nI (off + u) ∧ fi s0 (K u) (N_ (s0 7 x) + 2))) ∨ (fx_X_receiverFits σ (nI x) x2 = some (0, σ) ∧ fx_Mo_refuses ρ (nI x) x2 x3 = some (1, ρ)) := by
  have hb := B_n hS.1
  have hBr := pe_B hS.1 hr
  have h8 : σ 8 = s0 8 := hs.1 8 (by decide)
  have h52 : ρ 52 x = s0 8 x := by rw [hr.1 52 (by decide), hS.1.1.2.2.2.2.2.1]
  have h51 : ρ 51 x = s0 7 x := by rw [hr.1 51 (by decide), hS.1.1.2.2.2.2.1]
  have h7 : σ 7 x = s0 7 x := by rw [hs.1 7 (by decide)]
  have hst : stM σ x ↔ stM s0 x := by unfold stM; rw [h8]
  obtain ⟨k1, k2⟩ := B_m7 hS.1 hx
  have m7 : ρ 45 7 = nI nM := hBr.1.1.2.2.trans hBr.2.2.1.2.2
  have hm : b01 (¬ nI x < 0 ∧ ¬ ρ 45 7 ≤ nI x) = 1 := by
    rw [m7, b01, if_pos ((px_in (by omega)).mpr ⟨x, hx, rfl⟩)]
  have n40 : ¬ ρ 45 25 = 40 := fun z => by
    rw [h25] at z
    have := (nI_eq (b := 40) (by omega) (by decide)).mp z
    omega
  unfold fx_X_receiverFits fx_Mo_refuses fx_Mo_refuses_b24 fx_Mo_refuses_b83
  rw [fx_Plan_isStaticMethod_e (by omega), px_ci, if_neg h16, if_neg n40, fx_Mo_isMethod_e, px_ci, hm, if_neg (show ¬ (1 : Int32) = 0 by decide), px_rd (j := x) rfl (by omega) (by decide), px_rd (j := x) rfl (by omega) (by decide), h52]
  rcases B_m8 hS.1 hx with ⟨g1, g2⟩ | ⟨g1, g2⟩
  · rw [bP_f (fun z => g1 (hst.mp z)), if_pos rfl, g2, if_pos rfl, if_pos rfl]
    rcases ha_e hh x2 with ⟨h, u, w1, rfl, w2, w3, w4, w5, w6, w7⟩ | ⟨w1, w2, w3⟩
    · obtain ⟨hK, hT⟩ := hh.2.1
      obtain ⟨v1, v2, -, -⟩ := hT u w2 w3
      obtain ⟨q1, q2⟩ := hK u w2 w3
      have c3 := hh.2.2.2.2.1
      have eo : nI (off + u) - 1 = nI (off + u - 1) := by
        have := px_s1 (off + u - 1)
        rw [show off + u - 1 + 1 = off + u by omega] at this
        exact this
      have e7 : (2 : Int32) + s0 7 x = nI (N_ (s0 7 x) + 2) := by rw [k2, px_2, N_nI (by omega)]
      rw [w6 σ rfl rfl, px_ci, px_rd (j := u) rfl (by omega) (by decide), v1, px_rd (j := x) rfl (by omega) (by decide), h7, e7, fx_Plan_fits_e (by omega) (by omega), px_ci, px_rz bP_r, w7, px_ci, if_neg (show ¬ (1 : Int32) = 0 by decide), px_rd (j := h) rfl (by omega) (by decide), w5, eo, px_rd (j := off + u - 1) rfl (by omega) (by decide), v2, px_rd (j := x) rfl (by omega) (by decide), h51, px_rd (j := h) rfl (by omega) (by decide), w5]
      by_cases hK2 : K u < 2
      · rw [if_pos (show nI (K u) < 2 from (nI_ltI (b := 2) (by omega) (by decide)).mpr hK2)]
        refine Or.inr ⟨?_, rfl⟩
        rw [bP_f]
        intro z
        have := fi_cl ((pe_fi hs).mp z)
        omega
      · have eK : nI (K u) - 2 = nI (K u - 2) := by
          have := px_m2 (d := K u - 2)
          rw [show K u - 2 + 2 = K u by omega] at this
          exact this
        have e7' : s0 7 x = nI (N_ (s0 7 x)) := k2
        rw [if_neg (show ¬ nI (K u) < 2 from fun z => hK2 ((nI_ltI (b := 2) (by omega) (by decide)).mp z)), eK, e7', N_nI (by omega), fx_Mo_inLine_e hb.1 (B_C hBr) (by omega) (by omega), px_ci]
        have hfl : fi σ (K u) (N_ (s0 7 x) + 2) ↔ ln ρ (K u - 2) (N_ (s0 7 x)) := by
          rw [pe_fi hs]
          have e2 : ρ 2 = s0 2 := hr.1 2 (by decide)
          unfold ln
          rw [e2]
          constructor
          · intro z
            rcases fi_cl z with ⟨z1, z2 | z2⟩
            · rw [z2, Nat.add_sub_cancel]
              exact ln_rf hb.1 (B_C hS.1) k1
            · exact z2
          · intro z
            exact Or.inr ⟨by omega, by omega, by rw [Nat.add_sub_cancel]; exact z⟩
        rcases Classical.em (fi σ (K u) (N_ (s0 7 x) + 2)) with hf | hf
        · rw [bP_t hf, bP_t (hfl.mp hf), if_neg (show ¬ (1 : Int32) = 0 by decide)]
          exact Or.inl ⟨nI u, nI (off + u), rfl, rfl, w6, rfl, fun _ => ⟨u, w2, w3, rfl, rfl, (pe_fi hs).mp hf⟩⟩
        · rw [bP_f hf, bP_f (fun z => hf (hfl.mpr z)), if_pos rfl]
          exact Or.inr ⟨rfl, rfl⟩
    · have e7 : (2 : Int32) + s0 7 x = nI (N_ (s0 7 x) + 2) := by rw [k2, px_2, N_nI (by omega)]
      have h22 := hh.1.2.2
      rw [w2 σ rfl rfl, px_ci, px_rd (i := 0) (j := 0) rfl (by decide) (by decide), h22, px_rd (j := x) rfl (by omega) (by decide), h7, e7, fits_m1 (by omega), px_ci, px_rz (Or.inl rfl), w3, px_ci, if_pos rfl]
      exact Or.inr ⟨rfl, rfl⟩
  · rw [bP_t (hst.mpr g1), if_neg (show ¬ (1 : Int32) = 0 by decide), g2, if_neg (show ¬ (1 : Int32) = 0 by decide), if_neg (show ¬ (1 : Int32) = 0 by decide)]
    rcases ha_e hh x2 with ⟨h, u, w1, rfl, w2, w3, w4, w5, w6, w7⟩ | ⟨w1, w2, w3⟩
    · exact Or.inl ⟨nI u, 0, rfl, rfl, w6, rfl, fun z => absurd g1 z⟩
    · exact Or.inl ⟨0, 0, rfl, rfl, w2, rfl, fun z => absurd g1 z⟩
/-- the argument -/
theorem ar_e (hS : Sx s0 nC nF nM τ) {x : Nat} (hx : x < nM) (hs : pe s0 σ) (hr : pe s0 ρ) (hh : hp s0 nC nF σ ρ K off md nh) (hmd : off + md ≤ 320) (x2 x3 : Int32) :
    (∃ b b', fx_X_argumentFits σ (nI x) x3 = some (1, σ) ∧ fx_Mo_refuses_b85 ρ (nI x) x3 = some (0, ρ) ∧ (∀ w : tx_St, w 21 = σ 21 → w 24 = σ 24 → w 10 = σ 10 → (tx_rd w 10 8 (nI x) fun v13 => (if v13 = 0 then fx_X_run_b80 w (nI x) x2 x3 (1 : Int32) else fx_X_run_b80 w (nI x) x2 x3 (0 : Int32))) = fx_X_run_b99 w (nI x) x2 b) ∧ (∀ a', fx_Mo_run_b33 ρ (nI x) x3 a' = fx_Mo_run_b64 ρ (nI x) a' b') ∧ (¬ s0 10 x = -1 → vr s0 K off md (N_ (s0 10 x)) b b')) ∨ (fx_X_argumentFits σ (nI x) x3 = some (0, σ) ∧ fx_Mo_refuses_b85 ρ (nI x) x3 = some (1, ρ)) := by
  have hb := B_n hS.1
  have hBr := pe_B hS.1 hr
  have h10 : σ 10 x = s0 10 x := by rw [hs.1 10 (by decide)]
  have h54 : ρ 54 x = s0 10 x := by rw [hr.1 54 (by decide), hS.1.1.2.2.2.2.2.2.2.1]
  unfold fx_X_argumentFits fx_X_argumentFits_b24 fx_Mo_refuses_b85 fx_Mo_refuses_b100 fx_Mo_refuses_b136 fx_Mo_refuses_b141 fx_X_run_b80 fx_Mo_run_b33
  rw [px_rd (j := x) rfl (by omega) (by decide), px_rd (j := x) rfl (by omega) (by decide), h10, h54]
  have cl : ∀ w : tx_St, w 21 = σ 21 → w 24 = σ 24 → ∃ v, ∀ w : tx_St, w 21 = σ 21 → w 24 = σ 24 → fx_Heap_inHandle w x3 = some (v, w) := by
    intro w _ _
    rcases ha_e hh x3 with ⟨h, u, w1, rfl, w2, w3, w4, w5, w6, w7⟩ | ⟨w1, w2, w3⟩
    · exact ⟨nI u, w6⟩
    · exact ⟨0, w2⟩
  rcases B_m10 hS.1 hx with hq | ⟨hq1, hq2⟩
  · obtain ⟨v, hv⟩ := cl σ rfl rfl
    rw [hq, if_pos rfl, if_pos (by decide)]
    refine Or.inl ⟨v, x3, rfl, rfl, fun w w1 w2 w3 => ?_, fun a' => ?_, fun z => absurd rfl z⟩
    · rw [px_rd (j := x) rfl (by omega) (by decide), w3, h10, hq, if_neg (by decide), if_pos rfl, hv w w1 w2, px_ci]
    · rw [px_rd (j := x) rfl (by omega) (by decide), h54, hq, if_neg (by decide)]
  · generalize ht : N_ (s0 10 x) = t at *
    rw [hq2, if_neg (nI_m1 (by omega))]
    by_cases ht0 : t = 0
    · subst ht0
      rw [if_pos (show nI 0 = 0 from rfl), if_pos (show nI 0 < 1 by decide)]
      refine Or.inl ⟨x3, x3, rfl, rfl, fun w w1 w2 w3 => ?_, fun a' => ?_, fun _ => vr_0.mpr rfl⟩
      · rw [px_rd (j := x) rfl (by omega) (by decide), w3, h10, hq2, if_pos (show nI 0 = 0 from rfl), if_neg (show ¬ (1 : Int32) = 0 by decide)]
      · rw [px_rd (j := x) rfl (by omega) (by decide), h54, hq2, if_neg (by decide)]
    · have t0 : ¬ nI t = 0 := nI_ne0 (by omega) (by omega)
      have t1 : ¬ nI t < 1 := fun z => by
        have := (nI_ltI (b := 1) (by omega) (by decide)).mp z
        omega
      have t2 : (1 : Int32) ≤ nI t := (nI_leI (a := 1) (by decide) (by omega)).mpr (by omega)
      rw [if_neg t0, if_neg t1]
      by_cases h3 : x3 = -1
      · rw [if_pos h3, if_pos h3]
        refine Or.inl ⟨0, 0, rfl, rfl, fun w w1 w2 w3 => ?_, fun a' => ?_, fun _ => vr_null⟩
        · rcases ha_e hh x3 with ⟨h, u, z1, z2, -⟩ | ⟨-, z2, -⟩
          · rw [h3] at z2
            have c3 := hh.2.2.2.2.1
            exact absurd z2.symm (nI_m1 (by omega))
          · rw [px_rd (j := x) rfl (by omega) (by decide), w3, h10, hq2, if_neg t0, if_pos rfl, z2 w w1 w2, px_ci]
        · rw [px_rd (j := x) rfl (by omega) (by decide), h54, hq2, if_pos t2, if_pos h3]
      · rw [if_neg h3, if_neg h3]
        rcases ha_e hh x3 with ⟨h, u, w1, rfl, w2, w3, w4, w5, w6, w7⟩ | ⟨w1, w2, w3⟩
        · obtain ⟨hK, hT⟩ := hh.2.1
          obtain ⟨v1, v2, -, -⟩ := hT u w2 w3
          obtain ⟨q1, q2⟩ := hK u w2 w3
          have c3 := hh.2.2.2.2.1
          have eo : nI (off + u) - 1 = nI (off + u - 1) := by
            have := px_s1 (off + u - 1)
            rw [show off + u - 1 + 1 = off + u by omega] at this
            exact this
          rw [w6 σ rfl rfl, px_ci, px_rd (j := u) rfl (by omega) (by decide), v1, fx_Plan_fits_e (by omega) (by omega), px_ci, px_rz bP_r, w7, px_ci, if_neg (show ¬ (1 : Int32) = 0 by decide), px_rd (j := h) rfl (by omega) (by decide), w5, eo, px_rd (j := off + u - 1) rfl (by omega) (by decide), v2, px_rd (j := x) rfl (by omega) (by decide), h54, hq2, fx_Mo_fits_e hBr (by omega) (by omega), px_ci]
          rcases Classical.em (fi s0 (K u) t) with hf | hf
          · rw [bP_t ((pe_fi hs).mpr hf), bP_t ((pe_fi hr).mpr hf), if_neg (show ¬ (1 : Int32) = 0 by decide), px_rz (Or.inl rfl)]
            refine Or.inl ⟨nI u, nI (off + u), rfl, rfl, fun w z1 z2 z3 => ?_, fun a' => ?_, fun _ => Or.inr ⟨by omega, Or.inr ⟨u, w2, w3, rfl, rfl, hf⟩⟩⟩
            · rw [px_rd (j := x) rfl (by omega) (by decide), z3, h10, hq2, if_neg t0, if_pos rfl, w6 w z1 z2, px_ci]
            · rw [px_rd (j := x) rfl (by omega) (by decide), h54, hq2, if_pos t2, if_neg h3, px_rd (j := h) rfl (by omega) (by decide), w5]
          · rw [bP_f (fun z => hf ((pe_fi hs).mp z)), bP_f (fun z => hf ((pe_fi hr).mp z)), if_pos rfl, px_rz (Or.inr rfl)]
            exact Or.inr ⟨rfl, rfl⟩
        · have h22 := hh.1.2.2
          rw [w2 σ rfl rfl, px_ci, px_rd (i := 0) (j := 0) rfl (by decide) (by decide), h22, fits_m1 (by omega), px_ci, px_rz (Or.inl rfl), w3, px_ci, if_pos rfl, px_rz (Or.inr rfl)]
          exact Or.inr ⟨rfl, rfl⟩
end RU
