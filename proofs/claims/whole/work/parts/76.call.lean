/-! a call, both sides -/
section CA
variable {s0 σ ρ : tx_St} {nC nF nM R0 off md nh mc : Nat} {K : Nat → Nat} {τ : Nat → Nat → TS} {fr : Nat → Nat × Nat × TS}
/-- the param is popped -/
theorem ca_p (hS : Sx s0 nC nF nM τ) {σ3 ρ6 : tx_St} {k m i x : Nat} {s sB : TS} (hx : x < nM) (hk : k < 6) (hs : pe s0 σ3) (hr : pe s0 ρ6) (hK : okK nC md K) (hT : TF (vr s0 K off md) σ3 ρ6 k m i s) (h28 : ρ6 45 28 = nI (k + 1)) (hok : okS (nC + 2) s) (ht : cif (s0 10 x = -1) (some s) (tk s0 (N_ (s0 10 x)) s) = some sB) (v : Int32) :
    ∃ b b' σA ρA, fx_Machine_callMethod_b16 σ3 (27 + 3 * k) (nI x) v = fx_Machine_callMethod_b38 σA (27 + 3 * k) (nI x) v b ∧ fx_Mo_call ρ6 (nI x) = fx_Mo_call_b17 ρA (nI x) b' ∧ (¬ s0 10 x = -1 → vr s0 K off md (N_ (s0 10 x)) b b') ∧ TF (vr s0 K off md) σA ρA k m i sB ∧ eC k σ3 σA ∧ eM k ρ6 ρA ∧ ρA 45 28 = nI (k + 1) ∧ okS (nC + 2) sB := by
  have hb := B_n hS.1
  have h10 : σ3 10 x = s0 10 x := by rw [hs.1 10 (by decide)]
  have h54 : ρ6 54 x = s0 10 x := by rw [hr.1 54 (by decide), hS.1.1.2.2.2.2.2.2.2.1]
  unfold fx_Machine_callMethod_b16 fx_Mo_call
  rw [px_rd (j := x) rfl (by omega) (by decide), px_rd (j := x) rfl (by omega) (by decide), h10, h54]
  rcases B_m10 hS.1 hx with hq | ⟨hq1, hq2⟩
  · rw [cif_t hq] at ht
    cases ht
    rw [hq, if_pos rfl, if_neg (by decide)]
    exact ⟨0, 0, σ3, ρ6, rfl, rfl, fun z => absurd rfl z, hT, eC_rf _ _, eM_rf _ _, h28, hok⟩
  · have hn1 : ¬ s0 10 x = -1 := fun z => by
      rw [hq2] at z
      have := nI_pos (n := N_ (s0 10 x)) (by omega)
      rw [z] at this
      exact this (by decide)
    have h0 : (0 : Int32) ≤ s0 10 x := by
      rw [hq2]
      exact (nI_leI (a := 0) (by decide) (by omega)).mpr (by omega)
    rw [cif_f hn1] at ht
    rw [if_neg hn1, if_pos h0]
    obtain ⟨b, b', σA, ρA, b1, b2, b3, b4, b5, b6, b7, b8⟩ := pp_take hS.1 hK hq1 h28 hk hT hok ht
    rw [b1, b2, px_ci, px_ci]
    exact ⟨b, b', σA, ρA, rfl, rfl, fun _ => b3, b4, b5, b6, b7, b8⟩
/-- the callee is entered, or there is no room -/
theorem ca_f (hS : Sx s0 nC nF nM τ) {k m i x : Nat} (h : RN s0 nC nF nM τ R0 off nh σ ρ K md mc (k + 1) fr) (hm : (fr k).1 = m) {σB ρB : tx_St} {sB s : TS} (hx : x < nM) (hC : eC k σ σB) (hM : eM k ρ ρB) (hT : TF (vr s0 K off md) σB ρB k m (i + 1) sB) (hok : okS (nC + 2) sB) (hg : gv (N_ (s0 11 x)) sB = some s) (hn : i + 1 < N_ (s0 12 m) ∧ τ m (i + 1) = s) {a b a' b' : Int32} (hrec : ¬ stM s0 x → ∃ u, 1 ≤ u ∧ u ≤ md ∧ a = nI u ∧ a' = nI (off + u) ∧ fi s0 (K u) (N_ (s0 7 x) + 2)) (harg : ¬ s0 10 x = -1 → vr s0 K off md (N_ (s0 10 x)) b b') :
    ∃ r σ' ρ', fx_Machine_callMethod_b65 σB (nI x) b a = some (r, σ') ∧ fx_Mo_call_b52 ρB (nI x) b' a' = some (r, ρ') ∧ OUT s0 nC nF nM τ R0 off nh σ ρ K md mc r σ' ρ' := by
  obtain ⟨h1, h2, ⟨h3, h4, h5, h6⟩, ⟨h7, h7b, h7c, h7d⟩, h8, h9, h10, h11⟩ := h
  have hb := B_n hS.1
  have s5 : σB 25 5 = nI (k + 1) := by rw [hC 25 (by omega)]; exact h4
  have s28 : ρB 45 28 = nI (k + 1) := by rw [hM.1 45 (by decide)]; exact h3
  have hhB := hp_e h2 hC hM
  have pB : pe s0 σB := pe_H h1.1 (HC_G (by omega) (GC_e hC))
  have pR : pe s0 ρB := pe_HM h1.2 (HM_G (GM_e hM))
  unfold fx_Machine_callMethod_b65 fx_Mo_call_b52
  rw [s5, s28]
  by_cases hu : k + 1 = 6
  · rw [if_pos (show nI (k + 1) = 6 by rw [hu]; rfl), if_pos (show nI (k + 1) = 6 by rw [hu]; rfl)]
    exact ⟨3, σB, ρB, rfl, rfl, ⟨HC_G (by omega) (GC_e hC), HM_G (GM_e hM)⟩, K, md, mc, hhB, ⟨Nat.le_refl _, fun _ _ => rfl, rfl, h7c⟩, Or.inr (Or.inr (Or.inr (Or.inl rfl)))⟩
  · have hn6 : ¬ nI (k + 1) = 6 := fun z => hu ((nI_eq (b := 6) (by omega) (by decide)).mp z)
    rw [if_neg hn6, if_neg hn6]
    obtain ⟨m', σ', ρ', n1, n2, n3, n4, n5, n6, n7, n8⟩ := en_e hS (k := k + 1) hx (by omega) pB pR hhB (by omega) s5 s28 hrec harg
    rw [n3, n4, px_cv, px_ci, n5, px_cv]
    have hC' : HC σ σ' := ⟨fun p hp => (n7.1 p (by omega) (by omega)).trans (hC p (by omega)), by rw [n7.2.1 0 (by decide), hC 25 (by omega)]⟩
    have hM' : HM ρ ρ' := ⟨fun p hp => (n8.1 p (by omega) (by omega)).trans (hM.1 p (by omega)), fun j _ _ q _ => by rw [n8.2.1 j q, hM.1 45 (by decide)]⟩
    have hh' : hp s0 nC nF σ' ρ' K off md nh := hp_eq hhB (fun p p1 p2 => n7.1 p (by omega) (by omega)) (fun p p1 p2 => n8.1 p (by omega) (by omega)) (n8.2.1 20 (by decide)) (n8.2.1 23 (by decide))
    obtain ⟨g1, g2⟩ := gv_inv hg
    have up : ∀ {q m i : Nat} {s : TS}, q < k + 1 → s.1.length ≤ 4 → TF (vr s0 K off md) σB ρB q m i s → TF (vr s0 K off md) σ' ρ' q m i s := fun {q m i s} hq hs ht => TF_up ht hs (fun _ _ _ h => h) (fun p p1 p2 => n7.1 p (by omega) (by omega)) (n8.2.2.2.1 q (by omega)) (fun j q1 q2 => n8.2.2.2.2.1 j (by omega)) (fun j q1 q2 => n8.2.2.2.2.2 j (by omega))
    refine ⟨0, σ', ρ', rfl, rfl, ⟨hC', hM'⟩, K, md, mc, hh', ⟨Nat.le_refl _, fun _ _ => rfl, rfl, h7c⟩, Or.inl ⟨rfl, k + 2, uF (uF fr k (m, i + 1, sB)) (k + 1) (m', 0, ent s0 m'), ⟨pe_H h1.1 hC', pe_HM h1.2 hM'⟩, hh', ⟨n8.2.2.1, n7.2.2, by omega, by omega⟩, ⟨?_, ?_, h7c, h7d⟩, fun q hq => ?_, ?_, fun q hq => ?_, ?_⟩⟩
    · rw [n7.2.1 6 (by decide), hC 25 (by omega)]; exact h7
    · rw [n8.2.1 27 (by decide), hM.1 45 (by decide)]; exact h7b
    · by_cases q1 : q = k + 1
      · subst q1
        rw [uF_e rfl]
        exact ⟨⟨n1, (hS.2.1 m' n1).1, by rw [ent_1]; decide⟩, n6⟩
      · rw [uF_n q1]
        by_cases q2 : q = k
        · subst q2
          rw [uF_e rfl]
          refine ⟨⟨?_, hn.1, hok.1⟩, up (by omega) hok.1 hT⟩
          rw [← hm]
          exact (h8 q (by omega)).1.1
        · rw [uF_n q2]
          obtain ⟨w1, w2⟩ := h8 q (by omega)
          exact ⟨w1, up (by omega) w1.2.2 (TF_ne w2 w1.2.2 (fun z => q2 z.symm) hC hM)⟩
    · rw [uF_e (show k + 2 - 1 = k + 1 by omega)]
      exact (hS.2.1 m' n1).2.1.symm
    · have q0 : ¬ q = k + 1 := by omega
      rw [uF_n q0]
      by_cases q2 : q = k
      · subst q2
        rw [uF_e rfl, uF_e rfl]
        show τ m (i + 1) = (N_ (s0 11 m') :: sB.1, sB.2)
        rw [hn.2, g2, n2]
      · rw [uF_n q2, uF_n (show ¬ q + 1 = k + 1 by omega), h10 q (by omega)]
        by_cases q3 : q + 1 = k
        · rw [uF_e q3, q3, hm]
        · rw [uF_n q3]
    · rw [uF_n (show ¬ 0 = k + 1 by omega)]
      by_cases q3 : 0 = k
      · rw [uF_e q3, ← h11, q3, hm]
      · rw [uF_n q3]
        exact h11
theorem OUT_12 {un : Nat} (hS : Sx s0 nC nF nM τ) (h : RN s0 nC nF nM τ R0 off nh σ ρ K md mc un fr) (e : s0 13 (12 * (fr (un - 1)).1 + (fr (un - 1)).2.1) = (12 : Int32)) : ∃ r σ' ρ', fx_Machine_step σ (27 + 3 * (un - 1)) = some (r, σ') ∧ fx_Mo_once ρ = some (r, ρ') ∧ OUT s0 nC nF nM τ R0 off nh σ ρ K md mc r σ' ρ' := by
  have hSS := RN_SS h
  obtain ⟨c0, c1, c2, c3⟩ := SS_C hSS
  obtain ⟨d0, d1, d2, d3, d4, d5⟩ := SS_M hS hSS
  obtain ⟨σ3, ρ6, e3, e6, a1, a2, a3, a4, a5, a6, hx, a8, a9⟩ := SS_adv hS hSS
  obtain ⟨m1, m2⟩ := hSS.2.2.2.2.1
  have hpe := hSS.1
  have hb := B_n hS.1
  obtain ⟨k, rfl⟩ : ∃ k, un = k + 1 := ⟨un - 1, by have := h.2.2.1.2.2.1; omega⟩
  simp only [Nat.add_sub_cancel] at *
  have hmd : off + md ≤ 320 := by
    have := h.2.2.2.1
    omega
  have hh0 := h.2.1
  have hmc := h.2.2.2.1.2.2.1
  generalize hm : (fr k).1 = m at *
  generalize hi : (fr k).2.1 = i at *
  obtain ⟨s, t1, t2, t3⟩ := nx_s hS m1 m2 (op := 12) (by decide) e
  have hn := nx_1 hS m1 m2 (by rw [e]; decide) (by rw [e]; decide) (by rw [e]; decide) t3
  rw [tr_12] at t1
  obtain ⟨⟨x, hx2, ha⟩, t1⟩ := cif_some t1
  rw [ha, N_nI (by omega)] at t1
  unfold t_ca at t1
  obtain ⟨sA, hA, hg⟩ := bnd t1
  have eS := stp_12 c0 c1 c2 c3 hx e
  have eO := onc_12 d0 d1 d2 d3 d4 d5 hx e
  rw [← e3, ha] at eS
  rw [← e6, ha] at eO
  have p3 : pe s0 σ3 := pe_H hpe.1 (HC_G (by omega) (GC_e a1))
  have p6 : pe s0 ρ6 := pe_HM hpe.2 (HM_G (GM_e a2))
  have h8 : σ3 8 = s0 8 := p3.1 8 (by decide)
  have hst : stM σ3 x ↔ stM s0 x := by unfold stM; rw [h8]
  have fin : ∀ {u v : Option (Int32 × tx_St)} , (∃ r σ' ρ', u = some (r, σ') ∧ v = some (r, ρ') ∧ OUT s0 nC nF nM τ R0 off nh σ ρ K md mc r σ' ρ') → fx_Machine_step σ (27 + 3 * k) = tx_ci u (fun r w => some (r, w)) → fx_Mo_once ρ = tx_ci v (fun r w => some (r, w)) → ∃ r σ' ρ', fx_Machine_step σ (27 + 3 * k) = some (r, σ') ∧ fx_Mo_once ρ = some (r, ρ') ∧ OUT s0 nC nF nM τ R0 off nh σ ρ K md mc r σ' ρ' := by
    rintro u v ⟨r, σ', ρ', rfl, rfl, ho⟩ q1 q2
    exact ⟨r, σ', ρ', q1, q2, ho⟩
  refine fin ?_ eS eO
  clear fin eS eO
  unfold fx_Machine_callMethod
  rw [fx_Plan_isStaticMethod_e (by omega), px_ci]
  rcases B_m8 hS.1 hx2 with ⟨g1, g2⟩ | ⟨g1, g2⟩
  · rw [bP_f (fun z => g1 (hst.mp z)), if_pos rfl]
    rw [cif_f g1] at hA
    obtain ⟨sB, hB1, hB2⟩ := bnd hA
    obtain ⟨b, b', σA, ρA, b1, b2, b3, b4, b5, b6, b7, b8⟩ := ca_p hS hx2 a8 p3 p6 a6 a3 a4 a5 hB1 1
    have h7 := (B_m7 hS.1 hx2).1
    obtain ⟨a, a', σB, ρB, r1, r2, r3, r4, r5, r6, r7, r8⟩ := pp_take hS.1 a6 (show N_ (s0 7 x) + 2 < nC + 2 by omega) b7 a8 b4 b8 hB2
    have h52 : ∀ w : tx_St, pe s0 w → w 52 x = 0 := fun w hw => by rw [hw.1 52 (by decide), hS.1.1.2.2.2.2.2.1]; exact g2
    have pA : pe s0 ρA := pe_HM p6 (HM_G (GM_e b6))
    have pB : pe s0 ρB := pe_HM pA (HM_G (GM_e r6))
    rw [b1, b2]
    unfold fx_Machine_callMethod_b38 fx_Machine_callMethod_b52 fx_Mo_call_b17 fx_Mo_call_b36
    rw [if_neg (show ¬ (1 : Int32) = 0 by decide), r1, px_ci, if_neg (show ¬ (1 : Int32) = 0 by decide), px_rd (j := x) rfl (by omega) (by decide), h52 ρA pA, if_neg (show ¬ (0 : Int32) = 1 by decide), r2, px_ci, px_rd (j := x) rfl (by omega) (by decide), h52 ρB pB, if_pos rfl]
    have aC := eC_tr (eC_tr a1 b5) r5
    have aM := eM_tr (eM_tr a2 b6) r6
    have hhB := hp_e hh0 aC aM
    rcases th_e hhB (by omega) r3 with ⟨rfl, rfl⟩ | ⟨u, u1, u2, rfl, rfl, u5, u6, u7⟩
    · rw [if_pos rfl, if_pos rfl]
      exact ⟨1, σB, ρB, rfl, rfl, ⟨HC_G (by omega) (GC_e aC), HM_G (GM_e aM)⟩, K, md, mc, hhB, ⟨Nat.le_refl _, fun _ _ => rfl, rfl, hmc⟩, Or.inr (Or.inr (Or.inl rfl))⟩
    · have z1 : ¬ nI u = 0 := fun z => by have := (nI_z (by omega)).mp z; omega
      have z2 : ¬ nI (off + u) = 0 := fun z => by have := (nI_z (by omega)).mp z; omega
      rw [if_neg z1, if_neg z2]
      exact ca_f hS h hm hx2 aC aM r4 r8 hg hn (fun _ => ⟨u, u1, u2, rfl, rfl, u5⟩) b3
  · rw [bP_t (hst.mpr g1), if_neg (by decide)]
    rw [cif_t g1] at hA
    obtain ⟨b, b', σA, ρA, b1, b2, b3, b4, b5, b6, b7, b8⟩ := ca_p hS hx2 a8 p3 p6 a6 a3 a4 a5 hA 0
    have h52 : ρA 52 x = 1 := by rw [(pe_HM p6 (HM_G (GM_e b6))).1 52 (by decide), hS.1.1.2.2.2.2.2.1]; exact g2
    rw [b1, b2]
    unfold fx_Machine_callMethod_b38 fx_Machine_callMethod_b52 fx_Mo_call_b17 fx_Mo_call_b36
    rw [if_pos rfl, if_pos rfl, px_rd (j := x) rfl (by omega) (by decide), h52, if_pos rfl, px_rd (j := x) rfl (by omega) (by decide), h52, if_neg (by decide)]
    exact ca_f hS h hm hx2 (eC_tr a1 b5) (eM_tr a2 b6) b4 b8 hg hn (fun z => absurd g1 z) b3
end CA
