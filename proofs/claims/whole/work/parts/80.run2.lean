/-! run, both sides: the whole call -/
section RW
variable {s0 σ ρ : tx_St} {nC nF nM off md nh : Nat} {K : Nat → Nat} {τ : Nat → Nat → TS}
def RX (s0 : tx_St) (nC nF off : Nat) (σ ρ σ' ρ' : tx_St) : Prop := (∀ p, ((1 ≤ p ∧ p < 21) ∨ 44 < p) → σ' p = σ p) ∧ σ' 0 5 = σ 0 5 ∧ (∀ p, (p < 45 ∨ (46 ≤ p ∧ p ≤ 60) ∨ 68 < p) → ρ' p = ρ p) ∧ (∀ j, (j = 0 ∨ j = 3 ∨ j = 7 ∨ j = 16) → ρ' 45 j = ρ 45 j) ∧ ∃ K' md' nh' r', hp s0 nC nF σ' ρ' K' off md' nh' ∧ σ' 0 6 = nI r' ∧ ρ' 45 25 = nI r' ∧ r' ≤ 40 ∧ off + md' ≤ 8 * r' ∧ σ' 0 7 = ρ' 45 26
theorem run_e (hS : Sx s0 nC nF nM τ) {r : Nat} (hs : pe s0 σ) (hr : pe s0 ρ) (hh : hp s0 nC nF σ ρ K off md nh) (h5 : ¬ σ 0 5 = 0) (h16 : ¬ ρ 45 16 = 0) (h6 : σ 0 6 = nI r) (h25 : ρ 45 25 = nI r) (hr40 : r ≤ 40) (hmd : off + md ≤ 8 * r) (h7 : σ 0 7 = ρ 45 26) (x1 x2 x3 : Int32) : ∃ v σ' ρ', fx_X_run σ x1 x2 x3 = some (v, σ') ∧ fx_Mo_run ρ x1 x2 x3 = some (v, ρ') ∧ RX s0 nC nF off σ ρ σ' ρ' := by
  have hb := B_n hS.1
  have hBs := pe_B hS.1 hs
  have hBr := pe_B hS.1 hr
  have m2 : σ 1 2 = nI nM := hBs.2.2.1.2.2
  have m7 : ρ 45 7 = nI nM := hBr.1.1.2.2.trans hBr.2.2.1.2.2
  have same : RX s0 nC nF off σ ρ σ ρ := ⟨fun _ _ => rfl, rfl, fun _ _ => rfl, fun _ _ => rfl, K, md, nh, r, hh, h6, h25, hr40, hmd, h7⟩
  have eX : fx_X_run σ x1 x2 x3 = (if (40 : Int32) ≤ (σ 0 6) then fx_X_run_b27 σ else tx_ci (fx_Plan_isMethod σ x1) fun r4 σ3 => (if r4 = 0 then fx_X_run_b27 σ3 else tx_ci (fx_X_receiverFits σ3 x1 x2) fun r7 σ6 => (if r7 = 0 then fx_X_run_b49 σ6 else tx_ci (fx_X_argumentFits σ6 x1 x3) fun r10 σ9 => (if r10 = 0 then fx_X_run_b49 σ9 else tx_pt σ9 0 6 ((σ9 0 6) + (1 : Int32)) fun σ12 => tx_rd σ12 10 8 x1 fun v13 => (if v13 = 0 then fx_X_run_b80 σ12 x1 x2 x3 (1 : Int32) else fx_X_run_b80 σ12 x1 x2 x3 (0 : Int32)))))) := by
    unfold fx_X_run
    rw [if_neg h5]
  have ref : fx_Mo_refuses ρ x1 x2 x3 = some (1, ρ) → fx_Mo_run ρ x1 x2 x3 = some (68719476736, ρ) := fun z => by
    unfold fx_Mo_run
    rw [z, px_ci, if_neg (show ¬ (1 : Int32) = 0 by decide)]
  by_cases hr4 : r = 40
  · have e40 : nI r = 40 := by rw [hr4]; rfl
    refine ⟨68719476736, σ, ρ, ?_, ref ?_, same⟩
    · rw [eX, h6, e40, if_pos (by decide)]
      rfl
    · unfold fx_Mo_refuses fx_Mo_refuses_b24
      rw [if_neg h16, h25, if_pos e40]
  · have n40 : ¬ nI r = 40 := fun z => hr4 ((nI_eq (b := 40) (by omega) (by decide)).mp z)
    have l40 : ¬ (40 : Int32) ≤ nI r := fun z => by
      have := (nI_leI (a := 40) (by decide) (by omega)).mp z
      omega
    rw [h6, if_neg l40, fx_Plan_isMethod_e, px_ci, m2] at eX
    by_cases hm : ∃ x, x < nM ∧ x1 = nI x
    · have hm1 := (px_in (x := x1) (n := nM) (by omega)).mpr hm
      obtain ⟨x, hx, rfl⟩ := hm
      rw [b01, if_pos hm1, if_neg (show ¬ (1 : Int32) = 0 by decide)] at eX
      rcases rc_e hS hx hs hr hh (by omega) h16 h25 (by omega) x2 x3 with ⟨a, a', k1, k2, k3, k4, k5⟩ | ⟨k1, k2⟩
      · rw [k1, px_ci, if_neg (show ¬ (1 : Int32) = 0 by decide)] at eX
        rcases ar_e hS hx hs hr hh (by omega) x2 x3 with ⟨b, b', j1, j2, j3, j4, j5⟩ | ⟨j1, j2⟩
        · rw [j1, px_ci, if_neg (show ¬ (1 : Int32) = 0 by decide), px_pt, h6, nI_1, j3 _ (tx_up_ne _ _ _ (by decide)) (tx_up_ne _ _ _ (by decide)) (tx_up_ne _ _ _ (by decide))] at eX
          have eM : fx_Mo_run ρ (nI x) x2 x3 = fx_Mo_run_b64 ρ (nI x) a' b' := by
            unfold fx_Mo_run
            rw [k2, j2, px_ci, if_pos rfl, k4, j4]
          obtain ⟨σ1, hσ1⟩ : ∃ w, w = tx_up σ 0 6 (nI (r + 1)) := ⟨_, rfl⟩
          rw [← hσ1] at eX
          have s1 : ∀ p, p ≠ 0 → σ1 p = σ p := fun p hp => by rw [hσ1, tx_up_ne _ _ _ hp]
          have s06 : σ1 0 6 = nI (r + 1) := by rw [hσ1, px_up, if_pos rfl, if_pos rfl]
          have s05 : σ1 0 5 = σ 0 5 := by rw [hσ1, px_upN (Or.inr (by decide))]
          have ps1 : pe s0 σ1 := ⟨fun p hp => (s1 p (by omega)).trans (hs.1 p hp), fun j hj => by rw [s1 45 (by decide)]; exact hs.2 j hj⟩
          have hh1 : hp s0 nC nF σ1 ρ K off md nh := hp_eq hh (fun p p1 p2 => s1 p (by omega)) (fun _ _ _ => rfl) rfl rfl
          obtain ⟨q, σ2, ρ2, e1, e2, ⟨f1, f2⟩, K', md', mc', f3, ⟨f4, f5, f6, f7⟩, ⟨c, c1, c2, c3⟩, f8⟩ := ex_e hS hx ps1 hr hh1 (by omega) h25 k5 j5
          unfold fx_X_run_b99 at eX
          rw [k3 σ1 (s1 21 (by decide)) (s1 24 (by decide)), px_ci, e1, px_ci, px_pt] at eX
          obtain ⟨σ3, hσ3⟩ : ∃ w, w = tx_up σ2 0 7 (σ2 25 0) := ⟨_, rfl⟩
          rw [← hσ3] at eX
          have s3 : ∀ p, p ≠ 0 → σ3 p = σ2 p := fun p hp => by rw [hσ3, tx_up_ne _ _ _ hp]
          have s30 : ∀ j, j ≠ 7 → σ3 0 j = σ1 0 j := fun j hj => by rw [hσ3, px_upN (Or.inr hj), f1 0 (by omega)]
          have s37 : σ3 0 7 = nI c := by rw [hσ3, px_up, if_pos rfl, if_pos rfl, c2]
          have r25 : ρ2 45 25 = nI (r + 1) := by rw [f2.2 25 (by decide) (by decide) (by decide) (by decide) (by decide), px_up, if_pos rfl, if_pos rfl]
          have hh3 : hp s0 nC nF σ3 ρ2 K' off md' nh := hp_eq f3 (fun p p1 p2 => s3 p (by omega)) (fun _ _ _ => rfl) rfl rfl
          have fin : ∀ (σ' ρ' : tx_St) (nh' : Nat), hp s0 nC nF σ' ρ' K' off md' nh' → (∀ p, p ≠ 21 → p ≠ 24 → σ' p = σ3 p) → (∀ p, p ≠ 45 → p ≠ 63 → ρ' p = ρ2 p) → (∀ j, j ≠ 23 → ρ' 45 j = ρ2 45 j) → RX s0 nC nF off σ ρ σ' ρ' := by
            intro σ' ρ' nh' g1 g2 g3 g4
            refine ⟨fun p hp => ?_, ?_, fun p hp => ?_, fun j hj => ?_, K', md', nh', r + 1, g1, ?_, ?_, by omega, by omega, ?_⟩
            · rw [g2 p (by omega) (by omega), s3 p (by omega), f1 p (by omega), s1 p (by omega)]
            · rw [g2 0 (by decide) (by decide), s30 5 (by decide), s05]
            · rw [g3 p (by omega) (by omega), f2.1 p (by omega), tx_up_ne _ _ _ (by omega)]
            · rw [g4 j (by omega), f2.2 j (by omega) (by omega) (by omega) (by omega) (by omega), px_upN (Or.inr (by omega))]
            · rw [g2 0 (by decide) (by decide), s30 6 (by decide), s06]
            · rw [g4 25 (by decide), r25]
            · rw [g2 0 (by decide) (by decide), s37, g4 26 (by decide), c3]
          rw [eX, eM]
          rcases e2 with ⟨rfl, G', e2⟩ | ⟨hq, e2⟩
          · obtain ⟨v1, v2⟩ := f8 rfl
            have h11 : σ3 11 x = s0 11 x := by rw [s3 11 (by decide), f1 11 (by omega), s1 11 (by decide), hs.1 11 (by decide)]
            have h55 : ρ2 55 x = s0 11 x := by rw [f2.1 55 (by omega), tx_up_ne _ _ _ (by decide), hr.1 55 (by decide), hS.1.1.2.2.2.2.2.2.2.2.1]
            obtain ⟨t1, t2⟩ := B_m11 hS.1 hx
            have v3 : vr s0 K' off md' (N_ (s0 11 x)) (σ3 25 1) (ρ2 45 34) := by rw [s3 25 (by decide)]; exact v2
            rw [e2, fx_Mo_run_b106, v1, if_pos (show (0 : Int32) ≤ 0 by decide), if_pos (show (0 : Int32) = 0 from rfl), px_rd (j := x) rfl (by omega) (by decide), px_rd (j := x) rfl (by omega) (by decide), h55, h11]
            generalize N_ (s0 11 x) = t at *
            rw [t2]
            by_cases ht : t = 0
            · subst ht
              have hz := vr_0.mp v3
              rw [if_pos (show nI 0 = 0 from rfl), if_pos (show nI 0 = 0 from rfl)]
              unfold fx_X_run_b175 fx_X_answerOf
              rw [if_pos (show nI 0 = 0 from rfl), px_cl, hz]
              exact ⟨_, σ3, ρ2, rfl, rfl, fin σ3 ρ2 nh hh3 (fun _ _ _ => rfl) (fun _ _ _ => rfl) (fun _ _ => rfl)⟩
            · have tn : ¬ nI t = 0 := nI_ne0 (by omega) (by omega)
              rw [if_neg tn, if_neg tn]
              obtain ⟨v, σ', ρ', nh', w1, w2, w3, w4, w5, w6⟩ := rs_e hh3 (by omega) (by omega) (by omega) v3
              exact ⟨v, σ', ρ', w1, w2, fin σ' ρ' nh' w3 w4 w5 w6⟩
          · have hq0 : ¬ q = 0 := by rcases hq with rfl | rfl | rfl | rfl <;> decide
            rw [e2, if_neg hq0]
            exact ⟨_, σ3, ρ2, rfl, rfl, fin σ3 ρ2 nh hh3 (fun _ _ _ => rfl) (fun _ _ _ => rfl) (fun _ _ => rfl)⟩
        · rw [j1, px_ci, if_pos rfl] at eX
          exact ⟨68719476736, σ, ρ, eX, ref (k2.trans j2), same⟩
      · rw [k1, px_ci, if_pos rfl] at eX
        exact ⟨68719476736, σ, ρ, eX, ref k2, same⟩
    · have hm1 : ¬ (¬ x1 < 0 ∧ ¬ nI nM ≤ x1) := fun z => hm ((px_in (by omega)).mp z)
      rw [b01, if_neg hm1, if_pos rfl] at eX
      refine ⟨68719476736, σ, ρ, eX, ref ?_, same⟩
      unfold fx_Mo_refuses fx_Mo_refuses_b24
      rw [if_neg h16, h25, if_neg n40, fx_Mo_isMethod_e, px_ci, m7, b01, if_neg hm1, if_pos rfl]
/-- held, both sides -/
theorem held_e (hh : hp s0 nC nF σ ρ K off md nh) (hmd : off + md ≤ 320) (x : Int32) : ∃ v, fx_X_held σ x = some (v, σ) ∧ fx_Mo_held ρ x = some (v, ρ) := by
  unfold fx_X_held fx_X_held_b26 fx_Mo_held fx_Mo_held_b25
  rcases ha_e hh x with ⟨h, u, w1, rfl, w2, w3, w4, w5, w6, w7⟩ | ⟨w1, w2, w3⟩
  · obtain ⟨v1, v2, -, -⟩ := hh.2.1.2 u w2 w3
    have c3 := hh.2.2.2.2.1
    have eo : nI (off + u) - 1 = nI (off + u - 1) := by
      have := px_s1 (off + u - 1)
      rw [show off + u - 1 + 1 = off + u by omega] at this
      exact this
    rw [w6 σ rfl rfl, px_ci, if_neg (nI_ne0 (by omega) (by omega)), px_rd (j := u) rfl (by omega) (by decide), v1, w7, px_ci, if_neg (show ¬ (1 : Int32) = 0 by decide), px_rd (j := h) rfl (by omega) (by decide), w5, eo, px_rd (j := off + u - 1) rfl (by omega) (by decide), v2]
    exact ⟨_, rfl, rfl⟩
  · rw [w2 σ rfl rfl, px_ci, if_pos rfl, w3, px_ci, if_pos rfl]
    exact ⟨_, rfl, rfl⟩
/-- look, both sides -/
theorem look_e (hS : Sx s0 nC nF nM τ) (hs : pe s0 σ) (hr : pe s0 ρ) (hh : hp s0 nC nF σ ρ K off md nh) (hmd : off + md ≤ 320) (x1 x2 : Int32) : ∃ v, fx_X_look σ x1 x2 = some (v, σ) ∧ fx_Mo_look ρ x1 x2 = some (v, ρ) := by
  have hb := B_n hS.1
  have hBs := pe_B hS.1 hs
  have hBr := pe_B hS.1 hr
  have m1 : σ 1 1 = nI nF := hBs.2.2.1.2.1
  have m3 : ρ 45 3 = nI nF := hBr.1.1.2.1.trans hBr.2.2.1.2.1
  unfold fx_X_look fx_X_look_b75 fx_Mo_look fx_Mo_look_b72 fx_Mo_look_b112
  rcases ha_e hh x1 with ⟨h, u, w1, rfl, w2, w3, w4, w5, w6, w7⟩ | ⟨w1, w2, w3⟩
  · obtain ⟨hK, hT⟩ := hh.2.1
    obtain ⟨v1, v2, v3, v4⟩ := hT u w2 w3
    obtain ⟨q1, q2⟩ := hK u w2 w3
    have c3 := hh.2.2.2.2.1
    have eo : nI (off + u) - 1 = nI (off + u - 1) := by
      have := px_s1 (off + u - 1)
      rw [show off + u - 1 + 1 = off + u by omega] at this
      exact this
    rw [w6 σ rfl rfl, px_ci, if_neg (nI_ne0 (by omega) (by omega)), px_rd (j := u) rfl (by omega) (by decide), v1, w7, px_ci, if_neg (show ¬ (1 : Int32) = 0 by decide), px_rd (j := h) rfl (by omega) (by decide), w5, eo, px_rd (j := off + u - 1) rfl (by omega) (by decide), v2]
    by_cases hK1 : K u = 1
    · have e1 : nI (K u) = 1 := by rw [hK1]; rfl
      have q0 : nI u * 4 + (0 : Int32) = nI (4 * u) := px_ix4 u 0
      unfold fx_Heap_slotValue
      rw [if_pos e1, if_pos e1, q0, px_rd (j := 4 * u) rfl (by omega) (by decide), px_ci, px_ix12s, px_rd (j := 12 * (off + u - 1)) rfl (by omega) (by decide), v3 hK1]
      exact ⟨_, rfl, rfl⟩
    · have e1 : ¬ nI (K u) = 1 := fun z => hK1 ((nI_eq (b := 1) (by omega) (by decide)).mp z)
      have eK : nI (K u) - 2 = nI (K u - 2) := by
        have := px_m2 (d := K u - 2)
        rw [show K u - 2 + 2 = K u by omega] at this
        exact this
      rw [if_neg e1, if_neg e1, fx_Plan_isField_e, px_ci, m1, m3, eK]
      by_cases hf : ∃ f, f < nF ∧ x2 = nI f
      · have hf1 := (px_in (x := x2) (n := nF) (by omega)).mpr hf
        obtain ⟨f, hf, rfl⟩ := hf
        rw [b01, if_pos hf1, if_neg (show ¬ (1 : Int32) = 0 by decide), if_neg hf1.1, if_neg hf1.2, fx_Plan_owns_e hBs (by omega) hf, fx_Mo_owns_e hBr (by omega) hf, px_ci, px_ci]
        have ho : ∀ w, pe s0 w → (ow w (K u - 2) f ↔ ow s0 (K u - 2) f) := fun w hw => by
          unfold ow stF ln
          rw [hw.1 5 (by decide), hw.1 2 (by decide), hw.1 4 (by decide)]
        rcases Classical.em (ow s0 (K u - 2) f) with hw | hw
        · obtain ⟨g1, g2⟩ := v4 (by omega)
          have g3 := g2 f hf hw
          have g4 := cw_lt hw hf
          obtain ⟨t1, t2⟩ := B_f6 hS.1 hf
          have h6 : σ 6 f = s0 6 f := by rw [hs.1 6 (by decide)]
          have h50 : ρ 50 f = s0 6 f := by rw [hr.1 50 (by decide), hS.1.1.2.2.2.1]
          have ex : (12 : Int32) * nI (off + u - 1) + nI f = nI (12 * (off + u - 1) + f) := by
            have := px_ix12o (o := off + u) (by omega) f
            rw [eo] at this
            exact this
          unfold fx_Heap_slotValue
          rw [bP_t ((ho σ hs).mpr hw), bP_t ((ho ρ hr).mpr hw), if_neg (show ¬ (1 : Int32) = 0 by decide), if_neg (show ¬ (1 : Int32) = 0 by decide), px_rd (j := f) rfl (by omega) (by decide), h6, fx_Plan_slotOf_e hBs (by omega) (by omega), px_ci, ag_cw (pe_ag hs), px_ix4, px_rd (j := 4 * u + cw s0 (K u - 2) f) rfl (by omega) (by decide), px_ci, ex, px_rd (j := 12 * (off + u - 1) + f) rfl (by omega) (by decide), px_rd (j := f) rfl (by omega) (by decide), h50]
          generalize N_ (s0 6 f) = t at *
          rw [t2]
          by_cases ht : t = 0
          · subst ht
            have hz := vr_0.mp g3
            unfold fx_X_answerOf
            rw [if_pos (show nI 0 = 0 from rfl), if_pos (show nI 0 = 0 from rfl), px_cl, hz]
            exact ⟨_, rfl, rfl⟩
          · have tn : ¬ nI t = 0 := nI_ne0 (by omega) (by omega)
            obtain ⟨v, k1, k2⟩ := sh_e hh (by omega) (by omega) (by omega) g3
            rw [k1, px_cl, if_neg tn, k2, px_cl]
            exact ⟨_, rfl, rfl⟩
        · rw [bP_f (fun z => hw ((ho σ hs).mp z)), bP_f (fun z => hw ((ho ρ hr).mp z)), if_pos rfl, if_pos rfl]
          exact ⟨_, rfl, rfl⟩
      · have hf1 : ¬ (¬ x2 < 0 ∧ ¬ nI nF ≤ x2) := fun z => hf ((px_in (by omega)).mp z)
        rw [b01, if_neg hf1, if_pos rfl]
        by_cases g : x2 < 0
        · rw [if_pos g]
          exact ⟨_, rfl, rfl⟩
        · rw [if_neg g, if_pos (Classical.byContradiction fun z => hf1 ⟨g, z⟩)]
          exact ⟨_, rfl, rfl⟩
  · rw [w2 σ rfl rfl, px_ci, if_pos rfl, w3, px_ci, if_pos rfl]
    exact ⟨_, rfl, rfl⟩
end RW
