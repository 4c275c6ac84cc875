/-! steps: fields and cells -/
section S3
variable {s0 σ ρ : tx_St} {nC nF nM off md nh mc k m i : Nat} {K : Nat → Nat} {τ : Nat → Nat → TS}
/-- a thing that is looked into -/
theorem th_e (hh : hp s0 nC nF σ ρ K off md nh) {t : Nat} {x y : Int32} (ht : 1 ≤ t) (hv : vr s0 K off md t x y) : (x = 0 ∧ y = 0) ∨ ∃ u, 1 ≤ u ∧ u ≤ md ∧ x = nI u ∧ y = nI (off + u) ∧ fi s0 (K u) t ∧ 1 ≤ K u ∧ K u < nC + 2 := by
  rcases hv with ⟨h, -⟩ | ⟨-, h | ⟨u, u1, u2, u3, u4, u5⟩⟩
  · omega
  · exact Or.inl h
  · exact Or.inr ⟨u, u1, u2, u3, u4, u5, (hh.2.1.1 u u1 u2).1, (hh.2.1.1 u u1 u2).2⟩
theorem fi_cl {a c : Nat} (h : fi s0 a (c + 2)) : 2 ≤ a ∧ (a = c + 2 ∨ ln s0 (a - 2) c) := by
  rcases h with h | ⟨h1, -, h3⟩
  · exact ⟨by omega, Or.inl h⟩
  · exact ⟨h1, Or.inr h3⟩
theorem fi_ow (hB : iv_B s0 nC nF nM) {a f : Nat} (ha : a < nC + 2) (hf : f < nF) (hs : ¬ stF s0 f) (h : fi s0 a (N_ (s0 4 f) + 2)) : 2 ≤ a ∧ ow s0 (a - 2) f := by
  have hb := B_n hB
  obtain ⟨h1, h2⟩ := fi_cl h
  refine ⟨h1, hs, ?_⟩
  rcases h2 with h2 | h2
  · rw [h2]
    show ln s0 (N_ (s0 4 f) + 2 - 2) (N_ (s0 4 f))
    rw [Nat.add_sub_cancel]
    exact ln_rf hb.1 (B_C hB) (B_f4 hB hf).1
  · exact h2
theorem SR_8 (hS : Sx s0 nC nF nM τ) (h : SS s0 nC nF nM τ σ ρ K off md nh mc k m i) (e : s0 13 (12 * m + i) = (8 : Int32)) : SR s0 nC nF τ σ ρ K off md nh mc k m := by
  obtain ⟨c0, c1, c2, c3⟩ := SS_C h
  obtain ⟨d0, d1, d2, d3, d4, d5⟩ := SS_M hS h
  obtain ⟨σ3, ρ6, e3, e6, a1, a2, a3, a4, a5, a6, hx, a8, a9⟩ := SS_adv hS h
  obtain ⟨m1, m2⟩ := h.2.2.2.2.1
  have hmc := h.2.2.2.1.2.2
  have hb := B_n hS.1
  obtain ⟨s, t1, t2, t3⟩ := nx_s hS m1 m2 (op := 8) (by decide) e
  have hn := nx_1 hS m1 m2 (by rw [e]; decide) (by rw [e]; decide) (by rw [e]; decide) t3
  rw [tr_8] at t1
  obtain ⟨⟨⟨f, hf, ha⟩, hst⟩, t1⟩ := cif_some t1
  rw [ha, N_nI (by omega)] at hst t1
  obtain ⟨sA, hA, hg⟩ := bnd t1
  have hcl := (B_f4 hS.1 hf).1
  obtain ⟨x1, y1, σA, ρA, b1, b2, b3, b4, b5, b6, b7, b8⟩ := pp_take hS.1 a6 (by omega) a4 a8 a3 a5 hA
  have hhA := hp_e a9 b5 b6
  have eS := stp_8 c0 c1 c2 c3 hx e
  have eO := onc_8 d0 d1 d2 d3 d4 d5 hx e
  rw [ha, ← e3] at eS
  rw [ha, ← e6] at eO
  unfold fx_Machine_useField fx_Machine_useField_b14 fx_Machine_useField_b88 at eS
  unfold fx_Mo_slotted fx_Mo_slotted_b12 fx_Mo_slotted_b63 at eO
  simp (decide := true) only [if_true, if_false] at eS eO
  rw [b1, px_ci] at eS
  rw [b2, px_ci] at eO
  rcases th_e hhA (by omega) b3 with ⟨rfl, rfl⟩ | ⟨u, u1, u2, rfl, rfl, u5, u6, u7⟩
  · rw [if_pos rfl] at eS eO
    exact ⟨1, σA, ρA, eS, eO, NR_err h (eC_tr a1 b5) (eM_tr a2 b6)⟩
  · obtain ⟨k2, ho⟩ := fi_ow hS.1 u7 hf hst u5
    obtain ⟨g1, g2, -, g4⟩ := hhA.2.1.2 u u1 u2
    obtain ⟨g5, g6⟩ := g4 k2
    have hcw := Nat.lt_of_lt_of_le (cw_lt ho hf) g5
    have hpeA : pe s0 σA := pe_GC h.1.1 (GC_e (eC_tr a1 b5)) a8
    rw [if_neg (fun z => by have := (nI_z (by omega)).mp z; omega), px_rd (j := u) rfl (by omega) (by decide), g1, show nI (K u) - 2 = nI (K u - 2) by rw [show (2 : Int32) = nI 2 by decide, pk_sub k2], fx_Plan_slotOf_e (pe_B hS.1 hpeA) (by omega) (by omega), px_ci, ag_cw (pe_ag hpeA)] at eS
    unfold fx_Heap_slotValue at eS
    rw [px_ix4, px_rd (j := 4 * u + cw s0 (K u - 2) f) rfl (by omega) (by decide), px_ci] at eS
    rw [if_neg (fun z => by have := (nI_z (by omega)).mp z; omega), px_ix12o (by omega), px_rd (j := 12 * (off + u - 1) + f) rfl (by omega) (by decide)] at eO
    refine SR_fin h (eC_tr a1 b5) (eM_tr a2 b6) b7 b4 b8 hg hn (g6 f hf ho) ?_ ?_
    · rw [eS]; cases fx_Frame_push σA (27 + 3 * k) (σA 23 (4 * u + cw s0 (K u - 2) f)) <;> rfl
    · rw [eO]; cases fx_Mo_push ρA (ρA 62 (12 * (off + u - 1) + f)) <;> rfl
/-- a step that writes the heap -/
theorem NR_w {σ' ρ' : tx_St} {i' : Nat} (h : SS s0 nC nF nM τ σ ρ K off md nh mc k m i) (h1 : GC k σ σ') (h2 : GM k ρ ρ') (h3 : σ' 25 6 = σ 25 6) (h4 : ρ' 45 27 = ρ 45 27) (hh : hp s0 nC nF σ' ρ' K off md nh) (hi : i' < N_ (s0 12 m)) (ht : TF (vr s0 K off md) σ' ρ' k m i' (τ m i')) : NR s0 nC nF τ σ ρ K off md nh mc k m 0 σ' ρ' := by
  obtain ⟨-, -, -, ⟨c1, c2, c3, -⟩, -, -⟩ := h
  exact ⟨K, md, mc, ⟨h1, h2⟩, ⟨Nat.le_refl _, fun _ _ => rfl, rfl, c3⟩, hh, ⟨h3.trans c1, h4.trans c2⟩, Or.inl ⟨rfl, i', hi, ht⟩⟩
theorem GC_23 (σ : tx_St) {p j : Nat} (x : Int32) (hp : p = 21 ∨ p = 22 ∨ p = 23) : GC k σ (tx_up σ p j x) := ⟨fun q hq => tx_up_ne _ _ _ (by omega), by rw [tx_up_ne _ _ _ (by omega)], by rw [tx_up_ne _ _ _ (by omega)]⟩
theorem GM_62 (ρ : tx_St) {p j : Nat} (x : Int32) (hp : p = 61 ∨ p = 62) : GM k ρ (tx_up ρ p j x) := ⟨fun q hq => tx_up_ne _ _ _ (by omega), fun _ _ _ => by rw [tx_up_ne _ _ _ (by omega)], fun _ _ => ⟨by rw [tx_up_ne _ _ _ (by omega)], by rw [tx_up_ne _ _ _ (by omega)], by rw [tx_up_ne _ _ _ (by omega)]⟩, fun _ _ => by rw [tx_up_ne _ _ _ (by omega)], fun _ _ => by rw [tx_up_ne _ _ _ (by omega)]⟩
theorem TF_w {V : Nat → Int32 → Int32 → Prop} {s : TS} {p q j j2 : Nat} {x y : Int32} (h : TF V σ ρ k m i s) (hs : s.1.length ≤ 4) (hp : p < 27) (hq : q < 64) : TF V (tx_up σ p j x) (tx_up ρ q j2 y) k m i s := TF_up h hs (fun _ _ _ h => h) (fun r _ _ => tx_up_ne _ _ _ (by omega)) ⟨by rw [tx_up_ne _ _ _ (by omega)], by rw [tx_up_ne _ _ _ (by omega)], by rw [tx_up_ne _ _ _ (by omega)]⟩ (fun _ _ _ => by rw [tx_up_ne _ _ _ (by omega)]) (fun _ _ _ => by rw [tx_up_ne _ _ _ (by omega)])
theorem SR_9 (hS : Sx s0 nC nF nM τ) (h : SS s0 nC nF nM τ σ ρ K off md nh mc k m i) (e : s0 13 (12 * m + i) = (9 : Int32)) : SR s0 nC nF τ σ ρ K off md nh mc k m := by
  obtain ⟨c0, c1, c2, c3⟩ := SS_C h
  obtain ⟨d0, d1, d2, d3, d4, d5⟩ := SS_M hS h
  obtain ⟨σ3, ρ6, e3, e6, a1, a2, a3, a4, a5, a6, hx, a8, a9⟩ := SS_adv hS h
  obtain ⟨m1, m2⟩ := h.2.2.2.2.1
  have hmc := h.2.2.2.1.2.2
  have hb := B_n hS.1
  obtain ⟨s, t1, t2, t3⟩ := nx_s hS m1 m2 (op := 9) (by decide) e
  have hn := nx_1 hS m1 m2 (by rw [e]; decide) (by rw [e]; decide) (by rw [e]; decide) t3
  rw [tr_9] at t1
  obtain ⟨⟨⟨f, hf, ha⟩, hst⟩, t1⟩ := cif_some t1
  rw [ha, N_nI (by omega)] at hst t1
  obtain ⟨sA, hA, hg⟩ := bnd t1
  have hcl := (B_f4 hS.1 hf).1
  have hty := (B_f6 hS.1 hf).1
  obtain ⟨x0, y0, σA, ρA, b1, b2, b3, b4, b5, b6, b7, b8⟩ := pp_take hS.1 a6 hty a4 a8 a3 a5 hA
  obtain ⟨x1, y1, σB, ρB, f1, f2, f3, f4, f5, f6, f7, f8⟩ := pp_take hS.1 a6 (by omega) b7 a8 b4 b8 hg
  have hhA := hp_e (hp_e a9 b5 b6) f5 f6
  have aC := eC_tr a1 (eC_tr b5 f5)
  have aM := eM_tr a2 (eM_tr b6 f6)
  have eS := stp_9 c0 c1 c2 c3 hx e
  have eO := onc_9 d0 d1 d2 d3 d4 d5 hx e
  rw [ha, ← e3] at eS
  rw [ha, ← e6] at eO
  unfold fx_Machine_useField fx_Machine_useField_b14 fx_Machine_useField_b88 at eS
  unfold fx_Mo_slotted fx_Mo_slotted_b12 fx_Mo_slotted_b63 at eO
  simp (decide := true) only [if_true, if_false] at eS eO
  rw [b1, px_ci, f1, px_ci] at eS
  rw [b2, px_ci, f2, px_ci] at eO
  rcases th_e hhA (by omega) f3 with ⟨rfl, rfl⟩ | ⟨u, u1, u2, rfl, rfl, u5, u6, u7⟩
  · rw [if_pos rfl] at eS eO
    exact ⟨1, σB, ρB, eS, eO, NR_err h aC aM⟩
  · obtain ⟨k2, ho⟩ := fi_ow hS.1 u7 hf hst u5
    obtain ⟨g1, g2, -, g4⟩ := hhA.2.1.2 u u1 u2
    obtain ⟨g5, g6⟩ := g4 k2
    have hcw := Nat.lt_of_lt_of_le (cw_lt ho hf) g5
    have hpeA : pe s0 σB := pe_GC h.1.1 (GC_e aC) a8
    rw [if_neg (fun z => by have := (nI_z (by omega)).mp z; omega), px_rd (j := u) rfl (by omega) (by decide), g1, show nI (K u) - 2 = nI (K u - 2) by rw [show (2 : Int32) = nI 2 by decide, pk_sub k2], fx_Plan_slotOf_e (pe_B hS.1 hpeA) (by omega) (by omega), px_ci, ag_cw (pe_ag hpeA)] at eS
    unfold fx_Heap_setSlot at eS
    rw [px_ix4, px_wr (j := 4 * u + cw s0 (K u - 2) f) rfl (by omega) (by decide), px_cv, px_ci] at eS
    rw [if_neg (fun z => by have := (nI_z (by omega)).mp z; omega), px_ix12o (by omega), px_wr (j := 12 * (off + u - 1) + f) rfl (by omega) (by decide), px_ci] at eO
    refine ⟨0, _, _, eS, eO, NR_w h (GC_tr (GC_e aC) (GC_23 _ _ (by omega))) (GM_tr (GM_e aM) (GM_62 _ _ (by omega))) ?_ ?_ (hp_setF hhA u1 u2 k2 hf ho b3 (by omega)) hn.1 (by rw [hn.2]; exact TF_w f4 f8.1 (by decide) (by decide))⟩
    · rw [tx_up_ne _ _ _ (by decide), aC 25 (by omega)]
    · rw [tx_up_ne _ _ _ (by decide), aM.1 45 (by decide)]
theorem SR_14 (hS : Sx s0 nC nF nM τ) (h : SS s0 nC nF nM τ σ ρ K off md nh mc k m i) (e : s0 13 (12 * m + i) = (14 : Int32)) : SR s0 nC nF τ σ ρ K off md nh mc k m := by
  obtain ⟨c0, c1, c2, c3⟩ := SS_C h
  obtain ⟨d0, d1, d2, d3, d4, d5⟩ := SS_M hS h
  obtain ⟨σ3, ρ6, e3, e6, a1, a2, a3, a4, a5, a6, hx, a8, a9⟩ := SS_adv hS h
  obtain ⟨m1, m2⟩ := h.2.2.2.2.1
  have hmc := h.2.2.2.1.2.2
  have hb := B_n hS.1
  obtain ⟨s, t1, t2, t3⟩ := nx_s hS m1 m2 (op := 14) (by decide) e
  have hn := nx_1 hS m1 m2 (by rw [e]; decide) (by rw [e]; decide) (by rw [e]; decide) t3
  rw [tr_14] at t1
  obtain ⟨sA, hA, hg⟩ := bnd t1
  obtain ⟨x1, y1, σA, ρA, b1, b2, b3, b4, b5, b6, b7, b8⟩ := pp_take hS.1 a6 (by omega) a4 a8 a3 a5 hA
  have hhA := hp_e a9 b5 b6
  have eS := stp_14 c0 c1 c2 c3 hx e
  have eO := onc_14 d0 d1 d2 d3 d4 d5 hx e
  rw [← e3] at eS
  rw [← e6] at eO
  unfold fx_Machine_useCell fx_Machine_useCell_b14 fx_Machine_useCell_b62 at eS
  unfold fx_Mo_slotted fx_Mo_slotted_b12 fx_Mo_slotted_b63 at eO
  simp (decide := true) only [if_true, if_false] at eS eO
  rw [b1, px_ci] at eS
  rw [b2, px_ci] at eO
  rcases th_e hhA (by omega) b3 with ⟨rfl, rfl⟩ | ⟨u, u1, u2, rfl, rfl, u5, u6, u7⟩
  · rw [if_pos rfl] at eS eO
    exact ⟨1, σA, ρA, eS, eO, NR_err h (eC_tr a1 b5) (eM_tr a2 b6)⟩
  · have k1 := fi_1 u5
    obtain ⟨g1, g2, g3, -⟩ := hhA.2.1.2 u u1 u2
    have q0 : nI u * 4 + (0 : Int32) = nI (4 * u) := px_ix4 u 0
    have q1 : (12 : Int32) * (nI (off + u) - 1) + (0 : Int32) = nI (12 * (off + u - 1)) := px_ix12o (by omega) 0
    unfold fx_Heap_slotValue at eS
    rw [if_neg (fun z => by have := (nI_z (by omega)).mp z; omega), q0, px_rd (j := 4 * u) rfl (by omega) (by decide), px_ci] at eS
    rw [if_neg (fun z => by have := (nI_z (by omega)).mp z; omega), q1, px_rd (j := 12 * (off + u - 1)) rfl (by omega) (by decide)] at eO
    refine SR_fin h (eC_tr a1 b5) (eM_tr a2 b6) b7 b4 b8 hg hn (vr_0.mpr (g3 k1)) ?_ ?_
    · rw [eS]; cases fx_Frame_push σA (27 + 3 * k) (σA 23 (4 * u)) <;> rfl
    · rw [eO]; cases fx_Mo_push ρA (ρA 62 (12 * (off + u - 1))) <;> rfl
theorem SR_15 (hS : Sx s0 nC nF nM τ) (h : SS s0 nC nF nM τ σ ρ K off md nh mc k m i) (e : s0 13 (12 * m + i) = (15 : Int32)) : SR s0 nC nF τ σ ρ K off md nh mc k m := by
  obtain ⟨c0, c1, c2, c3⟩ := SS_C h
  obtain ⟨d0, d1, d2, d3, d4, d5⟩ := SS_M hS h
  obtain ⟨σ3, ρ6, e3, e6, a1, a2, a3, a4, a5, a6, hx, a8, a9⟩ := SS_adv hS h
  obtain ⟨m1, m2⟩ := h.2.2.2.2.1
  have hmc := h.2.2.2.1.2.2
  have hb := B_n hS.1
  obtain ⟨s, t1, t2, t3⟩ := nx_s hS m1 m2 (op := 15) (by decide) e
  have hn := nx_1 hS m1 m2 (by rw [e]; decide) (by rw [e]; decide) (by rw [e]; decide) t3
  rw [tr_15] at t1
  obtain ⟨sA, hA, hg⟩ := bnd t1
  obtain ⟨x0, y0, σA, ρA, b1, b2, b3, b4, b5, b6, b7, b8⟩ := pp_take hS.1 a6 (by omega) a4 a8 a3 a5 hA
  have z0 := vr_0.mp b3
  subst z0
  obtain ⟨x1, y1, σB, ρB, f1, f2, f3, f4, f5, f6, f7, f8⟩ := pp_take hS.1 a6 (by omega) b7 a8 b4 b8 hg
  have hhA := hp_e (hp_e a9 b5 b6) f5 f6
  have aC := eC_tr a1 (eC_tr b5 f5)
  have aM := eM_tr a2 (eM_tr b6 f6)
  have eS := stp_15 c0 c1 c2 c3 hx e
  have eO := onc_15 d0 d1 d2 d3 d4 d5 hx e
  rw [← e3] at eS
  rw [← e6] at eO
  unfold fx_Machine_useCell fx_Machine_useCell_b14 fx_Machine_useCell_b62 at eS
  unfold fx_Mo_slotted fx_Mo_slotted_b12 fx_Mo_slotted_b63 at eO
  simp (decide := true) only [if_true, if_false] at eS eO
  rw [b1, px_ci, f1, px_ci] at eS
  rw [b2, px_ci, f2, px_ci] at eO
  rcases th_e hhA (by omega) f3 with ⟨rfl, rfl⟩ | ⟨u, u1, u2, rfl, rfl, u5, u6, u7⟩
  · rw [if_pos rfl] at eS eO
    exact ⟨1, σB, ρB, eS, eO, NR_err h aC aM⟩
  · have k1 := fi_1 u5
    have q0 : nI u * 4 + (0 : Int32) = nI (4 * u) := px_ix4 u 0
    have q1 : (12 : Int32) * (nI (off + u) - 1) + (0 : Int32) = nI (12 * (off + u - 1)) := px_ix12o (by omega) 0
    unfold fx_Heap_setSlot at eS
    rw [if_neg (fun z => by have := (nI_z (by omega)).mp z; omega), q0, px_wr (j := 4 * u) rfl (by omega) (by decide), px_cv, px_ci] at eS
    rw [if_neg (fun z => by have := (nI_z (by omega)).mp z; omega), q1, px_wr (j := 12 * (off + u - 1)) rfl (by omega) (by decide), px_ci] at eO
    refine ⟨0, _, _, eS, eO, NR_w h (GC_tr (GC_e aC) (GC_23 _ _ (by omega))) (GM_tr (GM_e aM) (GM_62 _ _ (by omega))) ?_ ?_ (hp_setC hhA u1 u2 k1 (by omega)) hn.1 (by rw [hn.2]; exact TF_w f4 f8.1 (by decide) (by decide))⟩
    · rw [tx_up_ne _ _ _ (by decide), aC 25 (by omega)]
    · rw [tx_up_ne _ _ _ (by decide), aM.1 45 (by decide)]
end S3
