section S5
variable {s0 σ ρ : tx_St} {nC nF nM off md nh mc k m i : Nat} {K : Nat → Nat} {τ : Nat → Nat → TS}
theorem NR_err4 {σ' ρ' : tx_St} (h : SS s0 nC nF nM τ σ ρ K off md nh mc k m i) (h1 : eC k σ σ') (h2 : eM k ρ ρ') : NR s0 nC nF τ σ ρ K off md nh mc k m 4 σ' ρ' := by
  obtain ⟨-, hh, -, ⟨c1, c2, c3, -⟩, -, -⟩ := h
  exact ⟨K, md, mc, ⟨GC_e h1, GM_e h2⟩, ⟨Nat.le_refl _, fun _ _ => rfl, rfl, c3⟩, hp_e hh h1 h2, ⟨by rw [h1 25 (by omega)]; exact c1, by rw [h2.1 45 (by decide)]; exact c2⟩, Or.inr (Or.inr rfl)⟩
/-- a new thing of type t is under way -/
def mC (σ : tx_St) (k i mc md t : Nat) : tx_St := tx_up (tx_up (tx_up (tx_up σ (27 + 3 * k) 1 (nI (i + 1))) 25 6 (nI (mc + 1))) 21 3 (nI (md + 1))) 22 (md + 1) (nI t)
def mM (ρ : tx_St) (k i mc o t : Nat) : tx_St := tx_up (tx_up (tx_up ρ 65 k (nI (i + 1))) 45 27 (nI (mc + 1))) 61 o (nI t)
theorem mC_G (t : Nat) : GC k σ (mC σ k i mc md t) := by
  unfold mC
  refine ⟨fun p hp => ?_, ?_, ?_⟩
  · by_cases h25 : p = 25
    · omega
    · rw [tx_up_ne _ _ _ (by omega), tx_up_ne _ _ _ (by omega), tx_up_ne _ _ _ (by omega), tx_up_ne _ _ _ (by omega)]
  · rw [tx_up_ne _ _ _ (by decide), tx_up_ne _ _ _ (by decide), px_upN (Or.inr (by decide)), tx_up_ne _ _ _ (by omega)]
  · rw [tx_up_ne _ _ _ (by decide), tx_up_ne _ _ _ (by decide), px_upN (Or.inr (by decide)), tx_up_ne _ _ _ (by omega)]
theorem mM_G (o t : Nat) : GM k ρ (mM ρ k i mc o t) := by
  unfold mM
  refine ⟨fun p hp => ?_, fun j h1 h2 => ?_, fun j hj => ⟨?_, ?_, ?_⟩, fun j hj => ?_, fun j hj => ?_⟩
  · rw [tx_up_ne _ _ _ (by omega), tx_up_ne _ _ _ (by omega), tx_up_ne _ _ _ (by omega)]
  · rw [tx_up_ne _ _ _ (by decide), px_upN (Or.inr h2), tx_up_ne _ _ _ (by decide)]
  · rw [tx_up_ne _ _ _ (by decide), tx_up_ne _ _ _ (by decide), tx_up_ne _ _ _ (by decide)]
  · rw [tx_up_ne _ _ _ (by decide), tx_up_ne _ _ _ (by decide), px_upN (Or.inr hj)]
  · rw [tx_up_ne _ _ _ (by decide), tx_up_ne _ _ _ (by decide), tx_up_ne _ _ _ (by decide)]
  · rw [tx_up_ne _ _ _ (by decide), tx_up_ne _ _ _ (by decide), tx_up_ne _ _ _ (by decide)]
  · rw [tx_up_ne _ _ _ (by decide), tx_up_ne _ _ _ (by decide), tx_up_ne _ _ _ (by decide)]
theorem mk_pre (hS : Sx s0 nC nF nM τ) (h : SS s0 nC nF nM τ σ ρ K off md nh mc k m i) (t : Nat) : TF (vr s0 K off md) (mC σ k i mc md t) (mM ρ k i mc (off + md) t) k m (i + 1) (τ m i) ∧ pe s0 (mC σ k i mc md t) ∧ pe s0 (mM ρ k i mc (off + md) t) ∧ mM ρ k i mc (off + md) t 45 28 = nI (k + 1) ∧ mM ρ k i mc (off + md) t 45 20 = nI (off + md) := by
  obtain ⟨σ3, ρ6, e3, e6, a1, a2, a3, a4, a5, a6, hx, a8, a9⟩ := SS_adv hS h
  refine ⟨?_, pe_GC h.1.1 (mC_G t) a8, pe_GM h.1.2 (mM_G _ t), ?_, ?_⟩
  · unfold mC mM
    rw [← e3, ← e6]
    refine TF_up a3 a5.1 (fun _ _ _ h => h) (fun p h1 h2 => ?_) ⟨?_, ?_, ?_⟩ (fun j _ _ => ?_) (fun j _ _ => ?_)
    · rw [tx_up_ne _ _ _ (by omega), tx_up_ne _ _ _ (by omega), tx_up_ne _ _ _ (by omega)]
    all_goals rw [tx_up_ne _ _ _ (by decide), tx_up_ne _ _ _ (by decide)]
  · rw [(mM_G (off + md) t).2.1 28 (by decide) (by decide)]
    exact h.2.2.1.1
  · unfold mM
    rw [tx_up_ne _ _ _ (by decide), px_upN (Or.inr (by decide)), tx_up_ne _ _ _ (by decide)]
    exact h.2.1.1.2.1
theorem mk_post (hS : Sx s0 nC nF nM τ) (h : SS s0 nC nF nM τ σ ρ K off md nh mc k m i) (hmc : mc < 8) {t : Nat} (ht : 1 ≤ t ∧ t < nC + 2) {σ4 ρ4 : tx_St} {s2 s' : TS} (q1 : GC k (mC σ k i mc md t) σ4 ∧ σ4 21 = (mC σ k i mc md t) 21 ∧ σ4 22 = (mC σ k i mc md t) 22 ∧ σ4 25 = (mC σ k i mc md t) 25 ∧ ∀ j, j < 4 * (md + 1) → σ4 23 j = (mC σ k i mc md t) 23 j) (q2 : GM k (mM ρ k i mc (off + md) t) ρ4 ∧ ρ4 45 = (mM ρ k i mc (off + md) t) 45 ∧ ρ4 61 = (mM ρ k i mc (off + md) t) 61 ∧ ∀ j, j < 12 * (off + md) → ρ4 62 j = (mM ρ k i mc (off + md) t) 62 j)
    (hT : TF (vr s0 K off md) σ4 ρ4 k m (i + 1) s2) (hok : okS (nC + 2) s2) (hg : gv t s2 = some s') (hn : i + 1 < N_ (s0 12 m) ∧ τ m (i + 1) = s') (n5 : t = 1 → σ4 23 (4 * (md + 1)) = ρ4 62 (12 * (off + md))) (n6 : 2 ≤ t → cw s0 (t - 2) nF ≤ 4 ∧ ∀ f, f < nF → ow s0 (t - 2) f → vr s0 K off md (N_ (s0 6 f)) (σ4 23 (4 * (md + 1) + cw s0 (t - 2) f)) (ρ4 62 (12 * (off + md) + f)))
    (eS : fx_Machine_step σ (27 + 3 * k) = tx_cv (fx_Frame_push σ4 (27 + 3 * k) (nI (md + 1))) fun w => some ((0 : Int32), w)) (eO : fx_Mo_once ρ = tx_ci (fx_Mo_make_b103 ρ4) fun r w => some (r, w)) : SR s0 nC nF τ σ ρ K off md nh mc k m := by
  have hb := B_n hS.1
  have hk6 := h.2.2.1.2.2
  have c20 : ρ4 45 20 = nI (off + md) := by rw [q2.2.1]; exact (mk_pre hS h t).2.2.2.2
  have c28 : ρ4 45 28 = nI (k + 1) := by rw [q2.2.1]; exact (mk_pre hS h t).2.2.2.1
  have hT2 : TF (vr s0 (K_ K (md + 1) t) off (md + 1)) σ4 (tx_up ρ4 45 20 (nI (off + (md + 1)))) k m (i + 1) s2 := TF_up hT hok.1 (fun _ _ _ hv => vr_up (by omega) (fun u hu => K_o (by omega)) hv) (fun _ _ _ => rfl) ⟨by rw [tx_up_ne _ _ _ (by decide)], by rw [tx_up_ne _ _ _ (by decide)], by rw [tx_up_ne _ _ _ (by decide)]⟩ (fun _ _ _ => by rw [tx_up_ne _ _ _ (by decide)]) (fun _ _ _ => by rw [tx_up_ne _ _ _ (by decide)])
  have hv : vr s0 (K_ K (md + 1) t) off (md + 1) t (nI (md + 1)) (nI (off + (md + 1))) := Or.inr ⟨ht.1, Or.inr ⟨md + 1, by omega, by omega, rfl, rfl, by rw [K_n]; exact Or.inl rfl⟩⟩
  obtain ⟨σ', ρ', b1, b2, b3, b4, b5, b6⟩ := pp_push (by rw [px_upN (Or.inr (by decide))]; exact c28) hk6 hT2 hok hg hv
  have gC : GC k σ σ' := GC_tr (mC_G t) (GC_tr q1.1 (GC_e b4))
  have gM : GM k ρ ρ' := by
    refine GM_tr (mM_G (off + md) t) (GM_tr q2.1 (GM_tr ?_ (GM_e b5)))
    exact ⟨fun p hp => tx_up_ne _ _ _ (by omega), fun j h1 h2 => px_upN (Or.inr h1), fun j hj => ⟨by rw [tx_up_ne _ _ _ (by decide)], by rw [tx_up_ne _ _ _ (by decide)], by rw [tx_up_ne _ _ _ (by decide)]⟩, fun j hj => by rw [tx_up_ne _ _ _ (by decide)], fun j hj => by rw [tx_up_ne _ _ _ (by decide)]⟩
  have r45 : ∀ j, j ≠ 20 → ρ' 45 j = (mM ρ k i mc (off + md) t) 45 j := fun j hj => by rw [b5.1 45 (by decide), px_upN (Or.inr hj), q2.2.1]
  refine ⟨0, σ', ρ', ?_, ?_, K_ K (md + 1) t, md + 1, mc + 1, ⟨gC, gM⟩, ⟨by omega, fun u hu => K_o (by omega), by omega, by omega⟩, ?_, ⟨?_, ?_⟩, Or.inl ⟨rfl, i + 1, hn.1, by rw [hn.2]; exact b3⟩⟩
  · rw [eS, b1, px_cv]
  · rw [eO]
    unfold fx_Mo_make_b103
    rw [px_pt, c20, nI_1]
    have e0 : tx_up ρ4 45 20 (nI (off + md + 1)) 45 20 = nI (off + (md + 1)) := by rw [px_up, if_pos rfl, if_pos rfl, Nat.add_assoc]
    rw [e0, show off + md + 1 = off + (md + 1) by omega, b2, px_cv, px_ci]
  · have m22 : ∀ j, (mC σ k i mc md t) 22 j = if j = md + 1 then nI t else σ 22 j := fun j => by
      unfold mC
      rw [px_up, if_pos rfl, tx_up_ne _ _ _ (show (22 : Nat) ≠ 21 by decide), tx_up_ne _ _ _ (show (22 : Nat) ≠ 25 by decide), tx_up_ne _ _ _ (by omega)]
    have m61 : ∀ j, (mM ρ k i mc (off + md) t) 61 j = if j = off + md then nI t else ρ 61 j := fun j => by
      unfold mM
      rw [px_up, if_pos rfl, tx_up_ne _ _ _ (show (61 : Nat) ≠ 45 by decide), tx_up_ne _ _ _ (show (61 : Nat) ≠ 65 by decide)]
    refine hp_new h.2.1 ht ⟨?_, ?_, ?_, ?_, ?_, ?_⟩ ⟨?_, fun j hj => ?_⟩ ⟨?_, fun j hj => ?_⟩ ⟨fun j hj => ?_, fun j hj => ?_⟩ (fun e => ?_) (fun e => ⟨(n6 e).1, fun f hf ho => ?_⟩) (by omega)
    · rw [b4 21 (by omega), q1.2.1]
      unfold mC
      rw [tx_up_ne _ _ _ (by decide), px_up, if_pos rfl, if_pos rfl]
    · rw [b5.1 45 (by decide), px_up, if_pos rfl, if_pos rfl]
    · rw [b4 21 (by omega), q1.2.1]
      unfold mC
      rw [tx_up_ne _ _ _ (by decide), px_upN (Or.inr (by decide)), tx_up_ne _ _ _ (by decide), tx_up_ne _ _ _ (by omega)]
    · rw [r45 23 (by decide)]
      exact (mM_G (off + md) t).2.1 23 (by decide) (by decide)
    · exact gC.1 24 (by omega)
    · exact gM.1 63 (by omega)
    · rw [b4 22 (by omega), q1.2.2.1, m22, if_pos rfl]
    · rw [b4 22 (by omega), q1.2.2.1, m22, if_neg hj]
    · rw [b5.1 61 (by decide), tx_up_ne _ _ _ (by decide), q2.2.2.1, m61, if_pos rfl]
    · rw [b5.1 61 (by decide), tx_up_ne _ _ _ (by decide), q2.2.2.1, m61, if_neg hj]
    · rw [b4 23 (by omega), q1.2.2.2.2 j hj]
      unfold mC
      rw [tx_up_ne _ _ _ (by decide), tx_up_ne _ _ _ (by decide), tx_up_ne _ _ _ (by decide), tx_up_ne _ _ _ (by omega)]
    · rw [b5.1 62 (by decide), tx_up_ne _ _ _ (by decide), q2.2.2.2 j hj]
      unfold mM
      rw [tx_up_ne _ _ _ (by decide), tx_up_ne _ _ _ (by decide), tx_up_ne _ _ _ (by decide)]
    · rw [b4 23 (by omega), b5.1 62 (by decide), tx_up_ne _ _ _ (by decide)]
      exact n5 e
    · rw [b4 23 (by omega), b5.1 62 (by decide), tx_up_ne _ _ _ (by decide)]
      exact (n6 e).2 f hf ho
  · rw [b4 25 (by omega), q1.2.2.2.1]
    unfold mC
    rw [tx_up_ne _ _ _ (by decide), tx_up_ne _ _ _ (by decide), px_up, if_pos rfl, if_pos rfl]
  · rw [r45 27 (by decide)]
    unfold mM
    rw [tx_up_ne _ _ _ (by decide), px_up, if_pos rfl, if_pos rfl]
theorem px_n8 {n : Nat} (h : n ≤ 8) : (nI n = 8) ↔ n = 8 := nI_eq (b := 8) (by omega) (by decide)
theorem SR_13 (hS : Sx s0 nC nF nM τ) (h : SS s0 nC nF nM τ σ ρ K off md nh mc k m i) (e : s0 13 (12 * m + i) = (13 : Int32)) : SR s0 nC nF τ σ ρ K off md nh mc k m := by
  obtain ⟨c0, c1, c2, c3⟩ := SS_C h
  obtain ⟨d0, d1, d2, d3, d4, d5⟩ := SS_M hS h
  obtain ⟨σ3, ρ6, e3, e6, a1, a2, a3, a4, a5, a6, hx, a8, a9⟩ := SS_adv hS h
  obtain ⟨m1, m2⟩ := h.2.2.2.2.1
  obtain ⟨g1, g2, g3, g4⟩ := h.2.2.2.1
  have hb := B_n hS.1
  obtain ⟨s, t1, t2, t3⟩ := nx_s hS m1 m2 (op := 13) (by decide) e
  have hn := nx_1 hS m1 m2 (by rw [e]; decide) (by rw [e]; decide) (by rw [e]; decide) t3
  rw [tr_13] at t1
  obtain ⟨sA, hA, hg⟩ := bnd t1
  have eS := stp_13 c0 c1 c2 c3 hx e
  have eO := onc_13 d0 d1 d2 d3 d4 d5 hx e
  have s25 : (tx_up σ (27 + 3 * k) 1 (nI (i + 1))) 25 6 = nI mc := by rw [tx_up_ne _ _ _ (by omega)]; exact g1
  have s27 : (tx_up ρ 65 k (nI (i + 1))) 45 27 = nI mc := by rw [tx_up_ne _ _ _ (by decide)]; exact g2
  unfold fx_Machine_makeCell at eS
  unfold fx_Mo_make at eO
  rw [s25] at eS
  rw [s27] at eO
  by_cases h8 : mc = 8
  · rw [if_pos ((px_n8 g3).mpr h8), px_ci, ← e3] at eS
    rw [if_pos ((px_n8 g3).mpr h8), px_ci, ← e6] at eO
    exact ⟨4, σ3, ρ6, eS, eO, NR_err4 h a1 a2⟩
  · obtain ⟨hT, p1, p2, u28, u20⟩ := mk_pre hS h 1
    obtain ⟨x, y, σA, ρA, b1, b2, b3, b4, b5, b6, b7, b8⟩ := pp_take hS.1 a6 (by omega) u28 a8 hT a5 hA
    have z0 := vr_0.mp b3
    subst z0
    have w3 : (tx_up (tx_up σ (27 + 3 * k) 1 (nI (i + 1))) 25 6 (nI (mc + 1))) 21 3 = nI md := by
      rw [tx_up_ne _ _ _ (by decide), tx_up_ne _ _ _ (by omega)]
      exact h.2.1.1.1
    have hnew : fx_Heap_newThing (tx_up (tx_up σ (27 + 3 * k) 1 (nI (i + 1))) 25 6 (nI (mc + 1))) 1 = some (nI (md + 1), mC σ k i mc md 1) := by
      unfold fx_Heap_newThing
      rw [px_pt, w3, nI_1, px_wr (j := md + 1) (by rw [px_up, if_pos rfl, if_pos rfl]) (by omega) (by decide), tx_up_ne _ _ _ (by decide), px_up, if_pos rfl, if_pos rfl]
      rfl
    have w20 : (tx_up (tx_up ρ 65 k (nI (i + 1))) 45 27 (nI (mc + 1))) 45 20 = nI (off + md) := by
      rw [px_upN (Or.inr (by decide)), tx_up_ne _ _ _ (by decide)]
      exact h.2.1.1.2.1
    have q0 : nI (md + 1) * 4 + (0 : Int32) = nI (4 * (md + 1)) := px_ix4 (md + 1) 0
    unfold fx_Heap_setSlot at eS
    rw [if_neg (fun z => h8 ((px_n8 g3).mp z)), px_pt, nI_1, hnew, px_ci, b1, px_ci, q0, px_wr (j := 4 * (md + 1)) rfl (by omega) (by decide), px_cv] at eS
    have hmM : tx_up (tx_up (tx_up ρ 65 k (nI (i + 1))) 45 27 (nI (mc + 1))) 61 (off + md) 1 = mM ρ k i mc (off + md) 1 := rfl
    rw [if_neg (fun z => h8 ((px_n8 g3).mp z)), px_pt, nI_1, w20, px_wr (j := off + md) rfl (by omega) (by decide), if_pos rfl, hmM, b2, px_ci, u20, px_ix12s, px_wr (j := 12 * (off + md)) rfl (by omega) (by decide)] at eO
    have hb52 : ∀ w : tx_St, fx_Mo_make_b52 w 1 = fx_Mo_make_b103 w := by
      intro w
      unfold fx_Mo_make_b52
      rw [show tx_fu = 399 + 1 from rfl, fx_Mo_make_b59]
      by_cases hw : w 45 3 - 1 < 0
      · rw [if_pos hw]
      · rw [if_neg hw, if_pos (by decide)]
    rw [hb52] at eO
    refine mk_post hS h (by omega) (t := 1) ⟨by omega, by omega⟩ (σ4 := tx_up σA 23 (4 * (md + 1)) x) (ρ4 := tx_up ρA 62 (12 * (off + md)) x) ⟨GC_tr (GC_e b5) (GC_23 _ _ (by omega)), ?_, ?_, ?_, fun j hj => ?_⟩ ⟨GM_tr (GM_e b6) (GM_62 _ _ (by omega)), ?_, ?_, fun j hj => ?_⟩ (TF_w b4 b8.1 (by decide) (by decide)) b8 hg hn (fun _ => ?_) (fun z => by omega) ?_ eO
    · rw [tx_up_ne _ _ _ (by decide), b5 21 (by omega)]
    · rw [tx_up_ne _ _ _ (by decide), b5 22 (by omega)]
    · rw [tx_up_ne _ _ _ (by decide), b5 25 (by omega)]
    · rw [px_upN (Or.inr (by omega)), b5 23 (by omega)]
    · rw [tx_up_ne _ _ _ (by decide), b6.1 45 (by decide)]
    · rw [tx_up_ne _ _ _ (by decide), b6.1 61 (by decide)]
    · rw [px_upN (Or.inr (by omega)), b6.1 62 (by decide)]
    · rw [px_up, px_up, if_pos rfl, if_pos rfl, if_pos rfl, if_pos rfl]
    · rw [eS]
      cases fx_Frame_push (tx_up σA 23 (4 * (md + 1)) x) (27 + 3 * k) (nI (md + 1)) <;> rfl
theorem SR_7 (hS : Sx s0 nC nF nM τ) (h : SS s0 nC nF nM τ σ ρ K off md nh mc k m i) (e : s0 13 (12 * m + i) = (7 : Int32)) : SR s0 nC nF τ σ ρ K off md nh mc k m := by
  obtain ⟨c0, c1, c2, c3⟩ := SS_C h
  obtain ⟨d0, d1, d2, d3, d4, d5⟩ := SS_M hS h
  obtain ⟨σ3, ρ6, e3, e6, a1, a2, a3, a4, a5, a6, hx, a8, a9⟩ := SS_adv hS h
  obtain ⟨m1, m2⟩ := h.2.2.2.2.1
  obtain ⟨g1, g2, g3, g4⟩ := h.2.2.2.1
  have hb := B_n hS.1
  obtain ⟨s, t1, t2, t3⟩ := nx_s hS m1 m2 (op := 7) (by decide) e
  have hn := nx_1 hS m1 m2 (by rw [e]; decide) (by rw [e]; decide) (by rw [e]; decide) t3
  rw [tr_7] at t1
  obtain ⟨⟨c, hc, ha⟩, t1⟩ := cif_some t1
  rw [ha, N_nI (by omega)] at t1
  obtain ⟨sA, hA, hg⟩ := bnd t1
  have eS := stp_7 c0 c1 c2 c3 hx e
  have eO := onc_7 d0 d1 d2 d3 d4 d5 hx e
  have s25 : (tx_up σ (27 + 3 * k) 1 (nI (i + 1))) 25 6 = nI mc := by rw [tx_up_ne _ _ _ (by omega)]; exact g1
  have s27 : (tx_up ρ 65 k (nI (i + 1))) 45 27 = nI mc := by rw [tx_up_ne _ _ _ (by decide)]; exact g2
  rw [ha] at eS
  rw [ha, px_2] at eO
  unfold fx_Machine_make at eS
  unfold fx_Mo_make at eO
  rw [s25] at eS
  rw [s27] at eO
  by_cases h8 : mc = 8
  · rw [if_pos ((px_n8 g3).mpr h8), px_ci, ← e3] at eS
    rw [if_pos ((px_n8 g3).mpr h8), px_ci, ← e6] at eO
    exact ⟨4, σ3, ρ6, eS, eO, NR_err4 h a1 a2⟩
  · obtain ⟨hT, p1, p2, u28, u20⟩ := mk_pre hS h (c + 2)
    have hlen := mkF_len nF _ _ hA
    have hs4 := a5.1
    obtain ⟨σ4, ρ4, f1, f2, f3, f4, ⟨f5, f6, f7, f8, f9⟩, ⟨f10, f11, f12, f13⟩, f14⟩ := mk_l hS a6 (c := c) (t := md + 1) (o := off + md) hc (by omega) (by omega) a8 nF tx_fu tx_fu (mC σ k i mc md (c + 2)) (mM ρ k i mc (off + md) (c + 2)) (τ m i) sA (Nat.le_refl _) (by unfold tx_fu; omega) (by unfold tx_fu; omega) hT a5 p1 p2 u28 u20 hA
    have w3 : (tx_up (tx_up σ (27 + 3 * k) 1 (nI (i + 1))) 25 6 (nI (mc + 1))) 21 3 = nI md := by
      rw [tx_up_ne _ _ _ (by decide), tx_up_ne _ _ _ (by omega)]
      exact h.2.1.1.1
    have hnew : fx_Heap_newThing (tx_up (tx_up σ (27 + 3 * k) 1 (nI (i + 1))) 25 6 (nI (mc + 1))) (nI (c + 2)) = some (nI (md + 1), mC σ k i mc md (c + 2)) := by
      unfold fx_Heap_newThing
      rw [px_pt, w3, nI_1, px_wr (j := md + 1) (by rw [px_up, if_pos rfl, if_pos rfl]) (by omega) (by decide), tx_up_ne _ _ _ (by decide), px_up, if_pos rfl, if_pos rfl]
      rfl
    have w20 : (tx_up (tx_up ρ 65 k (nI (i + 1))) 45 27 (nI (mc + 1))) 45 20 = nI (off + md) := by
      rw [px_upN (Or.inr (by decide)), tx_up_ne _ _ _ (by decide)]
      exact h.2.1.1.2.1
    have hBp := pe_B hS.1 p1
    rw [if_neg (fun z => h8 ((px_n8 g3).mp z)), px_pt, nI_1, px_2, hnew, px_ci, hBp.2.2.1.2.1, fx_Plan_slotOf_e hBp (by omega) (Nat.le_refl _), px_ci, ag_cw (pe_ag p1), f1] at eS
    have hmM : tx_up (tx_up (tx_up ρ 65 k (nI (i + 1))) 45 27 (nI (mc + 1))) 61 (off + md) (nI (c + 2)) = mM ρ k i mc (off + md) (c + 2) := rfl
    unfold fx_Mo_make_b52 at eO
    have hBm := pe_B hS.1 p2
    have w45 : mM ρ k i mc (off + md) (c + 2) 45 3 = nI nF := hBm.1.1.2.1.trans hBm.2.2.1.2.1
    rw [if_neg (fun z => h8 ((px_n8 g3).mp z)), px_pt, nI_1, w20, px_wr (j := off + md) rfl (by omega) (by decide), if_neg (show ¬ nI (c + 2) = 1 from fun z => by
      have := (nI_eq (b := 1) (by omega) (by decide)).mp z
      omega), hmM, w45, f2] at eO
    refine mk_post hS h (by omega) (t := c + 2) ⟨by omega, by omega⟩ ⟨f5, f6, f7, f8, fun j hj => f9 j (Or.inl hj)⟩ ⟨f10, f11, f12, fun j hj => f13 j (Or.inl hj)⟩ f3 f4 hg hn (fun z => by omega) (fun _ => ⟨by rw [Nat.add_sub_cancel]; omega, fun f hf ho => ?_⟩) ?_ eO
    · rw [Nat.add_sub_cancel] at ho ⊢
      exact f14 f hf ho
    · rw [eS]
      cases fx_Frame_push σ4 (27 + 3 * k) (nI (md + 1)) <;> rfl
end S5
