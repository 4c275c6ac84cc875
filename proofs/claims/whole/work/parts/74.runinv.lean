/-! the run's invariant, and a step's outcome -/
def RN (s0 : tx_St) (nC nF nM : Nat) (τ : Nat → Nat → TS) (R0 off nh : Nat) (σ ρ : tx_St) (K : Nat → Nat) (md mc un : Nat) (fr : Nat → Nat × Nat × TS) : Prop :=
  (pe s0 σ ∧ pe s0 ρ) ∧ hp s0 nC nF σ ρ K off md nh ∧ (ρ 45 28 = nI un ∧ σ 25 5 = nI un ∧ 1 ≤ un ∧ un ≤ 6) ∧ (σ 25 6 = nI mc ∧ ρ 45 27 = nI mc ∧ mc ≤ 8 ∧ off + md ≤ 312 + mc) ∧
  (∀ k, k < un → ((fr k).1 < nM ∧ (fr k).2.1 < N_ (s0 12 (fr k).1) ∧ (fr k).2.2.1.length ≤ 4) ∧ TF (vr s0 K off md) σ ρ k (fr k).1 (fr k).2.1 (fr k).2.2) ∧
  (fr (un - 1)).2.2 = τ (fr (un - 1)).1 (fr (un - 1)).2.1 ∧
  (∀ k, k + 1 < un → τ (fr k).1 (fr k).2.1 = (N_ (s0 11 (fr (k + 1)).1) :: (fr k).2.2.1, (fr k).2.2.2)) ∧
  N_ (s0 11 (fr 0).1) = R0
/-- only the run's places differ -/
def HC (σ σ' : tx_St) : Prop := (∀ p, (p < 21 ∨ p = 24 ∨ 44 < p) → σ' p = σ p) ∧ σ' 25 0 = σ 25 0
def HM (ρ ρ' : tx_St) : Prop := (∀ p, (p < 45 ∨ (46 ≤ p ∧ p ≤ 60) ∨ p = 63 ∨ 68 < p) → ρ' p = ρ p) ∧ ∀ j, j ≠ 20 → j ≠ 27 → j ≠ 28 → j ≠ 34 → ρ' 45 j = ρ 45 j
theorem HC_tr {a b c : tx_St} (h1 : HC a b) (h2 : HC b c) : HC a c := ⟨fun p hp => (h2.1 p hp).trans (h1.1 p hp), h2.2.trans h1.2⟩
theorem HM_tr {a b c : tx_St} (h1 : HM a b) (h2 : HM b c) : HM a c := ⟨fun p hp => (h2.1 p hp).trans (h1.1 p hp), fun j a b c d => (h2.2 j a b c d).trans (h1.2 j a b c d)⟩
theorem HC_G {k : Nat} {a b : tx_St} (hk : k < 6) (h : GC k a b) : HC a b := ⟨fun p hp => h.1 p (by omega), h.2.1⟩
theorem HM_G {k : Nat} {a b : tx_St} (h : GM k a b) : HM a b := ⟨fun p hp => h.1 p hp, fun j x y _ _ => h.2.1 j x y⟩
def OUT (s0 : tx_St) (nC nF nM : Nat) (τ : Nat → Nat → TS) (R0 off nh : Nat) (σ ρ : tx_St) (K : Nat → Nat) (md mc : Nat) (r : Int32) (σ' ρ' : tx_St) : Prop :=
  (HC σ σ' ∧ HM ρ ρ') ∧ ∃ K' md' mc', hp s0 nC nF σ' ρ' K' off md' nh ∧ (md ≤ md' ∧ (∀ u, u ≤ md → K' u = K u) ∧ md' + mc = md + mc' ∧ mc' ≤ 8) ∧
   ((r = 0 ∧ ∃ un' fr', RN s0 nC nF nM τ R0 off nh σ' ρ' K' md' mc' un' fr') ∨ (r = 0 ∧ σ' 25 5 = 0 ∧ ρ' 45 28 = 0 ∧ vr s0 K' off md' R0 (σ' 25 1) (ρ' 45 34)) ∨ (r = 1 ∨ r = 3 ∨ r = 4))
def uF (fr : Nat → Nat × Nat × TS) (k : Nat) (v : Nat × Nat × TS) : Nat → Nat × Nat × TS := fun q => if q = k then v else fr q
theorem uF_e {fr : Nat → Nat × Nat × TS} {k q : Nat} {v : Nat × Nat × TS} (h : q = k) : uF fr k v q = v := if_pos h
theorem uF_n {fr : Nat → Nat × Nat × TS} {k q : Nat} {v : Nat × Nat × TS} (h : ¬ q = k) : uF fr k v q = fr q := if_neg h
section RI
variable {s0 σ ρ : tx_St} {nC nF nM R0 off md nh mc un : Nat} {K : Nat → Nat} {τ : Nat → Nat → TS} {fr : Nat → Nat × Nat × TS}
theorem RN_SS (h : RN s0 nC nF nM τ R0 off nh σ ρ K md mc un fr) : SS s0 nC nF nM τ σ ρ K off md nh mc (un - 1) (fr (un - 1)).1 (fr (un - 1)).2.1 := by
  obtain ⟨h1, h2, ⟨h3, h4, h5, h6⟩, h7, h8, h9, h10, h11⟩ := h
  have := h8 (un - 1) (by omega)
  refine ⟨h1, h2, ⟨by rw [h3]; congr 1; omega, by rw [h4]; congr 1; omega, by omega⟩, h7, ⟨this.1.1, this.1.2.1⟩, ?_⟩
  rw [← h9]
  exact this.2
theorem pe_H {σ' : tx_St} (h : pe s0 σ) (hg : HC σ σ') : pe s0 σ' := ⟨fun p hp => (hg.1 p (by omega)).trans (h.1 p hp), fun j hj => by rw [hg.1 45 (by omega)]; exact h.2 j hj⟩
theorem pe_HM {ρ' : tx_St} (h : pe s0 ρ) (hg : HM ρ ρ') : pe s0 ρ' := ⟨fun p hp => (hg.1 p (by omega)).trans (h.1 p hp), fun j hj => (hg.2 j (by omega) (by omega) (by omega) (by omega)).trans (h.2 j hj)⟩
/-- a frame below -/
theorem TF_low {V V2 : Nat → Int32 → Int32 → Prop} {σ' ρ' : tx_St} {k q m i : Nat} {s : TS} (h : TF V σ ρ k m i s) (hs : s.1.length ≤ 4) (hq : k < q) (hV : ∀ t x y, V t x y → V2 t x y) (hC : GC q σ σ') (hM : GM q ρ ρ') : TF V2 σ' ρ' k m i s := TF_up h hs hV (fun p h1 h2 => hC.1 p (by omega)) (hM.2.2.1 k (by omega)) (fun j h1 h2 => hM.2.2.2.1 j (by omega)) (fun j h1 h2 => hM.2.2.2.2 j (by omega))
theorem OUT_SR (hS : Sx s0 nC nF nM τ) (h : RN s0 nC nF nM τ R0 off nh σ ρ K md mc un fr) (hr : SR s0 nC nF τ σ ρ K off md nh mc (un - 1) (fr (un - 1)).1) : ∃ r σ' ρ', fx_Machine_step σ (27 + 3 * (un - 1)) = some (r, σ') ∧ fx_Mo_once ρ = some (r, ρ') ∧ OUT s0 nC nF nM τ R0 off nh σ ρ K md mc r σ' ρ' := by
  obtain ⟨r, σ', ρ', e1, e2, K', md', mc', ⟨g1, g2⟩, ⟨c1, c2, c3, c4⟩, hh, ⟨d1, d2⟩, hr⟩ := hr
  obtain ⟨h1, h2, ⟨h3, h4, h5, h6⟩, ⟨h7, h7b, h7c, h7d⟩, h8, h9, h10, h11⟩ := h
  refine ⟨r, σ', ρ', e1, e2, ⟨HC_G (by omega) g1, HM_G g2⟩, K', md', mc', hh, ⟨c1, c2, c3, c4⟩, ?_⟩
  rcases hr with ⟨rfl, i', hi, hT⟩ | hr
  · refine Or.inl ⟨rfl, un, uF fr (un - 1) ((fr (un - 1)).1, i', τ (fr (un - 1)).1 i'), ⟨pe_GC h1.1 g1 (by omega), pe_GM h1.2 g2⟩, hh, ⟨?_, ?_, h5, h6⟩, ⟨d1, d2, c4, by omega⟩, fun k hk => ?_, ?_, fun k hk => ?_, ?_⟩
    · rw [g2.2.1 28 (by decide) (by decide)]; exact h3
    · rw [g1.2.2]; exact h4
    · by_cases hku : k = un - 1
      · subst hku
        rw [uF_e rfl]
        exact ⟨⟨(h8 _ hk).1.1, hi, (Ck_ok hS.2.1 (h8 _ hk).1.1 hi).1⟩, hT⟩
      · rw [uF_n hku]
        exact ⟨(h8 k hk).1, TF_low (h8 k hk).2 (h8 k hk).1.2.2 (by omega) (fun _ _ _ hv => vr_up c1 c2 hv) g1 g2⟩
    · rw [uF_e rfl]
    · have hk1 : ¬ k = un - 1 := by omega
      rw [uF_n hk1, h10 k hk]
      by_cases hk2 : k + 1 = un - 1
      · rw [uF_e hk2, hk2]
      · rw [uF_n hk2]
    · by_cases h0 : 0 = un - 1
      · rw [uF_e h0, ← h0]
        exact h11
      · rw [uF_n h0]
        exact h11
  · rcases hr with rfl | rfl
    · exact Or.inr (Or.inr (Or.inl rfl))
    · exact Or.inr (Or.inr (Or.inr (Or.inr rfl)))
/-- return -/
theorem OUT_19 (hS : Sx s0 nC nF nM τ) (h : RN s0 nC nF nM τ R0 off nh σ ρ K md mc un fr) (e : s0 13 (12 * (fr (un - 1)).1 + (fr (un - 1)).2.1) = (19 : Int32)) : ∃ r σ' ρ', fx_Machine_step σ (27 + 3 * (un - 1)) = some (r, σ') ∧ fx_Mo_once ρ = some (r, ρ') ∧ OUT s0 nC nF nM τ R0 off nh σ ρ K md mc r σ' ρ' := by
  have hSS := RN_SS h
  obtain ⟨c0, c1, c2, c3⟩ := SS_C hSS
  obtain ⟨d0, d1, d2, d3, d4, d5⟩ := SS_M hS hSS
  obtain ⟨σ3, ρ6, e3, e6, a1, a2, a3, a4, a5, a6, hx, a8, a9⟩ := SS_adv hS hSS
  obtain ⟨m1, m2⟩ := hSS.2.2.2.2.1
  obtain ⟨h1, h2, ⟨h3, h4, h5, h6⟩, ⟨h7, h7b, h7c, h7d⟩, h8, h9, h10, h11⟩ := h
  have hb := B_n hS.1
  obtain ⟨k, rfl⟩ : ∃ k, un = k + 1 := ⟨un - 1, by omega⟩
  simp only [Nat.add_sub_cancel] at *
  generalize hm : (fr k).1 = m at *
  generalize hi : (fr k).2.1 = i at *
  obtain ⟨s, t1, t2, t3⟩ := nx_s hS m1 m2 (op := 19) (by decide) e
  rw [tr_19] at t1
  have hty := (B_m11 hS.1 m1).1
  obtain ⟨x, y, σA, ρA, b1, b2, b3, b4, b5, b6, b7, b8⟩ := pp_take hS.1 a6 hty a4 a8 a3 a5 t1
  have eS := stp_19 c0 c1 c2 c3 hx e
  have eO := onc_19 d0 d1 d2 d3 d4 d5 hx e
  rw [← e3] at eS
  rw [← e6] at eO
  unfold fx_Machine_leave fx_Machine_leave_b43 at eS
  unfold fx_Mo_back fx_Mo_back_b32 at eO
  have aC := eC_tr a1 b5
  have aM := eM_tr a2 b6
  have s5 : σA 25 5 = nI (k + 1) := by rw [aC 25 (by omega)]; exact h4
  rw [b1, px_ci, px_pt, px_pt, px_upN (show (25 : Nat) ≠ 25 ∨ 5 ≠ 1 from Or.inr (by decide)), s5, px_s1] at eS
  rw [b2, px_ci, px_pt, px_pt, b7, px_s1] at eO
  have k5 : (tx_up (tx_up σA 25 1 x) 25 5 (nI k)) 25 5 = nI k := by rw [px_up, if_pos rfl, if_pos rfl]
  have k1 : (tx_up (tx_up σA 25 1 x) 25 5 (nI k)) 25 1 = x := by rw [px_upN (Or.inr (by decide)), px_up, if_pos rfl, if_pos rfl]
  have k28 : (tx_up (tx_up ρA 45 28 (nI k)) 45 34 y) 45 28 = nI k := by rw [px_upN (Or.inr (by decide)), px_up, if_pos rfl, if_pos rfl]
  rw [k5, k1] at eS
  rw [k28] at eO
  generalize hσB : tx_up (tx_up σA 25 1 x) 25 5 (nI k) = σB at eS k5 k1
  generalize hρB : tx_up (tx_up ρA 45 28 (nI k)) 45 34 y = ρB at eO k28
  have sC : ∀ p, p ≠ 25 → σB p = σA p := fun p hp => by rw [← hσB, tx_up_ne _ _ _ hp, tx_up_ne _ _ _ hp]
  have sM : ∀ p, p ≠ 45 → ρB p = ρA p := fun p hp => by rw [← hρB, tx_up_ne _ _ _ hp, tx_up_ne _ _ _ hp]
  have s45 : ∀ j, j ≠ 28 → j ≠ 34 → ρB 45 j = ρ 45 j := fun j q1 q2 => by rw [← hρB, px_upN (Or.inr q2), px_upN (Or.inr q1), aM.1 45 (by decide)]
  have s34 : ρB 45 34 = y := by rw [← hρB, px_up, if_pos rfl, if_pos rfl]
  have s25 : ∀ j, j ≠ 1 → j ≠ 5 → σB 25 j = σ 25 j := fun j q1 q2 => by rw [← hσB, px_upN (Or.inr q2), px_upN (Or.inr q1), aC 25 (by omega)]
  have hC : HC σ σB := ⟨fun p hp => (sC p (by omega)).trans (aC p (by omega)), s25 0 (by decide) (by decide)⟩
  have hM : HM ρ ρB := ⟨fun p hp => (sM p (by omega)).trans (aM.1 p (by omega)), fun j _ _ q1 q2 => s45 j q1 q2⟩
  have hhB : hp s0 nC nF σB ρB K off md nh := hp_eq h2 (fun p p1 p2 => (sC p (by omega)).trans (aC p (by omega))) (fun p p1 p2 => (sM p (by omega)).trans (aM.1 p (by omega))) (s45 20 (by decide) (by decide)) (s45 23 (by decide) (by decide))
  by_cases hk0 : k = 0
  · subst hk0
    rw [if_pos (show nI 0 ≤ 0 by decide), px_ci] at eS
    rw [if_pos (show nI 0 ≤ 0 by decide), px_cv] at eO
    refine ⟨0, σB, ρB, eS, eO, ⟨hC, hM⟩, K, md, mc, hhB, ⟨Nat.le_refl _, fun _ _ => rfl, rfl, h7c⟩, Or.inr (Or.inl ⟨rfl, k5, k28, ?_⟩)⟩
    rw [k1, s34, ← h11, hm]
    exact b3
  · obtain ⟨j, rfl⟩ : ∃ j, k = j + 1 := ⟨k - 1, by omega⟩
    have hnz : ¬ nI (j + 1) ≤ 0 := fun z => by
      have := (nI_leI (b := 0) (by omega) (by decide)).mp z
      omega
    obtain ⟨⟨f1, f2, f3⟩, fT⟩ := h8 j (by omega)
    have hτ := h10 j (by omega)
    rw [hm] at hτ
    have hokj := Ck_ok hS.2.1 f1 f2
    rw [hτ] at hokj
    have hlen : (fr j).2.2.1.length + 1 ≤ 4 := hokj.1
    have hTB : TF (vr s0 K off md) σB ρB j (fr j).1 (fr j).2.1 ((fr j).2.2.1, (fr j).2.2.2) := TF_up fT f3 (fun _ _ _ h => h) (fun p p1 p2 => (sC p (by omega)).trans (aC p (by omega))) ⟨by rw [sM 64 (by decide)]; exact (aM.2.1 j (by omega)).1, by rw [sM 65 (by decide)]; exact (aM.2.1 j (by omega)).2.1, by rw [sM 66 (by decide)]; exact (aM.2.1 j (by omega)).2.2⟩ (fun q q1 q2 => by rw [sM 67 (by decide)]; exact aM.2.2.1 q (by omega)) (fun q q1 q2 => by rw [sM 68 (by decide)]; exact aM.2.2.2 q (by omega))
    have hgv : gv (N_ (s0 11 m)) ((fr j).2.2.1, (fr j).2.2.2) = some (N_ (s0 11 m) :: (fr j).2.2.1, (fr j).2.2.2) := by
      unfold gv
      exact if_neg (by show ¬ (fr j).2.2.1.length = 4; omega)
    obtain ⟨σ', ρ', g1, g2, g3, g4, g5, g6⟩ := pp_push (nC := nC) k28 (by omega) hTB (okS_tl hokj).1 hgv b3
    have hrf : ∀ {β : Type} (f : Nat → Option β), tx_rf (nI j) f = f (27 + 3 * j) := fun f => by
      unfold tx_rf
      rw [nI_clamp (by omega), if_neg]
      rintro (z | z)
      · exact nI_pos (by omega) z
      · omega
    rw [if_neg hnz, px_s1, hrf, g1, px_cv, px_ci] at eS
    rw [if_neg hnz, g2, px_cv, px_cv] at eO
    refine ⟨0, σ', ρ', eS, eO, ⟨HC_tr hC (HC_G (by omega) (GC_e g4)), HM_tr hM (HM_G (GM_e g5))⟩, K, md, mc, hp_e hhB g4 g5, ⟨Nat.le_refl _, fun _ _ => rfl, rfl, h7c⟩, Or.inl ⟨rfl, j + 1, uF fr j ((fr j).1, (fr j).2.1, τ (fr j).1 (fr j).2.1), ⟨pe_H h1.1 (HC_tr hC (HC_G (by omega) (GC_e g4))), pe_HM h1.2 (HM_tr hM (HM_G (GM_e g5)))⟩, hp_e hhB g4 g5, ⟨g6, ?_, by omega, by omega⟩, ⟨?_, ?_, h7c, h7d⟩, fun q hq => ?_, ?_, fun q hq => ?_, ?_⟩⟩
    · rw [g4 25 (by omega)]; exact k5
    · rw [g4 25 (by omega), s25 6 (by decide) (by decide)]; exact h7
    · rw [g5.1 45 (by decide), s45 27 (by decide) (by decide)]; exact h7b
    · by_cases hqj : q = j
      · subst hqj
        rw [uF_e rfl, hτ]
        exact ⟨⟨f1, f2, hlen⟩, g3⟩
      · rw [uF_n hqj]
        obtain ⟨w1, w2⟩ := h8 q (by omega)
        have wB : TF (vr s0 K off md) σB ρB q (fr q).1 (fr q).2.1 (fr q).2.2 := TF_up w2 w1.2.2 (fun _ _ _ h => h) (fun p p1 p2 => (sC p (by omega)).trans (aC p (by omega))) ⟨by rw [sM 64 (by decide)]; exact (aM.2.1 q (by omega)).1, by rw [sM 65 (by decide)]; exact (aM.2.1 q (by omega)).2.1, by rw [sM 66 (by decide)]; exact (aM.2.1 q (by omega)).2.2⟩ (fun r q1 q2 => by rw [sM 67 (by decide)]; exact aM.2.2.1 r (by omega)) (fun r q1 q2 => by rw [sM 68 (by decide)]; exact aM.2.2.2 r (by omega))
        exact ⟨w1, TF_ne wB w1.2.2 (fun z => hqj z.symm) g4 g5⟩
    · rw [uF_e (show j + 1 - 1 = j by omega)]
    · have hq1 : ¬ q = j := by omega
      rw [uF_n hq1, h10 q (by omega)]
      by_cases hq2 : q + 1 = j
      · rw [uF_e hq2, hq2]
      · rw [uF_n hq2]
    · by_cases h0 : 0 = j
      · rw [uF_e h0]
        subst h0
        exact h11
      · rw [uF_n h0]
        exact h11
end RI
