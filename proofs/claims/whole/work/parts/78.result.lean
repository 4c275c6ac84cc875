/-! handles, what a run tells -/
section HA
variable {s0 σ ρ : tx_St} {nC nF nM off md nh : Nat} {K : Nat → Nat} {τ : Nat → Nat → TS}
theorem fx_Mo_holds_e (ρ : tx_St) (x : Int32) : fx_Mo_holds ρ x = some (b01 (¬ x < 0 ∧ ¬ ρ 45 23 ≤ x), ρ) := by
  unfold fx_Mo_holds fx_Mo_holds_b16 fx_Mo_holds_b17
  by_cases h : x < 0
  · rw [if_pos h, px_rz (Or.inl rfl), b01, if_neg (fun z => z.1 h)]
  · rw [if_neg h]
    by_cases h2 : ρ 45 23 ≤ x
    · rw [if_pos h2, px_rz (Or.inl rfl), b01, if_neg (fun z => z.2 h2)]
    · rw [if_neg h2, px_rz (Or.inr rfl), b01, if_pos ⟨h, h2⟩]
/-- a number is a handle on both sides, or on neither -/
theorem ha_e (hh : hp s0 nC nF σ ρ K off md nh) (x : Int32) : (∃ h u, h < nh ∧ x = nI h ∧ 1 ≤ u ∧ u ≤ md ∧ σ 24 h = nI u ∧ ρ 63 h = nI (off + u) ∧ (∀ w : tx_St, w 21 = σ 21 → w 24 = σ 24 → fx_Heap_inHandle w x = some (nI u, w)) ∧ fx_Mo_holds ρ x = some (1, ρ)) ∨ ((¬ ∃ h, h < nh ∧ x = nI h) ∧ (∀ w : tx_St, w 21 = σ 21 → w 24 = σ 24 → fx_Heap_inHandle w x = some (0, w)) ∧ fx_Mo_holds ρ x = some (0, ρ)) := by
  obtain ⟨c1, c2, c3, c4⟩ := hh.2.2
  rw [fx_Mo_holds_e, c2]
  unfold fx_Heap_inHandle fx_Heap_inHandle_b21 fx_Heap_inHandle_b22
  by_cases h : ∃ j, j < nh ∧ x = nI j
  · obtain ⟨p1, p2⟩ := (px_in (n := nh) (by omega)).mpr h
    obtain ⟨j, j1, rfl⟩ := h
    obtain ⟨u, u1, u2, u3, u4⟩ := c4 j j1
    refine Or.inl ⟨j, u, j1, rfl, u1, u2, u3, u4, fun w w1 w2 => ?_, ?_⟩
    · rw [w1, c1, if_neg p1, if_neg p2, px_rd (j := j) rfl (by omega) (by decide), w2, u3]
    · rw [b01, if_pos ⟨p1, p2⟩]
  · have hn : ¬ (¬ x < 0 ∧ ¬ nI nh ≤ x) := fun z => h ((px_in (by omega)).mp z)
    refine Or.inr ⟨h, fun w w1 w2 => ?_, ?_⟩
    · by_cases h1 : x < 0
      · rw [if_pos h1]
      · rw [if_neg h1, w1, c1, if_pos (Classical.byContradiction fun z => hn ⟨h1, z⟩)]
    · rw [b01, if_neg hn]
theorem fits_m1 {t : Nat} (ht : t < 10) : fx_Plan_fits σ (-1) (nI t) = some (0, σ) := by
  unfold fx_Plan_fits fx_Plan_fits_b21 fx_Plan_fits_b22 fx_Plan_fits_b48 fx_Plan_fits_b49
  have : ¬ (-1 : Int32) = nI t := fun z => by
    have := nI_pos (n := t) (by omega)
    rw [← z] at this
    exact this (by decide)
  rw [if_neg this, if_pos (by decide), if_pos rfl, px_rz (Or.inl rfl)]
/-- the handle of a thing, both sides -/
theorem hd_l (hh : hp s0 nC nF σ ρ K off md nh) {u : Nat} (hu : 1 ≤ u ∧ u ≤ md) (hmd : off + md < 2 ^ 31) : ∀ n j F G : Nat, j + n = nh → n < F → n < G → (∃ h, h < nh ∧ fx_Heap_handleOf_b2 F σ (nI u) (nI j) = some (nI h, σ) ∧ fx_Mo_shown_b10 G ρ (nI (off + u)) (nI j) = some ((8589934592 : Int64) + (nI h).toInt64, ρ)) ∨ ((∀ h, j ≤ h → h < nh → σ 24 h ≠ nI u) ∧ fx_Heap_handleOf_b2 F σ (nI u) (nI j) = some (-1, σ) ∧ fx_Mo_shown_b10 G ρ (nI (off + u)) (nI j) = some ((34359738368 : Int64), ρ)) := by
  obtain ⟨c1, c2, c3, c4⟩ := hh.2.2
  intro n
  induction n with
  | zero =>
    intro j F G h1 h2 h3
    obtain ⟨F, rfl⟩ : ∃ F', F = F' + 1 := ⟨F - 1, by omega⟩
    obtain ⟨G, rfl⟩ : ∃ G', G = G' + 1 := ⟨G - 1, by omega⟩
    have hl : nI nh ≤ nI j := nI_le (by omega) (by omega)
    rw [fx_Heap_handleOf_b2, fx_Mo_shown_b10, c1, c2, if_pos hl, if_pos hl]
    exact Or.inr ⟨fun h _ _ => by omega, rfl, rfl⟩
  | succ n ih =>
    intro j F G h1 h2 h3
    obtain ⟨F, rfl⟩ : ∃ F', F = F' + 1 := ⟨F - 1, by omega⟩
    obtain ⟨G, rfl⟩ : ∃ G', G = G' + 1 := ⟨G - 1, by omega⟩
    have hl : ¬ nI nh ≤ nI j := nI_ge (by omega) (by omega)
    obtain ⟨w, w1, w2, w3, w4⟩ := c4 j (by omega)
    rw [fx_Heap_handleOf_b2, fx_Mo_shown_b10, c1, c2, if_neg hl, if_neg hl, px_rd (j := j) rfl (by omega) (by decide), px_rd (j := j) rfl (by omega) (by decide), w3, w4, nI_1]
    by_cases hw : w = u
    · subst hw
      rw [if_pos rfl, if_pos rfl]
      exact Or.inl ⟨j, by omega, rfl, rfl⟩
    · have e1 : ¬ nI w = nI u := fun z => hw ((nI_eq (by omega) (by omega)).mp z)
      have e2 : ¬ nI (off + w) = nI (off + u) := fun z => by
        have := (nI_eq (by omega) (by omega)).mp z
        omega
      rw [if_neg e1, if_neg e2]
      rcases ih (j + 1) F G (by omega) (by omega) (by omega) with h | ⟨h, h'⟩
      · exact Or.inl h
      · refine Or.inr ⟨fun q q1 q2 => ?_, h'⟩
        by_cases hq : q = j
        · rw [hq, w3]
          exact e1
        · exact h q (by omega) q2
theorem hd_e (hh : hp s0 nC nF σ ρ K off md nh) {u : Nat} (hu : 1 ≤ u ∧ u ≤ md) (hmd : off + md < 2 ^ 31) : (∃ h, h < nh ∧ fx_Heap_handleOf σ (nI u) = some (nI h, σ) ∧ fx_Mo_shown ρ (nI (off + u)) = some ((8589934592 : Int64) + (nI h).toInt64, ρ)) ∨ ((∀ h, h < nh → σ 24 h ≠ nI u) ∧ fx_Heap_handleOf σ (nI u) = some (-1, σ) ∧ fx_Mo_shown ρ (nI (off + u)) = some ((34359738368 : Int64), ρ)) := by
  have c3 := hh.2.2.2.2.1
  unfold fx_Heap_handleOf fx_Mo_shown
  rw [if_neg (nI_ne0 (by omega) (by omega))]
  rcases hd_l hh hu hmd nh 0 tx_fu tx_fu (by omega) (by unfold tx_fu; omega) (by unfold tx_fu; omega) with h | ⟨h, h'⟩
  · exact Or.inl h
  · exact Or.inr ⟨fun q hq => h q (by omega) hq, h'⟩
theorem nI_m1 {h : Nat} (hh : h < 2 ^ 31) : ¬ nI h = -1 := fun z => by
  have := nI_pos hh
  rw [z] at this
  exact this (by decide)
/-- a reference is told the same on both sides -/
theorem sh_e (hh : hp s0 nC nF σ ρ K off md nh) (hmd : off + md < 2 ^ 31) {t : Nat} {x y : Int32} (ht : 1 ≤ t) (ht2 : t < 2 ^ 31) (hv : vr s0 K off md t x y) : ∃ v, fx_X_answerOf σ (nI t) x = some (v, σ) ∧ fx_Mo_shown ρ y = some (v, ρ) := by
  have c3 := hh.2.2.2.2.1
  unfold fx_X_answerOf fx_X_answerOf_b41
  rw [if_neg (nI_ne0 (by omega) (by omega))]
  rcases th_e hh ht hv with ⟨rfl, rfl⟩ | ⟨u, u1, u2, rfl, rfl, -, -, -⟩
  · refine ⟨4294967296, by rw [if_pos rfl], ?_⟩
    unfold fx_Mo_shown
    rw [if_pos rfl]
  · rw [if_neg (nI_ne0 (by omega) (by omega))]
    rcases hd_e hh ⟨u1, u2⟩ hmd with ⟨h, h1, h2, h3⟩ | ⟨h1, h2, h3⟩
    · rw [h2, h3, px_ci, if_neg (nI_m1 (by omega))]
      exact ⟨_, rfl, rfl⟩
    · rw [h2, h3, px_ci, if_pos rfl]
      exact ⟨_, rfl, rfl⟩
/-- a new handle -/
theorem hp_h (hh : hp s0 nC nF σ ρ K off md nh) (hn : nh < 16) {u : Nat} (hu : 1 ≤ u ∧ u ≤ md) : hp s0 nC nF (tx_up (tx_up σ 24 nh (nI u)) 21 4 (nI (nh + 1))) (tx_up (tx_up ρ 63 nh (nI (off + u))) 45 23 (nI (nh + 1))) K off md (nh + 1) := by
  obtain ⟨⟨a1, a2, a3⟩, b, c1, c2, c3, c4⟩ := hh
  refine ⟨⟨?_, ?_, ?_⟩, ?_, ?_, ?_, by omega, fun h hh => ?_⟩
  · rw [px_upN (Or.inr (by decide)), tx_up_ne _ _ _ (by decide)]; exact a1
  · rw [px_upN (Or.inr (by decide)), tx_up_ne _ _ _ (by decide)]; exact a2
  · rw [tx_up_ne _ _ _ (by decide), tx_up_ne _ _ _ (by decide)]; exact a3
  · rw [tx_up_ne _ _ _ (show (22 : Nat) ≠ 21 by decide), tx_up_ne _ _ _ (show (22 : Nat) ≠ 24 by decide), tx_up_ne _ _ _ (show (23 : Nat) ≠ 21 by decide), tx_up_ne _ _ _ (show (23 : Nat) ≠ 24 by decide), tx_up_ne _ _ _ (show (61 : Nat) ≠ 45 by decide), tx_up_ne _ _ _ (show (61 : Nat) ≠ 63 by decide), tx_up_ne _ _ _ (show (62 : Nat) ≠ 45 by decide), tx_up_ne _ _ _ (show (62 : Nat) ≠ 63 by decide)]
    exact b
  · rw [px_up, if_pos rfl, if_pos rfl]
  · rw [px_up, if_pos rfl, if_pos rfl]
  · rw [tx_up_ne _ _ _ (show (24 : Nat) ≠ 21 by decide), tx_up_ne _ _ _ (show (63 : Nat) ≠ 45 by decide), px_up, px_up, if_pos rfl, if_pos rfl]
    by_cases hq : h = nh
    · rw [if_pos hq, if_pos hq]
      exact ⟨u, hu.1, hu.2, rfl, rfl⟩
    · rw [if_neg hq, if_neg hq]
      exact c4 h (by omega)
theorem lg_n : ∀ h, h < 16 → ¬ lg_cmp ((8589934592 : Int64) + (nI h).toInt64) 34359738368 = 0 := by decide +kernel
theorem lg_e : lg_cmp (34359738368 : Int64) 34359738368 = 0 := by decide
/-- the result of a run that gives a reference -/
theorem rs_e (hh : hp s0 nC nF σ ρ K off md nh) (hmd : off + md < 2 ^ 31) {t : Nat} (ht : 1 ≤ t) (ht2 : t < 2 ^ 31) (hv : vr s0 K off md t (σ 25 1) (ρ 45 34)) : ∃ v σ' ρ' nh', (tx_cv (fx_Heap_hold σ (σ 25 1)) fun w => fx_X_run_b175 w (nI t)) = some (v, σ') ∧ (tx_cl8 (fx_Mo_shown ρ (ρ 45 34)) fun r22 σ21 => (if (lg_cmp r22 (34359738368 : Int64)) = 0 then (if (16 : Int32) ≤ (σ21 45 23) then fx_Mo_run_b220  σ21 else tx_wr σ21 63 16 (σ21 45 23) (σ21 45 34) fun σ25 => tx_pt σ25 45 23 ((σ25 45 23) + (1 : Int32)) fun σ26 => fx_Mo_run_b220  σ26) else fx_Mo_run_b220  σ21)) = some (v, ρ') ∧ hp s0 nC nF σ' ρ' K off md nh' ∧ (∀ p, p ≠ 21 → p ≠ 24 → σ' p = σ p) ∧ (∀ p, p ≠ 45 → p ≠ 63 → ρ' p = ρ p) ∧ ∀ j, j ≠ 23 → ρ' 45 j = ρ 45 j := by
  obtain ⟨c1, c2, c3, c4⟩ := hh.2.2
  obtain ⟨v, w1, w2⟩ := sh_e hh hmd ht ht2 hv
  have key : ∀ (σ' ρ' : tx_St) (nh' : Nat), hp s0 nC nF σ' ρ' K off md nh' → σ' 25 = σ 25 → ρ' 45 34 = ρ 45 34 → ∃ v, fx_X_run_b175 σ' (nI t) = some (v, σ') ∧ fx_Mo_run_b220 ρ' = some (v, ρ') := by
    intro σ' ρ' nh' h1 h2 h3
    obtain ⟨v, k1, k2⟩ := sh_e (x := σ' 25 1) (y := ρ' 45 34) h1 hmd ht ht2 (by rw [h2, h3]; exact hv)
    unfold fx_X_run_b175 fx_Mo_run_b220
    rw [k1, k2, px_cl, px_cl]
    exact ⟨v, rfl, rfl⟩
  obtain ⟨v0, y1, y2⟩ := key σ ρ nh hh rfl rfl
  unfold fx_Heap_hold fx_Heap_hold_b13 fx_Heap_hold_b18 fx_Heap_hold_b32
  rcases th_e hh ht hv with ⟨e1, e2⟩ | ⟨u, u1, u2, e1, e2, -, -, -⟩
  · refine ⟨v0, σ, ρ, nh, ?_, ?_, hh, fun _ _ _ => rfl, fun _ _ _ => rfl, fun _ _ => rfl⟩
    · rw [e1, if_pos rfl, if_neg (by decide), px_cv, y1]
    · have : fx_Mo_shown ρ (ρ 45 34) = some (4294967296, ρ) := by
        unfold fx_Mo_shown
        rw [e2, if_pos rfl]
      rw [this, px_cl, if_neg (by decide), y2]
  · rcases hd_e hh ⟨u1, u2⟩ hmd with ⟨h, h1, h2, h3⟩ | ⟨h1, h2, h3⟩
    · refine ⟨v0, σ, ρ, nh, ?_, ?_, hh, fun _ _ _ => rfl, fun _ _ _ => rfl, fun _ _ => rfl⟩
      · rw [e1, if_neg (nI_ne0 (by omega) (by omega)), h2, px_ci, if_neg (nI_m1 (by omega)), if_neg (by decide), px_cv, y1]
      · rw [e2, h3, px_cl, if_neg (lg_n h (by omega)), y2]
    · by_cases hn : nh = 16
      · have hn1 : nI nh = 16 := by rw [hn]; rfl
        refine ⟨v0, σ, ρ, nh, ?_, ?_, hh, fun _ _ _ => rfl, fun _ _ _ => rfl, fun _ _ => rfl⟩
        · rw [e1, if_neg (nI_ne0 (by omega) (by omega)), h2, px_ci, if_pos rfl, if_pos rfl, c1, if_pos hn1, px_cv, y1]
        · rw [e2, h3, px_cl, if_pos lg_e, c2, hn1, if_pos (by decide), y2]
      · have hn1 : ¬ nI nh = 16 := fun z => hn ((nI_eq (b := 16) (by omega) (by decide)).mp z)
        have hn2 : ¬ (16 : Int32) ≤ nI nh := fun z => by
          have := (nI_leI (a := 16) (by decide) (by omega)).mp z
          omega
        have hh' := hp_h hh (by omega) ⟨u1, u2⟩
        obtain ⟨v1, z1, z2⟩ := key _ _ _ hh' (by rw [tx_up_ne _ _ _ (by decide), tx_up_ne _ _ _ (by decide)]) (by rw [px_upN (Or.inr (by decide)), tx_up_ne _ _ _ (by decide)])
        refine ⟨v1, _, _, nh + 1, ?_, ?_, hh', fun p p1 p2 => ?_, fun p p1 p2 => ?_, fun j hj => ?_⟩
        · rw [e1, if_neg (nI_ne0 (by omega) (by omega)), h2, px_ci, if_pos rfl, if_pos rfl, c1, if_neg hn1, px_wr (j := nh) rfl (by omega) (by decide), px_pt, tx_up_ne _ _ _ (show (21 : Nat) ≠ 24 by decide), c1, nI_1, px_cv, z1]
        · rw [e2, h3, px_cl, if_pos lg_e, c2, if_neg hn2, px_wr (j := nh) rfl (by omega) (by decide), px_pt, tx_up_ne _ _ _ (show (45 : Nat) ≠ 63 by decide), c2, nI_1, e2, z2]
        · rw [tx_up_ne _ _ _ p1, tx_up_ne _ _ _ p2]
        · rw [tx_up_ne _ _ _ p1, tx_up_ne _ _ _ p2]
        · rw [px_upN (Or.inr hj), tx_up_ne _ _ _ (by decide)]
end HA
