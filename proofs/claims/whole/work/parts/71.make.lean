/-! steps: things are made -/
section S4
variable {s0 σ ρ : tx_St} {nC nF nM off md nh mc k m i : Nat} {K : Nat → Nat} {τ : Nat → Nat → TS}
def K_ (K : Nat → Nat) (n t : Nat) : Nat → Nat := fun u => if u = n then t else K u
theorem K_n {n t : Nat} : K_ K n t n = t := if_pos rfl
theorem K_o {n t u : Nat} (h : u ≠ n) : K_ K n t u = K u := if_neg h
theorem hp_new {σ' ρ' : tx_St} {t : Nat} (h : hp s0 nC nF σ ρ K off md nh) (ht : 1 ≤ t ∧ t < nC + 2) (n1 : σ' 21 3 = nI (md + 1) ∧ ρ' 45 20 = nI (off + (md + 1)) ∧ σ' 21 4 = σ 21 4 ∧ ρ' 45 23 = ρ 45 23 ∧ σ' 24 = σ 24 ∧ ρ' 63 = ρ 63)
    (n2 : σ' 22 (md + 1) = nI t ∧ ∀ j, j ≠ md + 1 → σ' 22 j = σ 22 j) (n3 : ρ' 61 (off + md) = nI t ∧ ∀ j, j ≠ off + md → ρ' 61 j = ρ 61 j) (n4 : (∀ j, j < 4 * (md + 1) → σ' 23 j = σ 23 j) ∧ ∀ j, j < 12 * (off + md) → ρ' 62 j = ρ 62 j)
    (n5 : t = 1 → σ' 23 (4 * (md + 1)) = ρ' 62 (12 * (off + md))) (n6 : 2 ≤ t → cw s0 (t - 2) nF ≤ 4 ∧ ∀ f, f < nF → ow s0 (t - 2) f → vr s0 K off md (N_ (s0 6 f)) (σ' 23 (4 * (md + 1) + cw s0 (t - 2) f)) (ρ' 62 (12 * (off + md) + f))) (hF12 : nF ≤ 12) : hp s0 nC nF σ' ρ' (K_ K (md + 1) t) off (md + 1) nh := by
  obtain ⟨⟨a1, a2, a3⟩, ⟨b0, b⟩, c1, c2, c3, c4⟩ := h
  have up : ∀ {w x y}, vr s0 K off md w x y → vr s0 (K_ K (md + 1) t) off (md + 1) w x y := fun hv => vr_up (by omega) (fun u hu => K_o (by omega)) hv
  refine ⟨⟨n1.1, n1.2.1, by rw [n2.2 0 (by omega)]; exact a3⟩, ⟨fun u u1 u2 => ?_, fun u u1 u2 => ?_⟩, n1.2.2.1.trans c1, n1.2.2.2.1.trans c2, c3, fun hh hlt => ?_⟩
  · by_cases hu : u = md + 1
    · rw [hu, K_n]
      exact ht
    · rw [K_o hu]
      exact b0 u u1 (by omega)
  · by_cases hu : u = md + 1
    · subst hu
      rw [K_n, show off + (md + 1) - 1 = off + md by omega]
      exact ⟨n2.1, n3.1, n5, fun e => ⟨(n6 e).1, fun f hf ho => up ((n6 e).2 f hf ho)⟩⟩
    · obtain ⟨d1, d2, d3, d4⟩ := b u u1 (by omega)
      rw [K_o hu]
      refine ⟨by rw [n2.2 u hu]; exact d1, by rw [n3.2 _ (by omega)]; exact d2, fun e => ?_, fun e => ⟨(d4 e).1, fun f hf ho => ?_⟩⟩
      · rw [n4.1 _ (by omega), n4.2 _ (by omega)]
        exact d3 e
      · have := Nat.lt_of_lt_of_le (cw_lt ho hf) (d4 e).1
        rw [n4.1 _ (by omega), n4.2 _ (by omega)]
        exact up ((d4 e).2 f hf ho)
  · obtain ⟨u, u1, u2, u3, u4⟩ := c4 hh hlt
    rw [n1.2.2.2.2.1, n1.2.2.2.2.2]
    exact ⟨u, u1, by omega, u3, u4⟩
theorem mkF_none {c : Nat} : ∀ f, mkF s0 c f none = none
  | 0 => rfl
  | f + 1 => by
    rw [mkF]
    rcases Classical.em (ow s0 c f) with h | h
    · rw [cif_t h]
      exact mkF_none f
    · rw [cif_f h]
      exact mkF_none f
theorem mkF_t {c f : Nat} {s s2 : TS} (h : ow s0 c f) (e : mkF s0 c (f + 1) (some s) = some s2) : ∃ sA, tk s0 (N_ (s0 6 f)) s = some sA ∧ mkF s0 c f (some sA) = some s2 := by
  rw [mkF, cif_t h] at e
  have e' : mkF s0 c f (tk s0 (N_ (s0 6 f)) s) = some s2 := e
  cases ht : tk s0 (N_ (s0 6 f)) s with
  | none =>
    rw [ht, mkF_none] at e'
    cases e'
  | some sA =>
    rw [ht] at e'
    exact ⟨sA, rfl, e'⟩
theorem mkF_f {c f : Nat} {o : Option TS} (h : ¬ ow s0 c f) : mkF s0 c (f + 1) o = mkF s0 c f o := by rw [mkF, cif_f h]
theorem mkF_len {c : Nat} : ∀ (f : Nat) (s s2 : TS), mkF s0 c f (some s) = some s2 → s.1.length = s2.1.length + cw s0 c f
  | 0, s, s2, h => by
    cases h
    rfl
  | f + 1, s, s2, h => by
    rcases Classical.em (ow s0 c f) with ho | ho
    · obtain ⟨sA, h1, h2⟩ := mkF_t ho h
      have ih := mkF_len f sA s2 h2
      obtain ⟨t, st, e1, -, e3⟩ := tk_inv h1
      rw [cw_t ho, e1]
      rw [e3] at ih
      simp only [List.length_cons] at ih ⊢
      omega
    · rw [mkF_f ho] at h
      rw [cw_f ho]
      exact mkF_len f s s2 h
/-- the fields of a new thing -/
theorem mk_l (hS : Sx s0 nC nF nM τ) (hK : okK nC md K) {c t o : Nat} (hc : c < nC) (ht : t ≤ 320) (ho320 : o < 320) (hk6 : k < 6) : ∀ (f F1 F2 : Nat) (σ ρ : tx_St) (s s2 : TS), f ≤ nF → cw s0 c f < F1 → f < F2 → TF (vr s0 K off md) σ ρ k m i s → okS (nC + 2) s → pe s0 σ → pe s0 ρ → ρ 45 28 = nI (k + 1) → ρ 45 20 = nI o → mkF s0 c f (some s) = some s2 →
    ∃ σ' ρ', fx_Machine_make_b55 F1 σ (27 + 3 * k) (nI t) (nI (cw s0 c f) - 1) = (tx_cv (fx_Frame_push σ' (27 + 3 * k) (nI t)) fun w => some ((0 : Int32), w)) ∧ fx_Mo_make_b59 F2 ρ (nI (c + 2)) (nI f - 1) = fx_Mo_make_b103 ρ' ∧ TF (vr s0 K off md) σ' ρ' k m i s2 ∧ okS (nC + 2) s2 ∧
      (GC k σ σ' ∧ σ' 21 = σ 21 ∧ σ' 22 = σ 22 ∧ σ' 25 = σ 25 ∧ ∀ j, (j < 4 * t ∨ 4 * t + cw s0 c f ≤ j) → σ' 23 j = σ 23 j) ∧ (GM k ρ ρ' ∧ ρ' 45 = ρ 45 ∧ ρ' 61 = ρ 61 ∧ ∀ j, (j < 12 * o ∨ 12 * o + f ≤ j) → ρ' 62 j = ρ 62 j) ∧
      ∀ g, g < f → ow s0 c g → vr s0 K off md (N_ (s0 6 g)) (σ' 23 (4 * t + cw s0 c g)) (ρ' 62 (12 * o + g)) := by
  have hb := B_n hS.1
  intro f
  induction f with
  | zero =>
    intro F1 F2 σ ρ s s2 hf hF1 hF2 hT hok p1 p2 hu h20 hm
    obtain ⟨F1, rfl⟩ : ∃ G, F1 = G + 1 := ⟨F1 - 1, by omega⟩
    obtain ⟨F2, rfl⟩ : ∃ G, F2 = G + 1 := ⟨F2 - 1, by omega⟩
    cases hm
    refine ⟨σ, ρ, ?_, ?_, hT, hok, ⟨GC_e (eC_rf _ _), rfl, rfl, rfl, fun _ _ => rfl⟩, ⟨GM_e (eM_rf _ _), rfl, rfl, fun _ _ => rfl⟩, fun g hg => by omega⟩
    · rw [show cw s0 c 0 = 0 from rfl, fx_Machine_make_b55, if_pos (by decide)]
    · rw [fx_Mo_make_b59, if_pos (by decide)]
  | succ f ih =>
    intro F1 F2 σ ρ s s2 hf hF1 hF2 hT hok p1 p2 hu h20 hm
    obtain ⟨F2, rfl⟩ : ∃ G, F2 = G + 1 := ⟨F2 - 1, by omega⟩
    have hBρ := pe_B hS.1 p2
    have how : fx_Mo_owns ρ (nI c) (nI f) = some (bP (ow s0 c f), ρ) := by
      rw [fx_Mo_owns_e hBρ hc (by omega), ag_ow (pe_ag p2)]
    have hM0 : fx_Mo_make_b59 (F2 + 1) ρ (nI (c + 2)) (nI (f + 1) - 1) = (if bP (ow s0 c f) = 0 then fx_Mo_make_b59 F2 ρ (nI (c + 2)) (nI f - 1) else tx_ci (fx_Mo_pop ρ) fun r14 σ13 => tx_wr σ13 62 3840 (nI (12 * o + f)) r14 fun σ15 => fx_Mo_make_b59 F2 σ15 (nI (c + 2)) (nI f - 1)) := by
      rw [fx_Mo_make_b59, px_s1, if_neg (nI_pos (by omega)), if_neg (show ¬ nI (c + 2) ≤ 1 from fun z => by
        have := (nI_leI (b := 1) (by omega) (by decide)).mp z
        omega), px_m2, how, px_ci]
      unfold fx_Mo_make_b97
      rw [px_m1, h20, px_ix12']
    rcases Classical.em (ow s0 c f) with ho | ho
    · obtain ⟨F1, rfl⟩ : ∃ G, F1 = G + 1 := ⟨F1 - 1, by omega⟩
      obtain ⟨sA, h1, h2⟩ := mkF_t ho hm
      have hty := (B_f6 hS.1 (f := f) (by omega)).1
      have hlen := mkF_len (f + 1) s s2 hm
      have hs4 := hok.1
      rw [cw_t ho] at hlen hF1 ⊢
      obtain ⟨x, y, σA, ρA, b1, b2, b3, b4, b5, b6, b7, b8⟩ := pp_take hS.1 hK hty hu hk6 hT hok h1
      obtain ⟨σ', ρ', g1, g2, g3, g4, ⟨g5, g6, g7, g8, g9⟩, ⟨g10, g11, g12, g13⟩, g14⟩ := ih F1 F2 (tx_up σA 23 (4 * t + cw s0 c f) x) (tx_up ρA 62 (12 * o + f) y) sA s2 (by omega) (by omega) (by omega) (TF_w b4 b8.1 (by decide) (by decide)) b8 (pe_GC p1 (GC_tr (GC_e b5) (GC_23 _ _ (by omega))) hk6) (pe_GM p2 (GM_tr (GM_e b6) (GM_62 _ _ (by omega)))) (by rw [tx_up_ne _ _ _ (by decide)]; exact b7) (by rw [tx_up_ne _ _ _ (by decide), b6.1 45 (by decide)]; exact h20) h2
      refine ⟨σ', ρ', ?_, ?_, g3, g4, ⟨GC_tr (GC_tr (GC_e b5) (GC_23 _ _ (by omega))) g5, ?_, ?_, ?_, fun j hj => ?_⟩, ⟨GM_tr (GM_tr (GM_e b6) (GM_62 _ _ (by omega))) g10, ?_, ?_, fun j hj => ?_⟩, fun g hg hog => ?_⟩
      · rw [fx_Machine_make_b55, px_s1, if_neg (nI_pos (by omega)), b1, px_ci]
        unfold fx_Heap_setSlot
        rw [px_ix4, px_wr (j := 4 * t + cw s0 c f) rfl (by omega) (by decide), px_cv, px_m1]
        exact g1
      · rw [hM0, bP_t ho, if_neg (by decide), b2, px_ci, px_wr (j := 12 * o + f) rfl (by omega) (by decide)]
        exact g2
      · rw [g6, tx_up_ne _ _ _ (by decide), b5 21 (by omega)]
      · rw [g7, tx_up_ne _ _ _ (by decide), b5 22 (by omega)]
      · rw [g8, tx_up_ne _ _ _ (by decide), b5 25 (by omega)]
      · rw [g9 j (by omega), px_upN (Or.inr (by omega)), b5 23 (by omega)]
      · rw [g11, tx_up_ne _ _ _ (by decide), b6.1 45 (by decide)]
      · rw [g12, tx_up_ne _ _ _ (by decide), b6.1 61 (by decide)]
      · rw [g13 j (by omega), px_upN (Or.inr (by omega)), b6.1 62 (by decide)]
      · by_cases hgf : g = f
        · subst hgf
          rw [g9 _ (by omega), g13 _ (by omega), px_up, px_up, if_pos rfl, if_pos rfl, if_pos rfl, if_pos rfl]
          exact b3
        · exact g14 g (by omega) hog
    · rw [mkF_f ho] at hm
      rw [cw_f ho] at hF1 ⊢
      obtain ⟨σ', ρ', g1, g2, g3, g4, ⟨g5, g6, g7, g8, g9⟩, ⟨g10, g11, g12, g13⟩, g14⟩ := ih F1 F2 σ ρ s s2 (by omega) hF1 (by omega) hT hok p1 p2 hu h20 hm
      refine ⟨σ', ρ', g1, by rw [hM0, bP_f ho, if_pos rfl]; exact g2, g3, g4, ⟨g5, g6, g7, g8, g9⟩, ⟨g10, g11, g12, fun j hj => g13 j (by omega)⟩, fun g hg hog => ?_⟩
      by_cases hgf : g = f
      · exact absurd (hgf ▸ hog) ho
      · exact g14 g (by omega) hog
end S4
