/-! the reference's check of a method's code -/
theorem B_eq45 {σ τ : tx_St} {nC nF nM : Nat} (hB : iv_B σ nC nF nM) (h : ∀ k, ((0 < k ∧ k < 15) ∨ (46 ≤ k ∧ k ≤ 58)) → τ k = σ k) (h45 : ∀ j, (j = 0 ∨ j = 3 ∨ j = 7) → τ 45 j = σ 45 j) : iv_B τ nC nF nM := by
  refine B_eq (σ := fun k => if k = 45 then τ 45 else σ k) ?_ (fun k hk => ?_)
  · obtain ⟨⟨⟨a0, a1, a2⟩, r1, r2, r3, r4, r5, r6, r7, r8, r9, r10, r11⟩, hc, ⟨k0, k1, k2⟩, hC, hF, hM⟩ := hB
    exact ⟨⟨⟨(h45 0 (by omega)).trans a0, (h45 3 (by omega)).trans a1, (h45 7 (by omega)).trans a2⟩, r1, r2, r3, r4, r5, r6, r7, r8, r9, r10, r11⟩, hc, ⟨k0, k1, k2⟩, hC, hF, hM⟩
  · by_cases hk2 : k = 45
    · simp only [hk2, if_true]
    · simp only [hk2, if_false]
      exact h k (by omega)
theorem px_ent1 : ∀ c, c < 8 → ((3 : Int32) + nI c) <<< ((16 : Int32) &&& 31) = nI (pk_ ([], c + 3, 0, 0)) := by decide +kernel
theorem px_ent2 : ∀ c, c < 8 → ∀ p, p < 10 → nI (pk_ ([], c + 3, 0, 0)) ||| ((nI p + (1 : Int32)) <<< (((16 : Int32) + ((4 : Int32) * (1 : Int32))) &&& 31)) = nI (pk_ ([], c + 3, p + 1, 0)) := by decide +kernel
theorem px_ent3 : ∀ p, p < 10 → (0 : Int32) ||| ((nI p + (1 : Int32)) <<< (((16 : Int32) + ((4 : Int32) * (0 : Int32))) &&& 31)) = nI (pk_ ([], p + 1, 0, 0)) := by decide +kernel
theorem px_ent0 : (0 : Int32) = nI (pk_ ([], 0, 0, 0)) := by decide +kernel
def yF (s0 σ : tx_St) (m : Nat) : Prop := (∀ k, k ≠ 45 → k ≠ 59 → k ≠ 60 → σ k = s0 k) ∧ (∀ j, j ≠ 19 → σ 45 j = s0 45 j) ∧ ∀ i, (i < 12 * m ∨ 12 * m + 12 ≤ i) → σ 59 i = s0 59 i
def yJ (s0 σ : tx_St) (nC nF nM m L : Nat) (P : Nat → Prop) (T : Nat → TS) : Prop := yF s0 σ m ∧ gd s0 nC nF nM m L P T ∧ (∀ i, i < 12 → σ 60 (12 * m + i) = bP (P i)) ∧ ∀ i, P i → σ 59 (12 * m + i) = nI (pk_ (T i))
def yC (s0 ρ : tx_St) (nC nF nM m L : Nat) : Prop := yF s0 ρ m ∧ ∀ τ, okM s0 nC nF nM m L τ → ∀ i, i < L → ρ 59 (12 * m + i) = nI (pk_ (τ i))
section YF
variable {s0 σ : tx_St} {nC nF nM m L q : Nat} {P : Nat → Prop} {T : Nat → TS}
theorem yF_rf : yF s0 s0 m := ⟨fun _ _ _ _ => rfl, fun _ _ => rfl, fun _ _ => rfl⟩
theorem yF_B (hB : iv_B s0 nC nF nM) (h : yF s0 σ m) : iv_B σ nC nF nM := B_eq45 hB (fun k hk => h.1 k (by omega) (by omega) (by omega)) (fun j hj => h.2.1 j (by omega))
theorem yF_ag (h : yF s0 σ m) : ag s0 σ := fun k h1 h2 => h.1 k (by omega) (by omega) (by omega)
theorem yF_C (h : yF s0 σ m) (hn : ¬ OKM s0 nC nF nM m L) : yC s0 σ nC nF nM m L := ⟨h, fun τ hτ => absurd ⟨τ, hτ⟩ hn⟩
theorem yF_u {k j : Nat} {x : Int32} (h : yF s0 σ m) (hk : (k = 45 ∧ j = 19) ∨ (k = 59 ∧ ∃ i, i < 12 ∧ j = 12 * m + i) ∨ k = 60) : yF s0 (tx_up σ k j x) m := by
  refine ⟨fun q h1 h2 h3 => ?_, fun i hi => ?_, fun i hi => ?_⟩
  · rw [tx_up_ne _ _ _ (by rcases hk with ⟨rfl, -⟩ | ⟨rfl, -⟩ | rfl <;> assumption)]
    exact h.1 q h1 h2 h3
  · rw [px_upN (by rcases hk with ⟨rfl, rfl⟩ | ⟨rfl, -⟩ | rfl <;> first | exact Or.inr hi | exact Or.inl (by decide))]
    exact h.2.1 i hi
  · rw [px_upN (by rcases hk with ⟨rfl, rfl⟩ | ⟨rfl, q, hq, rfl⟩ | rfl <;> first | exact Or.inl (by decide) | exact Or.inr (by omega))]
    exact h.2.2 i hi
theorem yJ_more (h : yJ s0 σ nC nF nM m L P T) (x : Int32) : yJ s0 (tx_up σ 45 19 x) nC nF nM m L P T := by
  obtain ⟨h1, h2, h3, h4⟩ := h
  exact ⟨yF_u h1 (Or.inl ⟨rfl, rfl⟩), h2, fun i hi => by rw [tx_up_ne _ _ _ (by decide)]; exact h3 i hi, fun i hi => by rw [tx_up_ne _ _ _ (by decide)]; exact h4 i hi⟩
theorem px_ix12s (m : Nat) : (12 : Int32) * nI m = nI (12 * m) := by
  have h := px_ix12' m 0
  rw [show nI 0 = (0 : Int32) by decide, Int32.add_zero] at h
  exact h
/-- one led -/
theorem y_led (hB : iv_B s0 nC nF nM) (hm : m < nM) (hL : L ≤ 12) (hl : s0 12 m = nI L) {i : Nat} {s : TS} {x : Int32} (hJ : yJ s0 σ nC nF nM m L P T) (hok : okS (nC + 2) s) (hi : P i) (ht : tri s0 nC nF nM m i (T i) = some s) (hsc : x ∈ sc s0 m i) :
    ∃ r ρ, fx_Mo_led σ (nI m) x (nI (pk_ s)) = some (r, ρ) ∧ ((r = 0 ∧ yF s0 ρ m ∧ ¬ OKM s0 nC nF nM m L) ∨ (r = 1 ∧ ∃ P2 T2, yJ s0 ρ nC nF nM m L P2 T2 ∧ (∀ k, P k → P2 k) ∧ (∀ k, P k → T2 k = T k) ∧ ((ρ 45 19 = σ 45 19 ∧ P2 = P ∧ T2 = T) ∨ (ρ 45 19 = 1 ∧ ct P L + 1 ≤ ct P2 L)) ∧ ∃ j, x = nI j ∧ P2 j ∧ T2 j = s)) := by
  have hb := B_n hB
  have hJ0 := hJ
  obtain ⟨h1, h6, h7, h9⟩ := hJ
  have hn10 : nC + 2 ≤ 10 := by omega
  have hl2 : σ 56 m = nI L := by rw [h1.1 56 (by decide) (by decide) (by decide), hB.1.2.2.2.2.2.2.2.2.2.1]; exact hl
  unfold fx_Mo_led fx_Mo_led_b14 fx_Mo_led_b50
  rw [px_rd (j := m) rfl (by omega) (by decide), hl2]
  by_cases hc : cI L x
  · obtain ⟨c1, c2⟩ := cI_N (by omega) hc
    generalize hj : N_ x = j at *
    subst c2
    have hix : 12 * m + j < 96 := by omega
    rw [if_neg (nI_pos (by omega)), if_pos (nI_lt c1 (by omega)), px_ix12', px_rd (j := 12 * m + j) rfl hix (by decide), h7 j (by omega)]
    by_cases hp : P j
    · have e9 := h9 j hp
      have hokj := (h6.2.2.1 j hp).2.1
      have hlt := pq_lt hn10 hokj
      have hlt2 := pq_lt hn10 hok
      rw [bP_t hp, if_neg (by decide), px_rd (j := 12 * m + j) rfl hix (by decide), e9]
      by_cases hT : T j = s
      · rw [if_pos (by rw [hT]), px_rz (Or.inr rfl)]
        exact ⟨1, σ, rfl, Or.inr ⟨rfl, P, T, hJ0, fun _ h => h, fun _ _ => rfl, Or.inl ⟨rfl, rfl, rfl⟩, j, rfl, hp, hT⟩⟩
      · rw [if_neg (fun z => hT (pk_inj hn10 hokj hok ((nI_eq (by omega) (by omega)).mp z))), px_rz (Or.inl rfl)]
        exact ⟨0, σ, rfl, Or.inl ⟨rfl, h1, gd_ne hL h6 hi ht hsc hp hT⟩⟩
    · rw [bP_f hp, if_pos rfl, px_wz (j := 12 * m + j) rfl hix (by decide) (Or.inr rfl), px_wr (j := 12 * m + j) rfl hix (by decide), px_pz (Or.inr rfl)]
      refine ⟨1, _, rfl, Or.inr ⟨rfl, fun k => P k ∨ k = j, uT T j s, ⟨yF_u (yF_u (yF_u h1 (Or.inr (Or.inr rfl))) (Or.inr (Or.inl ⟨rfl, j, by omega, rfl⟩))) (Or.inl ⟨rfl, rfl⟩), gd_add hL hB hm h6 hi ht c1 hsc hp, fun q hq => ?_, fun q hq => ?_⟩, fun k h => Or.inl h, fun k h => uT_n (fun e => hp (e ▸ h)), Or.inr ⟨by simp [px_up], by rw [ct_add hp L c1]; exact Nat.le_refl _⟩, j, rfl, Or.inr rfl, uT_s⟩⟩
      · by_cases hqj : q = j
        · subst hqj
          rw [bP_t (Or.inr rfl)]
          simp [px_up]
        · rw [bP_c (show (P q ∨ q = j) ↔ P q from ⟨fun z => z.resolve_right hqj, Or.inl⟩)]
          simp [px_up, hqj]
          exact h7 q hq
      · rcases hq with hq | rfl
        · have hne : q ≠ j := fun e => hp (e ▸ hq)
          rw [uT_n hne]
          simp [px_up, hne]
          exact h9 q hq
        · rw [uT_s]
          simp [px_up]
  · have hbad := gd_out h6 hi hsc hc
    refine ⟨0, σ, ?_, Or.inl ⟨rfl, h1, hbad⟩⟩
    by_cases hx : x < 0
    · rw [if_pos hx]
    · rw [if_neg hx, if_neg]
      intro z
      exact hc ((px_cI (by omega) x).mp ⟨hx, fun w => absurd z (Int32.not_lt.mpr w)⟩)
/-- one instruction -/
theorem y_on (hB : iv_B s0 nC nF nM) (hm : m < nM) (hL : L ≤ 12) (hl : s0 12 m = nI L) (hop : ∀ i, i < L → ∃ o, o ≤ 19 ∧ s0 13 (12 * m + i) = nI o) {i : Nat} (hJ : yJ s0 σ nC nF nM m L P T) (hi : P i) :
    ∃ r ρ, fx_Mo_onward σ (nI m) (nI i) = some (r, ρ) ∧ ((r = 0 ∧ yF s0 ρ m ∧ ¬ OKM s0 nC nF nM m L) ∨ (r = 1 ∧ ∃ P2 T2, yJ s0 ρ nC nF nM m L P2 T2 ∧ (∀ k, P k → P2 k) ∧ (∀ k, P k → T2 k = T k) ∧ ((ρ 45 19 = σ 45 19 ∧ P2 = P ∧ T2 = T) ∨ (ρ 45 19 = 1 ∧ ct P L + 1 ≤ ct P2 L)) ∧ clo s0 nC nF nM m P2 T2 i)) := by
  have hb := B_n hB
  have hJ0 := hJ
  obtain ⟨h1, h6, h7, h9⟩ := hJ
  have hn10 : nC + 2 ≤ 10 := by omega
  obtain ⟨hiL, hoki, -⟩ := h6.2.2.1 i hi
  obtain ⟨op, hop1, hop2⟩ := hop i hiL
  have hix : 12 * m + i < 96 := by omega
  have e57 : σ 57 (12 * m + i) = nI op := by rw [h1.1 57 (by decide) (by decide) (by decide), hB.1.2.2.2.2.2.2.2.2.2.2.1]; exact hop2
  have e58 : σ 58 (12 * m + i) = s0 14 (12 * m + i) := by rw [h1.1 58 (by decide) (by decide) (by decide), hB.1.2.2.2.2.2.2.2.2.2.2.2]
  have haf := fx_Mo_after_e (yF_B hB h1) hoki hm (by omega) hop1 (h9 i hi) e57
  rw [ag_tr (yF_ag h1), e58] at haf
  have htri : tri s0 nC nF nM m i (T i) = tr s0 nC nF nM m op (s0 14 (12 * m + i)) (T i) := by unfold tri; rw [hop2, N_nI (by omega)]
  have hsc : sc s0 m i = if s0 13 (12 * m + i) = 5 then [s0 14 (12 * m + i)] else if s0 13 (12 * m + i) = 19 then [] else if s0 13 (12 * m + i) = 6 then [s0 14 (12 * m + i), nI i + 1] else [nI i + 1] := rfl
  rw [hop2] at hsc
  unfold fx_Mo_onward fx_Mo_onward_b98 fx_Mo_onward_b94 fx_Mo_onward_b99
  rw [px_ix12', px_rd (j := 12 * m + i) rfl hix (by decide), px_rd (j := 12 * m + i) rfl hix (by decide), haf, px_ci, e57, e58]
  cases ht : tr s0 nC nF nM m op (s0 14 (12 * m + i)) (T i) with
  | none =>
    rw [show en none = (-1 : Int32) from rfl, if_neg (by decide)]
    exact ⟨0, σ, rfl, Or.inl ⟨rfl, h1, gd_none h6 hi (htri.trans ht)⟩⟩
  | some s =>
    have hts := htri.trans ht
    have hok : okS (nC + 2) s := tr_ok hB hm hoki ht
    rw [if_pos (en_nn hn10 hok), show en (some s) = nI (pk_ s) from rfl]
    generalize ha : s0 14 (12 * m + i) = a at *
    by_cases h19 : nI op = 19
    · rw [if_pos h19]
      rw [if_neg (by rw [h19]; decide), if_pos h19] at hsc
      exact ⟨1, σ, rfl, Or.inr ⟨rfl, P, T, hJ0, fun _ h => h, fun _ _ => rfl, Or.inl ⟨rfl, rfl, rfl⟩, s, hts, fun x hx => by rw [hsc] at hx; simp at hx⟩⟩
    · rw [if_neg h19]
      by_cases h5 : nI op = 5
      · rw [if_pos h5] at hsc ⊢
        obtain ⟨r, ρ, e1, e2⟩ := y_led hB hm hL hl hJ0 hok hi hts (x := a) (by rw [hsc]; simp)
        rw [e1, px_ci]
        rcases e2 with ⟨rfl, e2, e3⟩ | ⟨rfl, P2, T2, e2, e3, e4, e5, e6⟩
        · exact ⟨0, ρ, px_rz (Or.inl rfl), Or.inl ⟨rfl, e2, e3⟩⟩
        · refine ⟨1, ρ, px_rz (Or.inr rfl), Or.inr ⟨rfl, P2, T2, e2, e3, e4, e5, s, by rw [e4 i hi]; exact hts, fun x hx => ?_⟩⟩
          rw [hsc] at hx
          obtain rfl : x = a := by simpa using hx
          exact e6
      · rw [if_neg h5, if_neg h19] at hsc
        rw [if_neg h5]
        obtain ⟨r, ρ, e1, e2⟩ := y_led hB hm hL hl hJ0 hok hi hts (x := nI i + 1) (by rw [hsc]; split <;> simp)
        rw [e1, px_ci]
        rcases e2 with ⟨rfl, e2, e3⟩ | ⟨rfl, P2, T2, e2, e3, e4, e5, j, e6, e7, e8⟩
        · exact ⟨0, ρ, by rw [if_pos rfl, px_rz (Or.inl rfl)], Or.inl ⟨rfl, e2, e3⟩⟩
        · rw [if_neg (by decide)]
          by_cases h6 : nI op = 6
          · rw [if_pos h6] at hsc ⊢
            obtain ⟨r2, ρ2, f1, f2⟩ := y_led hB hm hL hl e2 hok (e3 i hi) (by rw [e4 i hi]; exact hts) (x := a) (by rw [hsc]; simp)
            rw [f1, px_ci]
            rcases f2 with ⟨rfl, f2, f3⟩ | ⟨rfl, P3, T3, f2, f3, f4, f5, f6⟩
            · exact ⟨0, ρ2, by rw [if_pos rfl, px_rz (Or.inl rfl)], Or.inl ⟨rfl, f2, f3⟩⟩
            · refine ⟨1, ρ2, by rw [if_neg (by decide), px_rz (Or.inr rfl)], Or.inr ⟨rfl, P3, T3, f2, fun k h => f3 k (e3 k h), fun k h => (f4 k (e3 k h)).trans (e4 k h), ?_, s, by rw [f4 i (e3 i hi), e4 i hi]; exact hts, fun x hx => ?_⟩⟩
              · rcases e5 with ⟨u1, rfl, rfl⟩ | ⟨u1, u2⟩
                · rcases f5 with ⟨w1, rfl, rfl⟩ | ⟨w1, w2⟩
                  · exact Or.inl ⟨w1.trans u1, rfl, rfl⟩
                  · exact Or.inr ⟨w1, w2⟩
                · rcases f5 with ⟨w1, rfl, rfl⟩ | ⟨w1, w2⟩
                  · exact Or.inr ⟨w1.trans u1, u2⟩
                  · exact Or.inr ⟨w1, by omega⟩
              · rw [hsc] at hx
                simp only [List.mem_cons, List.not_mem_nil, or_false] at hx
                rcases hx with rfl | rfl
                · exact f6
                · exact ⟨j, e6, f3 j e7, (f4 j e7).trans e8⟩
          · rw [if_neg h6] at hsc ⊢
            refine ⟨1, ρ, px_rz (Or.inr rfl), Or.inr ⟨rfl, P2, T2, e2, e3, e4, e5, s, by rw [e4 i hi]; exact hts, fun x hx => ?_⟩⟩
            rw [hsc] at hx
            obtain rfl : x = nI i + 1 := by simpa using hx
            exact ⟨j, e6, e7, e8⟩
end YF
