/-! the class's check of a method's code -/
def ag (σ τ : tx_St) : Prop := ∀ k, 2 ≤ k → k ≤ 14 → τ k = σ k
section AG
variable {σ τ : tx_St}
theorem ag_fi (h : ag σ τ) (a b : Nat) : fi τ a b = fi σ a b := by
  unfold fi ln
  rw [h 2 (by decide) (by decide)]
theorem ag_tk (h : ag σ τ) (w : Nat) : tk τ w = tk σ w := by
  funext s
  obtain ⟨l, z⟩ := s
  cases l with
  | nil => rfl
  | cons t r =>
    by_cases hf : fi σ t w
    · have hg : fi τ t w := by rw [ag_fi h]; exact hf
      simp [tk, hf, hg]
    · have hg : ¬ fi τ t w := by rw [ag_fi h]; exact hf
      simp [tk, hf, hg]
theorem ag_ow (h : ag σ τ) (c f : Nat) : ow τ c f = ow σ c f := by
  unfold ow stF ln
  rw [h 2 (by decide) (by decide), h 4 (by decide) (by decide), h 5 (by decide) (by decide)]
theorem ag_mkF (h : ag σ τ) (c : Nat) : ∀ f o, mkF τ c f o = mkF σ c f o
  | 0, o => rfl
  | f + 1, o => by
    rw [mkF, mkF, ag_ow h, ag_tk h, h 6 (by decide) (by decide), ag_mkF h c f]
theorem ag_tr (h : ag σ τ) (nC nF nM m op : Nat) (a : Int32) (s : TS) : tr τ nC nF nM m op a s = tr σ nC nF nM m op a s := by
  unfold tr t_ca stF stM
  simp only [ag_tk h, ag_mkF h, h 4 (by decide) (by decide), h 5 (by decide) (by decide), h 6 (by decide) (by decide), h 7 (by decide) (by decide), h 8 (by decide) (by decide), h 10 (by decide) (by decide), h 11 (by decide) (by decide)]
theorem ag_tri (h : ag σ τ) (nC nF nM m i : Nat) (s : TS) : tri τ nC nF nM m i s = tri σ nC nF nM m i s := by
  unfold tri
  rw [ag_tr h, h 13 (by decide) (by decide), h 14 (by decide) (by decide)]
end AG
/-- the class's state in the middle of a method's check; s0 is the state at its beginning -/
def xJ (s0 σ : tx_St) (nC nF nM m L c : Nat) (v : Nat → Nat) (P : Nat → Prop) (T : Nat → TS) : Prop :=
  ((∀ k, (k < 15 ∨ 19 < k) → σ k = s0 k) ∧ (∀ i, (i < 12 * m ∨ 12 * m + 12 ≤ i) → σ 16 i = s0 16 i)) ∧ (σ 15 7 = nI m ∧ σ 15 5 = nI c ∧ c = ct P L) ∧ gd s0 nC nF nM m L P T ∧
  (∀ k, k < c → P (v k) ∧ σ 19 k = nI (v k)) ∧ (∀ i, P i → ∃ k, k < c ∧ v k = i) ∧ (∀ i, P i → σ 16 (12 * m + i) = nI (pk_ (T i))) ∧ ∀ i, i < 12 → ¬ P i → σ 16 (12 * m + i) = -1
def xF (s0 σ : tx_St) (m : Nat) : Prop := ((∀ k, (k < 15 ∨ 19 < k) → σ k = s0 k) ∧ (∀ i, (i < 12 * m ∨ 12 * m + 12 ≤ i) → σ 16 i = s0 16 i)) ∧ σ 15 7 = nI m ∧ σ 15 8 = 0
section XF
variable {s0 σ : tx_St} {nC nF nM m L c : Nat} {v : Nat → Nat} {P : Nat → Prop} {T : Nat → TS}
theorem xJ_e {τ : tx_St} (h : xJ s0 σ nC nF nM m L c v P T) (he : xe σ τ) : xJ s0 τ nC nF nM m L c v P T := by
  obtain ⟨⟨h1, h2⟩, ⟨h3, h4, h5⟩, h6, h7, h8, h9, h10⟩ := h
  have e16 := he.1 16 (by decide) (by decide) (by decide)
  have e19 := he.1 19 (by decide) (by decide) (by decide)
  refine ⟨⟨fun k hk => ?_, fun i hi => by rw [e16]; exact h2 i hi⟩, ⟨by rw [he.2 7 (by decide) (by decide)]; exact h3, by rw [he.2 5 (by decide) (by decide)]; exact h4, h5⟩, h6, fun k hk => by rw [e19]; exact h7 k hk, h8, fun i hi => by rw [e16]; exact h9 i hi, fun i hi hn => by rw [e16]; exact h10 i hi hn⟩
  rw [he.1 k (by omega) (by omega) (by omega)]
  exact h1 k hk
theorem xJ_ag (h : xJ s0 σ nC nF nM m L c v P T) : ag s0 σ := fun k h1 h2 => h.1.1 k (Or.inl (by omega))
theorem B_eq {σ τ : tx_St} (hB : iv_B σ nC nF nM) (h : ∀ k, ((0 < k ∧ k < 15) ∨ (45 ≤ k ∧ k ≤ 58)) → τ k = σ k) : iv_B τ nC nF nM := by
  have e : ∀ k, ((0 < k ∧ k < 15) ∨ (45 ≤ k ∧ k ≤ 58)) → τ k = σ k := h
  refine xe_B (σ := fun k => if (0 < k ∧ k < 15) ∨ (45 ≤ k ∧ k ≤ 58) then σ k else τ k) ⟨fun k a b c => ?_, fun j _ _ => ?_⟩ ?_
  · by_cases hk : (0 < k ∧ k < 15) ∨ (45 ≤ k ∧ k ≤ 58)
    · simp only [hk, if_true]
      exact e k hk
    · simp only [hk, if_false]
  · rfl
  · obtain ⟨⟨⟨a0, a1, a2⟩, r1, r2, r3, r4, r5, r6, r7, r8, r9, r10, r11⟩, hc, ⟨k0, k1, k2⟩, hC, hF, hM⟩ := hB
    exact ⟨⟨⟨a0, a1, a2⟩, r1, r2, r3, r4, r5, r6, r7, r8, r9, r10, r11⟩, hc, ⟨k0, k1, k2⟩, hC, hF, hM⟩
theorem xJ_B (hB : iv_B s0 nC nF nM) (h : xJ s0 σ nC nF nM m L c v P T) : iv_B σ nC nF nM := B_eq hB (fun k hk => h.1.1 k (by omega))
theorem fx_Plan_isInstruction_e {x : Int32} (hm : m < 8) (hl : σ 12 m = nI L) (hL : L ≤ 12) : fx_Plan_isInstruction σ (nI m) x = some (bP (cI L x), σ) := by
  unfold fx_Plan_isInstruction fx_Plan_isInstruction_b18 fx_Plan_isInstruction_b19
  rw [px_rd rfl hm (by decide), hl]
  by_cases hc : cI L x
  · have h := (px_cI (by omega) x).mpr hc
    rw [if_neg h.1, if_neg h.2, px_rz (Or.inr rfl), bP_t hc]
  · rw [bP_f hc]
    by_cases h1 : x < 0
    · rw [if_pos h1, px_rz (Or.inl rfl)]
    · rw [if_neg h1, if_pos (Classical.not_not.mp (fun z => hc ((px_cI (by omega) x).mp ⟨h1, z⟩))), px_rz (Or.inl rfl)]
/-- one arrival -/
theorem x_arrive (hB : iv_B s0 nC nF nM) (hm : m < nM) (hL : L ≤ 12) (hl : s0 12 m = nI L) {i : Nat} {s : TS} {x : Int32} (hJ : xJ s0 σ nC nF nM m L c v P T) (hx : xr σ (nC + 2) (some s)) (hi : P i) (ht : tri s0 nC nF nM m i (T i) = some s) (hsc : x ∈ sc s0 m i) :
    (∃ ρ, fx_Fitting_arriveAt σ x = some ρ ∧ xF s0 ρ m ∧ ¬ OKM s0 nC nF nM m L) ∨
    ∃ ρ c2 v2 P2 T2, fx_Fitting_arriveAt σ x = some ρ ∧ xJ s0 ρ nC nF nM m L c2 v2 P2 T2 ∧ xr ρ (nC + 2) (some s) ∧ c ≤ c2 ∧ (∀ k, k < c → v2 k = v k) ∧ (∀ k, P k → P2 k) ∧ (∀ k, P k → T2 k = T k) ∧ ∃ j, x = nI j ∧ P2 j ∧ T2 j = s := by
  have hb := B_n hB
  have hJ0 := hJ
  obtain ⟨⟨h1, h2⟩, ⟨h3, h4, h5⟩, h6, h7, h8, h9, h10⟩ := hJ
  obtain ⟨hg, hok, hxs⟩ := hx.2.2 s rfl
  have hn10 : nC + 2 ≤ 10 := by omega
  have fail : xF s0 (tx_up σ 15 8 0) m := by
    refine ⟨⟨fun k hk => ?_, fun i hi => ?_⟩, ?_, by simp [px_up]⟩
    · rw [tx_up_ne _ _ _ (by omega)]
      exact h1 k hk
    · rw [tx_up_ne _ _ _ (by decide)]
      exact h2 i hi
    · simp [px_up]
      exact h3
  have hl2 : σ 12 m = nI L := by rw [h1 12 (by omega)]; exact hl
  have start : fx_Fitting_arriveAt σ x = (if bP (cI L x) = 0 then some (tx_up σ 15 8 0) else tx_rd σ 16 96 (nI m * 12 + x) fun v7 => (if v7 = (-1 : Int32) then tx_wr σ 16 96 (nI m * 12 + x) (nI (pk_ s)) fun σ12 => tx_wr σ12 19 12 (σ12 15 5) x fun σ13 => tx_pt σ13 15 5 ((σ13 15 5) + (1 : Int32)) fun σ14 => some σ14 else tx_rd σ 16 96 (nI m * 12 + x) fun v9 => (if v9 = nI (pk_ s) then some σ else some (tx_up σ 15 8 0)))) := by
    unfold fx_Fitting_arriveAt fx_Fitting_arriveAt_b99
    rw [if_neg (by rw [hg]; decide), h3, fx_Plan_isInstruction_e (by omega) hl2 hL, px_ci, px_bad, fx_Fitting_packed_e hn10 hok hxs, px_ci, h3, px_bad]
  rw [start]
  by_cases hc : cI L x
  · obtain ⟨c1, c2⟩ := cI_N (by omega) hc
    generalize hj : N_ x = j at *
    subst c2
    have hix : 12 * m + j < 96 := by omega
    rw [bP_t hc, if_neg (by decide), px_ix12, px_rd (j := 12 * m + j) rfl hix (by decide), px_rd (j := 12 * m + j) rfl hix (by decide)]
    by_cases hp : P j
    · have e9 := h9 j hp
      have hokj := (h6.2.2.1 j hp).2.1
      have hlt := pq_lt hn10 hokj
      have hne : ¬ nI (pk_ (T j)) = (-1 : Int32) := fun z => nI_pos (n := pk_ (T j)) (by omega) (z ▸ (by decide : (-1 : Int32) < 0))
      rw [e9, if_neg hne]
      by_cases hT : T j = s
      · rw [if_pos (by rw [hT])]
        exact Or.inr ⟨σ, c, v, P, T, rfl, hJ0, hx, Nat.le_refl _, fun _ _ => rfl, fun _ h => h, fun _ _ => rfl, j, rfl, hp, hT⟩
      · have hlt2 := pq_lt hn10 hok
        rw [if_neg (fun z => hT (pk_inj hn10 hokj hok ((nI_eq (by omega) (by omega)).mp z)))]
        exact Or.inl ⟨_, rfl, fail, gd_ne hL h6 hi ht hsc hp hT⟩
    · have hcl := ct_lt (n := L) hp c1
      rw [h10 j (by omega) hp, if_pos rfl, px_wr (j := 12 * m + j) rfl hix (by decide), px_wr (j := c) (by simp [px_up]; exact h4) (by omega) (by decide), px_pt]
      refine Or.inr ⟨tx_up (tx_up (tx_up σ 16 (12 * m + j) (nI (pk_ s))) 19 c (nI j)) 15 5 (nI (c + 1)), c + 1, fun k => if k = c then j else v k, fun k => P k ∨ k = j, uT T j s, ?_, ?_, ?_, by omega, fun k hk => if_neg (by omega), fun k h => Or.inl h, fun k h => uT_n (fun e => hp (e ▸ h)), j, rfl, Or.inr rfl, uT_s⟩
      · simp [px_up, h4, nI_1]
      · refine ⟨⟨fun k hk => ?_, fun q hq => ?_⟩, ⟨by simp [px_up]; exact h3, by simp [px_up], ?_⟩, gd_add hL hB hm h6 hi ht c1 hsc hp, fun k hk => ?_, fun q hq => ?_, fun q hq => ?_, fun q hq hnq => ?_⟩
        · rw [tx_up_ne _ _ _ (by omega), tx_up_ne _ _ _ (by omega), tx_up_ne _ _ _ (by omega)]
          exact h1 k hk
        · have : ¬ q = 12 * m + j := by omega
          simp [px_up, this]
          exact h2 q hq
        · rw [ct_add hp L c1, ← h5]
        · by_cases hkc : k = c
          · subst hkc
            simp [px_up]
          · have := h7 k (by omega)
            simp [px_up, hkc]
            exact ⟨Or.inl this.1, this.2⟩
        · rcases hq with hq | rfl
          · obtain ⟨k, hk, e⟩ := h8 q hq
            exact ⟨k, by omega, by simp only [show ¬ k = c by omega, if_false]; exact e⟩
          · exact ⟨c, by omega, by simp⟩
        · rcases hq with hq | rfl
          · have hne : q ≠ j := fun e => hp (e ▸ hq)
            rw [uT_n hne]
            simp [px_up, hne]
            exact h9 q hq
          · rw [uT_s]
            simp [px_up]
        · have hne : ¬ q = j := fun e => hnq (Or.inr e)
          simp [px_up, hne]
          exact h10 q hq (fun z => hnq (Or.inl z))
      · obtain ⟨⟨d, hd, w1, w2, w3⟩, -, hs⟩ := hx
        refine ⟨⟨d, hd, by simp [px_up]; exact w1, fun k hk => ?_, fun k hk => ?_⟩, (fun z => by cases z), fun s2 e => ?_⟩
        · obtain ⟨t, ht, e⟩ := w2 k hk
          exact ⟨t, ht, by simp [px_up]; exact e⟩
        · obtain ⟨t, ht, e⟩ := w3 k hk
          exact ⟨t, ht, by simp [px_up]; exact e⟩
        · obtain ⟨a1, a2, a3, a4, a5⟩ := hs s2 e
          exact ⟨by simp [px_up]; exact a1, a2, by simp [px_up]; exact a3, fun k hk => by simp [px_up]; simpa using a4 k hk, fun k hk => by simp [px_up]; exact a5 k hk⟩
  · rw [bP_f hc, if_pos rfl]
    exact Or.inl ⟨_, rfl, fail, gd_out h6 hi hsc hc⟩
theorem x_arriveN (h : σ 15 8 = 0) (x : Int32) : fx_Fitting_arriveAt σ x = some σ := by
  unfold fx_Fitting_arriveAt
  rw [if_pos h]
/-- the state behind an instruction: every way that leaves it has arrived, or the code does not fit -/
theorem x_leave (hB : iv_B s0 nC nF nM) (hm : m < nM) (hL : L ≤ 12) (hl : s0 12 m = nI L) {i : Nat} {s : TS} (hJ : xJ s0 σ nC nF nM m L c v P T) (hx : xr σ (nC + 2) (some s)) (hi : P i) (ht : tri s0 nC nF nM m i (T i) = some s) :
    (∃ ρ, fx_Fitting_leave σ (nI i) (s0 13 (12 * m + i)) (s0 14 (12 * m + i)) = some ρ ∧ xF s0 ρ m ∧ ¬ OKM s0 nC nF nM m L) ∨
    ∃ ρ c2 v2 P2 T2, fx_Fitting_leave σ (nI i) (s0 13 (12 * m + i)) (s0 14 (12 * m + i)) = some ρ ∧ xJ s0 ρ nC nF nM m L c2 v2 P2 T2 ∧ xr ρ (nC + 2) (some s) ∧ c ≤ c2 ∧ (∀ k, k < c → v2 k = v k) ∧ (∀ k, P k → P2 k) ∧ (∀ k, P k → T2 k = T k) ∧ ∀ x ∈ sc s0 m i, ∃ j, x = nI j ∧ P2 j ∧ T2 j = s := by
  have hsc : sc s0 m i = if s0 13 (12 * m + i) = 5 then [s0 14 (12 * m + i)] else if s0 13 (12 * m + i) = 19 then [] else if s0 13 (12 * m + i) = 6 then [s0 14 (12 * m + i), nI i + 1] else [nI i + 1] := rfl
  generalize s0 13 (12 * m + i) = op at *
  generalize ha : s0 14 (12 * m + i) = a at *
  unfold fx_Fitting_leave fx_Fitting_leave_b11 fx_Fitting_leave_b16 fx_Fitting_leave_b34
  by_cases h5 : op = 5
  · rw [if_pos h5] at hsc ⊢
    rcases x_arrive hB hm hL hl hJ hx hi ht (x := a) (by rw [hsc]; simp) with ⟨ρ, e1, e2, e3⟩ | ⟨ρ, c2, v2, P2, T2, e1, e2, e3, e4, e5, e6, e7, e8⟩
    · exact Or.inl ⟨ρ, by rw [e1, px_cv, if_pos h5], e2, e3⟩
    · refine Or.inr ⟨ρ, c2, v2, P2, T2, by rw [e1, px_cv, if_pos h5], e2, e3, e4, e5, e6, e7, fun x hx => ?_⟩
      rw [hsc] at hx
      obtain rfl : x = a := by simpa using hx
      exact e8
  · rw [if_neg h5] at hsc ⊢
    by_cases h6 : op = 6
    · have h19 : ¬ op = 19 := by rw [h6]; decide
      rw [if_neg h19, if_pos h6] at hsc
      rw [if_pos h6]
      rcases x_arrive hB hm hL hl hJ hx hi ht (x := a) (by rw [hsc]; simp) with ⟨ρ, e1, e2, e3⟩ | ⟨ρ, c2, v2, P2, T2, e1, e2, e3, e4, e5, e6, e7, j, q1, q2, q3⟩
      · exact Or.inl ⟨ρ, by rw [e1, px_cv, if_neg h5, if_neg h19, x_arriveN e2.2.2, px_cv], e2, e3⟩
      · rcases x_arrive hB hm hL hl e2 e3 (e6 i hi) (by rw [e7 i hi]; exact ht) (x := nI i + 1) (by rw [hsc]; simp) with ⟨ρ2, f1, f2, f3⟩ | ⟨ρ2, c3, v3, P3, T3, f1, f2, f3, f4, f5, f6, f7, f8⟩
        · exact Or.inl ⟨ρ2, by rw [e1, px_cv, if_neg h5, if_neg h19, f1, px_cv], f2, f3⟩
        · refine Or.inr ⟨ρ2, c3, v3, P3, T3, by rw [e1, px_cv, if_neg h5, if_neg h19, f1, px_cv], f2, f3, by omega, fun k hk => (f5 k (by omega)).trans (e5 k hk), fun k h => f6 k (e6 k h), fun k h => (f7 k (e6 k h)).trans (e7 k h), fun x hx => ?_⟩
          rw [hsc] at hx
          simp only [List.mem_cons, List.not_mem_nil, or_false] at hx
          rcases hx with rfl | rfl
          · exact ⟨j, q1, f6 j q2, (f7 j q2).trans q3⟩
          · exact f8
    · rw [if_neg h6]
      by_cases h19 : op = 19
      · rw [if_pos h19] at hsc
        refine Or.inr ⟨σ, c, v, P, T, by rw [if_neg h5, if_pos h19], hJ, hx, Nat.le_refl _, fun _ _ => rfl, fun _ h => h, fun _ _ => rfl, fun x hx => ?_⟩
        rw [hsc] at hx
        simp at hx
      · rw [if_neg h19, if_neg h6] at hsc
        rcases x_arrive hB hm hL hl hJ hx hi ht (x := nI i + 1) (by rw [hsc]; simp) with ⟨ρ, e1, e2, e3⟩ | ⟨ρ, c2, v2, P2, T2, e1, e2, e3, e4, e5, e6, e7, e8⟩
        · exact Or.inl ⟨ρ, by rw [if_neg h5, if_neg h19, e1, px_cv], e2, e3⟩
        · refine Or.inr ⟨ρ, c2, v2, P2, T2, by rw [if_neg h5, if_neg h19, e1, px_cv], e2, e3, e4, e5, e6, e7, fun x hx => ?_⟩
          rw [hsc] at hx
          obtain rfl : x = nI i + 1 := by simpa using hx
          exact e8
end XF
