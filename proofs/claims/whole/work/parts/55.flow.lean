/-! the ways through a method's code, without the machine -/
theorem pk_inj {n : Nat} (hn : n ≤ 10) {s t : TS} (hs : okS n s) (ht : okS n t) (h : pk_ s = pk_ t) : s = t := by
  have nb : ∀ k, pk_ s / 2 ^ (4 * k) % 16 = pk_ t / 2 ^ (4 * k) % 16 := fun k => by rw [h]
  have hl : s.1.length = t.1.length := by
    have h1 := hs.1
    have h2 := ht.1
    rcases Nat.lt_trichotomy s.1.length t.1.length with h3 | h3 | h3
    · have e1 := nib_0 hn hs (k := s.1.length) (Nat.le_refl _) (by omega)
      have e2 := nib_at hn ht (k := s.1.length) h3
      rw [nb] at e1
      omega
    · exact h3
    · have e1 := nib_0 hn ht (k := t.1.length) (Nat.le_refl _) (by omega)
      have e2 := nib_at hn hs (k := t.1.length) h3
      rw [← nb] at e1
      omega
  obtain ⟨a1, a2, a3⟩ := nib_l hn hs
  obtain ⟨b1, b2, b3⟩ := nib_l hn ht
  have e1 : s.2.1 = t.2.1 := by rw [← a1, ← b1, nb]
  have e2 : s.2.2.1 = t.2.2.1 := by rw [← a2, ← b2, nb]
  have e3 : s.2.2.2 = t.2.2.2 := by rw [← a3, ← b3, nb]
  have e0 : s.1 = t.1 := by
    apply List.ext_getElem?
    intro i
    by_cases hi : i < s.1.length
    · have h1 := nib_at hn hs (k := s.1.length - 1 - i) (by omega)
      have h2 := nib_at hn ht (k := s.1.length - 1 - i) (by omega)
      rw [nb] at h1
      rw [h1] at h2
      rw [show s.1.length - 1 - (s.1.length - 1 - i) = i by omega, show t.1.length - 1 - (s.1.length - 1 - i) = i by omega] at h2
      have h3 : s.1.getD i 0 = t.1.getD i 0 := by omega
      rw [List.getD_eq_getElem?_getD, List.getD_eq_getElem?_getD, List.getElem?_eq_getElem hi, List.getElem?_eq_getElem (by omega)] at h3
      rw [List.getElem?_eq_getElem hi, List.getElem?_eq_getElem (by omega)]
      simpa using h3
    · rw [List.getElem?_eq_none (by omega), List.getElem?_eq_none (by omega)]
  obtain ⟨s0, s1, s2, s3⟩ := s
  obtain ⟨t0, t1, t2, t3⟩ := t
  simp_all
theorem okO_mkF {σ : tx_St} {n c : Nat} : ∀ (f : Nat) (o : Option TS), okO n o → okO n (mkF σ c f o)
  | 0, o, h => h
  | f + 1, o, h => by
    rw [mkF]
    exact okO_mkF f _ (okO_cif (okO_tk h _) h)
/-- how many below n -/
noncomputable def ct (P : Nat → Prop) : Nat → Nat
  | 0 => 0
  | n + 1 => cif (P n) (ct P n + 1) (ct P n)
theorem ct_le (P : Nat → Prop) : ∀ n, ct P n ≤ n
  | 0 => Nat.le_refl 0
  | n + 1 => by
    have := ct_le P n
    rw [ct]
    rcases Classical.em (P n) with h | h
    · rw [cif_t h]; omega
    · rw [cif_f h]; omega
theorem ct_all {P : Nat → Prop} : ∀ n, ct P n = n → ∀ i, i < n → P i
  | 0, _, i, hi => by omega
  | n + 1, h, i, hi => by
    have hl := ct_le P n
    rw [ct] at h
    rcases Classical.em (P n) with hp | hp
    · rw [cif_t hp] at h
      by_cases hin : i = n
      · exact hin ▸ hp
      · exact ct_all n (by omega) i (by omega)
    · rw [cif_f hp] at h
      omega
theorem ct_full {P : Nat → Prop} : ∀ n, (∀ i, i < n → P i) → ct P n = n
  | 0, _ => rfl
  | n + 1, h => by
    rw [ct, cif_t (h n (by omega)), ct_full n (fun i hi => h i (by omega))]
theorem ct_congr {P Q : Nat → Prop} : ∀ n, (∀ i, i < n → (P i ↔ Q i)) → ct P n = ct Q n
  | 0, _ => rfl
  | n + 1, h => by
    rw [ct, ct, ct_congr n (fun i hi => h i (by omega)), propext (h n (by omega))]
theorem ct_add {P : Nat → Prop} {j : Nat} (hj : ¬ P j) : ∀ n, j < n → ct (fun i => P i ∨ i = j) n = ct P n + 1
  | 0, h => by omega
  | n + 1, h => by
    rw [ct, ct]
    by_cases hjn : j = n
    · subst hjn
      rw [cif_t (Or.inr rfl), cif_f hj, ct_congr (Q := P) j (fun i hi => ⟨fun z => z.resolve_right (by omega), Or.inl⟩)]
    · have ih := ct_add hj n (by omega)
      rcases Classical.em (P n) with hp | hp
      · rw [cif_t (Or.inl hp), cif_t hp, ih]
      · rw [cif_f (fun z => z.elim hp (fun w => hjn w.symm)), cif_f hp, ih]
theorem ct_lt {P : Nat → Prop} {j n : Nat} (hj : ¬ P j) (h : j < n) : ct P n < n := by
  have h1 := ct_add hj n h
  have h2 := ct_le (fun i => P i ∨ i = j) n
  omega
section FL
variable {σ : tx_St} {nC nF nM m : Nat}
theorem tr_ok {op : Nat} {a : Int32} {s s2 : TS} (hB : iv_B σ nC nF nM) (hm : m < nM) (h : okS (nC + 2) s) (e : tr σ nC nF nM m op a s = some s2) : okS (nC + 2) s2 := by
  have hb := B_n hB
  have hs := okO_some h
  have key : okO (nC + 2) (tr σ nC nF nM m op a s) := by
    have fd : ∀ {p : Prop} {x : Option TS}, (p → okO (nC + 2) x) → okO (nC + 2) (cif p x none) := by
      intro p x hx
      rcases Classical.em p with hp | hp
      · rw [cif_t hp]; exact hx hp
      · rw [cif_f hp]; exact okO_none
    have T : ∀ w, okO (nC + 2) (tk σ w s) := fun w => okO_tk hs w
    unfold tr
    split
    · exact okO_gv hs (t := 0) (by omega)
    · exact fun s2 e => ld_ok (by omega) h e
    · exact fun s2 e => sv_ok h e
    · exact okO_gv (okO_tk (T 0) 0) (by omega)
    · exact okO_gv (okO_tk (T 0) 0) (by omega)
    · exact hs
    · exact T 0
    · exact fd (fun hc => okO_gv (okO_mkF nF _ hs) (by have := (cI_N (by omega) hc).1; omega))
    · exact fd (fun hc => okO_gv (T _) (B_f6 hB (cI_N (by omega) hc.1).1).1)
    · exact fd (fun hc => okO_tk (T _) _)
    · exact fd (fun hc => okO_gv hs (B_f6 hB (cI_N (by omega) hc.1).1).1)
    · exact fd (fun hc => T _)
    · refine fd (fun hc => ?_)
      have c1 := (cI_N (by omega) hc).1
      unfold t_ca
      exact okO_gv (okO_cif (okO_cif hs (T _)) (okO_tk (okO_cif hs (T _)) _)) (B_m11 hB c1).1
    · exact okO_gv (T 0) (by omega)
    · exact okO_gv (T 1) (by omega)
    · exact okO_tk (T 0) 1
    · exact okO_gv (okO_tT (okO_tT hs)) (by omega)
    · exact fd (fun hc => okO_gv hs (t := N_ a + 2) (by have := (cI_N (by omega) hc).1; omega))
    · exact fd (fun hc => okO_gv (T 0) (by omega))
    · exact T _
  exact key s2 e
/-- where instruction i leads -/
def sc (σ : tx_St) (m i : Nat) : List Int32 := if σ 13 (12 * m + i) = 5 then [σ 14 (12 * m + i)] else if σ 13 (12 * m + i) = 19 then [] else if σ 13 (12 * m + i) = 6 then [σ 14 (12 * m + i), nI i + 1] else [nI i + 1]
def reaN (σ : tx_St) (m L : Nat) : Nat → Nat → Prop
  | 0, i => i = 0
  | k + 1, i => ∃ j, j < L ∧ reaN σ m L k j ∧ nI i ∈ sc σ m j
def rea (σ : tx_St) (m L i : Nat) : Prop := ∃ k, reaN σ m L k i
/-- the types at a method's beginning -/
noncomputable def ent (σ : tx_St) (m : Nat) : TS := cif (stM σ m) ([], cif (σ 10 m = -1) 0 (N_ (σ 10 m) + 1), 0, 0) ([], N_ (σ 7 m) + 3, cif (σ 10 m = -1) 0 (N_ (σ 10 m) + 1), 0)
noncomputable def tri (σ : tx_St) (nC nF nM m i : Nat) (s : TS) : Option TS := tr σ nC nF nM m (N_ (σ 13 (12 * m + i))) (σ 14 (12 * m + i)) s
/-- code that fits its types on every way -/
def okM (σ : tx_St) (nC nF nM m L : Nat) (τ : Nat → TS) : Prop := 0 < L ∧ τ 0 = ent σ m ∧ (∀ i, i < L → okS (nC + 2) (τ i)) ∧ (∀ i, i < L → ∃ s, tri σ nC nF nM m i (τ i) = some s ∧ ∀ x ∈ sc σ m i, ∃ j, j < L ∧ x = nI j ∧ τ j = s) ∧ ∀ i, i < L → rea σ m L i
def OKM (σ : tx_St) (nC nF nM m L : Nat) : Prop := ∃ τ, okM σ nC nF nM m L τ
/-- the instructions that were led to, with their types -/
def gd (σ : tx_St) (nC nF nM m L : Nat) (P : Nat → Prop) (T : Nat → TS) : Prop := P 0 ∧ T 0 = ent σ m ∧ (∀ i, P i → i < L ∧ okS (nC + 2) (T i) ∧ rea σ m L i) ∧ ∀ τ, okM σ nC nF nM m L τ → ∀ i, P i → T i = τ i
def uT (T : Nat → TS) (j : Nat) (s : TS) : Nat → TS := fun k => if k = j then s else T k
theorem uT_s {T : Nat → TS} {j : Nat} {s : TS} : uT T j s j = s := if_pos rfl
theorem uT_n {T : Nat → TS} {j k : Nat} {s : TS} (h : k ≠ j) : uT T j s k = T k := if_neg h
theorem gd_add {L : Nat} {P : Nat → Prop} {T : Nat → TS} {i j : Nat} {s : TS} (hL : L ≤ 12) (hB : iv_B σ nC nF nM) (hm : m < nM) (h : gd σ nC nF nM m L P T) (hi : P i) (ht : tri σ nC nF nM m i (T i) = some s) (hj : j < L) (hx : nI j ∈ sc σ m i) (hn : ¬ P j) : gd σ nC nF nM m L (fun k => P k ∨ k = j) (uT T j s) := by
  obtain ⟨h0, h1, h2, h3⟩ := h
  have hne : ∀ k, P k → k ≠ j := fun k hk e => hn (e ▸ hk)
  refine ⟨Or.inl h0, by rw [uT_n (hne 0 h0)]; exact h1, fun k hk => ?_, fun τ hτ k hk => ?_⟩
  · rcases hk with hk | rfl
    · rw [uT_n (hne k hk)]
      exact h2 k hk
    · obtain ⟨q, hq⟩ := (h2 i hi).2.2
      rw [uT_s]
      exact ⟨hj, tr_ok hB hm (h2 i hi).2.1 ht, q + 1, i, (h2 i hi).1, hq, hx⟩
  · rcases hk with hk | rfl
    · rw [uT_n (hne k hk)]
      exact h3 τ hτ k hk
    · rw [uT_s]
      obtain ⟨s', e1, e2⟩ := hτ.2.2.2.1 i (h2 i hi).1
      rw [← h3 τ hτ i hi, ht] at e1
      cases e1
      obtain ⟨q, hq, e3, e4⟩ := e2 _ hx
      have : k = q := (nI_eq (by omega) (by omega)).mp e3
      rw [this]
      exact e4.symm
theorem gd_none {L : Nat} {P : Nat → Prop} {T : Nat → TS} {i : Nat} (h : gd σ nC nF nM m L P T) (hi : P i) (ht : tri σ nC nF nM m i (T i) = none) : ¬ OKM σ nC nF nM m L := by
  rintro ⟨τ, hτ⟩
  obtain ⟨s', e1, -⟩ := hτ.2.2.2.1 i (h.2.2.1 i hi).1
  rw [← h.2.2.2 τ hτ i hi, ht] at e1
  cases e1
theorem gd_out {L : Nat} {P : Nat → Prop} {T : Nat → TS} {i : Nat} {x : Int32} (h : gd σ nC nF nM m L P T) (hi : P i) (hx : x ∈ sc σ m i) (ho : ¬ ∃ j, j < L ∧ x = nI j) : ¬ OKM σ nC nF nM m L := by
  rintro ⟨τ, hτ⟩
  obtain ⟨s', e1, e2⟩ := hτ.2.2.2.1 i (h.2.2.1 i hi).1
  obtain ⟨j, h1, h2, -⟩ := e2 x hx
  exact ho ⟨j, h1, h2⟩
theorem gd_ne {L : Nat} {P : Nat → Prop} {T : Nat → TS} {i j : Nat} {s : TS} (hL : L ≤ 12) (h : gd σ nC nF nM m L P T) (hi : P i) (ht : tri σ nC nF nM m i (T i) = some s) (hx : nI j ∈ sc σ m i) (hj : P j) (hne : ¬ T j = s) : ¬ OKM σ nC nF nM m L := by
  rintro ⟨τ, hτ⟩
  have hjL := (h.2.2.1 j hj).1
  obtain ⟨s', e1, e2⟩ := hτ.2.2.2.1 i (h.2.2.1 i hi).1
  rw [← h.2.2.2 τ hτ i hi, ht] at e1
  cases e1
  obtain ⟨q, hq, e3, e4⟩ := e2 _ hx
  have : j = q := (nI_eq (by omega) (by omega)).mp e3
  subst this
  exact hne ((h.2.2.2 τ hτ j hj).trans e4)
/-- every instruction that was led to leads on, to such as were led to -/
def clo (σ : tx_St) (nC nF nM m : Nat) (P : Nat → Prop) (T : Nat → TS) (i : Nat) : Prop := ∃ s, tri σ nC nF nM m i (T i) = some s ∧ ∀ x ∈ sc σ m i, ∃ j, x = nI j ∧ P j ∧ T j = s
theorem gd_end {L : Nat} {P : Nat → Prop} {T : Nat → TS} (hL : L ≤ 12) (h : gd σ nC nF nM m L P T) (hc : ∀ i, P i → clo σ nC nF nM m P T i) : OKM σ nC nF nM m L ↔ ∀ i, i < L → P i := by
  constructor
  · rintro ⟨τ, hτ⟩
    have hr : ∀ k i, reaN σ m L k i → i < L → P i := by
      intro k
      induction k with
      | zero =>
        intro i e _
        exact e ▸ h.1
      | succ k ih =>
        rintro i ⟨j, hj, hr, hx⟩ hiL
        obtain ⟨s, -, e2⟩ := hc j (ih j hr hj)
        obtain ⟨q, e3, e4, -⟩ := e2 _ hx
        have hq := (h.2.2.1 q e4).1
        have : i = q := (nI_eq (by omega) (by omega)).mp e3
        exact this ▸ e4
    intro i hi
    obtain ⟨k, hk⟩ := hτ.2.2.2.2 i hi
    exact hr k i hk hi
  · intro hall
    refine ⟨T, Nat.lt_of_le_of_lt (Nat.zero_le 0) (h.2.2.1 0 h.1).1, h.2.1, fun i hi => (h.2.2.1 i (hall i hi)).2.1, fun i hi => ?_, fun i hi => (h.2.2.1 i (hall i hi)).2.2⟩
    obtain ⟨s, e1, e2⟩ := hc i (hall i hi)
    refine ⟨s, e1, fun x hx => ?_⟩
    obtain ⟨j, e3, e4, e5⟩ := e2 x hx
    exact ⟨j, (h.2.2.1 j e4).1, e3, e5⟩
/-- more is led to: what leads on still does -/
theorem clo_up {P P2 : Nat → Prop} {T T2 : Nat → TS} {i : Nat} (h : clo σ nC nF nM m P T i) (hi : P i) (hP : ∀ k, P k → P2 k) (hT : ∀ k, P k → T2 k = T k) : clo σ nC nF nM m P2 T2 i := by
  obtain ⟨s, e1, e2⟩ := h
  refine ⟨s, by rw [hT i hi]; exact e1, fun x hx => ?_⟩
  obtain ⟨j, e3, e4, e5⟩ := e2 x hx
  exact ⟨j, e3, hP j e4, by rw [hT j e4]; exact e5⟩
theorem gd_0 {L : Nat} (hB : iv_B σ nC nF nM) (hm : m < nM) (hL : 0 < L) : gd σ nC nF nM m L (fun i => i = 0) (fun _ => ent σ m) := by
  have hb := B_n hB
  refine ⟨rfl, rfl, fun i hi => ?_, fun τ hτ i hi => ?_⟩
  · subst hi
    refine ⟨hL, ?_, 0, rfl⟩
    have b7 := B_m7 hB hm
    have b10 : cif (σ 10 m = -1) 0 (N_ (σ 10 m) + 1) ≤ nC + 2 := by
      rcases B_m10 hB hm with e | ⟨e1, e2⟩
      · rw [cif_t e]; omega
      · rcases Classical.em (σ 10 m = -1) with e | e
        · rw [cif_t e]; omega
        · rw [cif_f e]; omega
    unfold ent
    rcases Classical.em (stM σ m) with hs | hs
    · rw [cif_t hs]
      exact ⟨Nat.zero_le _, (fun t h => absurd h (List.not_mem_nil)), b10, Nat.zero_le _, Nat.zero_le _⟩
    · rw [cif_f hs]
      exact ⟨Nat.zero_le _, (fun t h => absurd h (List.not_mem_nil)), (by show N_ (σ 7 m) + 3 ≤ nC + 2; omega), b10, Nat.zero_le _⟩
  · subst hi
    exact hτ.2.1.symm
end FL
