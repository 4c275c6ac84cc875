/-! Running: the class's state sg and the reference's rh side by side. Values are related by their types. -/
/-- a value of type t: K gives the type of each thing made, off the reference's distance -/
def vr (s0 : tx_St) (K : Nat → Nat) (off md t : Nat) (x y : Int32) : Prop := (t = 0 ∧ x = y) ∨ (1 ≤ t ∧ ((x = 0 ∧ y = 0) ∨ ∃ u, 1 ≤ u ∧ u ≤ md ∧ x = nI u ∧ y = nI (off + u) ∧ fi s0 (K u) t))
/-- only frame k's places differ -/
def eC (k : Nat) (σ σ' : tx_St) : Prop := ∀ p, (p < 27 + 3 * k ∨ 29 + 3 * k < p) → σ' p = σ p
def eM (k : Nat) (ρ ρ' : tx_St) : Prop := (∀ p, (p < 64 ∨ 68 < p) → ρ' p = ρ p) ∧ (∀ j, j ≠ k → ρ' 64 j = ρ 64 j ∧ ρ' 65 j = ρ 65 j ∧ ρ' 66 j = ρ 66 j) ∧ (∀ j, (j < 4 * k ∨ 4 * k + 4 ≤ j) → ρ' 67 j = ρ 67 j) ∧ ∀ j, (j < 3 * k ∨ 3 * k + 3 ≤ j) → ρ' 68 j = ρ 68 j
theorem eC_rf (k : Nat) (σ : tx_St) : eC k σ σ := fun _ _ => rfl
theorem eM_rf (k : Nat) (σ : tx_St) : eM k σ σ := ⟨fun _ _ => rfl, fun _ _ => ⟨rfl, rfl, rfl⟩, fun _ _ => rfl, fun _ _ => rfl⟩
theorem eC_tr {k : Nat} {σ τ ρ : tx_St} (h1 : eC k σ τ) (h2 : eC k τ ρ) : eC k σ ρ := fun p hp => (h2 p hp).trans (h1 p hp)
theorem eM_tr {k : Nat} {σ τ ρ : tx_St} (h1 : eM k σ τ) (h2 : eM k τ ρ) : eM k σ ρ := ⟨fun p hp => (h2.1 p hp).trans (h1.1 p hp), fun j hj => ⟨(h2.2.1 j hj).1.trans (h1.2.1 j hj).1, (h2.2.1 j hj).2.1.trans (h1.2.1 j hj).2.1, (h2.2.1 j hj).2.2.trans (h1.2.1 j hj).2.2⟩, fun j hj => (h2.2.2.1 j hj).trans (h1.2.2.1 j hj), fun j hj => (h2.2.2.2 j hj).trans (h1.2.2.2 j hj)⟩
theorem eC_u {k : Nat} (σ : tx_St) {p j : Nat} (x : Int32) (h1 : 27 + 3 * k ≤ p) (h2 : p ≤ 29 + 3 * k) : eC k σ (tx_up σ p j x) := fun q hq => tx_up_ne σ j x (by omega)
theorem eM_u {k : Nat} (ρ : tx_St) {p j : Nat} (x : Int32) (h : ((p = 64 ∨ p = 65 ∨ p = 66) ∧ j = k) ∨ (p = 67 ∧ 4 * k ≤ j ∧ j < 4 * k + 4) ∨ (p = 68 ∧ 3 * k ≤ j ∧ j < 3 * k + 3)) : eM k ρ (tx_up ρ p j x) := by
  refine ⟨fun q hq => tx_up_ne ρ j x (by omega), fun i hi => ⟨px_upN ?_, px_upN ?_, px_upN ?_⟩, fun i hi => px_upN ?_, fun i hi => px_upN ?_⟩
  all_goals omega
/-- frame k: method m, next i, types s -/
def TF (V : Nat → Int32 → Int32 → Prop) (σ ρ : tx_St) (k m i : Nat) (s : TS) : Prop := (σ (27 + 3 * k) 0 = nI m ∧ σ (27 + 3 * k) 1 = nI i ∧ σ (27 + 3 * k) 4 = nI s.1.length) ∧ (ρ 64 k = nI m ∧ ρ 65 k = nI i ∧ ρ 66 k = nI s.1.length) ∧
  (∀ j, j < s.1.length → V (s.1.getD (s.1.length - 1 - j) 0) (σ (29 + 3 * k) j) (ρ 67 (4 * k + j))) ∧ ∀ j, j < 3 → lo_ s j ≠ 0 → V (lo_ s j - 1) (σ (28 + 3 * k) j) (ρ 68 (3 * k + j))
section TFS
variable {V : Nat → Int32 → Int32 → Prop} {σ ρ : tx_St} {k m i : Nat} {st : List Nat} {l : Nat × Nat × Nat} {t : Nat}
theorem TF_up {V2 : Nat → Int32 → Int32 → Prop} {σ' ρ' : tx_St} {s : TS} (h : TF V σ ρ k m i s) (hs : s.1.length ≤ 4) (hV : ∀ t x y, V t x y → V2 t x y) (hC : ∀ p, 27 + 3 * k ≤ p → p ≤ 29 + 3 * k → σ' p = σ p) (h1 : ρ' 64 k = ρ 64 k ∧ ρ' 65 k = ρ 65 k ∧ ρ' 66 k = ρ 66 k) (h2 : ∀ j, 4 * k ≤ j → j < 4 * k + 4 → ρ' 67 j = ρ 67 j) (h3 : ∀ j, 3 * k ≤ j → j < 3 * k + 3 → ρ' 68 j = ρ 68 j) : TF V2 σ' ρ' k m i s := by
  obtain ⟨a, b, c, d⟩ := h
  refine ⟨?_, ?_, fun j hj => ?_, fun j hj hn => ?_⟩
  · rw [hC (27 + 3 * k) (by omega) (by omega)]
    exact a
  · rw [h1.1, h1.2.1, h1.2.2]
    exact b
  · rw [hC (29 + 3 * k) (by omega) (by omega), h2 _ (by omega) (by omega)]
    exact hV _ _ _ (c j hj)
  · rw [hC (28 + 3 * k) (by omega) (by omega), h3 _ (by omega) (by omega)]
    exact hV _ _ _ (d j hj hn)
theorem TF_ne {σ' ρ' : tx_St} {q : Nat} {s : TS} (h : TF V σ ρ k m i s) (hs : s.1.length ≤ 4) (hq : q ≠ k) (hC : eC q σ σ') (hM : eM q ρ ρ') : TF V σ' ρ' k m i s := by
  refine TF_up h hs (fun _ _ _ h => h) (fun p h1 h2 => hC p (by omega)) (hM.2.1 k (by omega)) (fun j h1 h2 => hM.2.2.1 j (by omega)) (fun j h1 h2 => hM.2.2.2 j (by omega))
/-- the class pops -/
theorem fx_Frame_pop_e (h : TF V σ ρ k m i (t :: st, l)) (hs : st.length < 4) : fx_Frame_pop σ (27 + 3 * k) = some (σ (29 + 3 * k) st.length, tx_up σ (27 + 3 * k) 4 (nI st.length)) := by
  unfold fx_Frame_pop
  have e : σ (27 + 3 * k) 4 = nI (st.length + 1) := h.1.2.2
  rw [px_pt, e, px_s1, px_rd (j := st.length) (by rw [px_up, if_pos rfl, if_pos rfl]) hs (by decide), show 27 + 3 * k + 2 = 29 + 3 * k by omega, tx_up_ne _ _ _ (by omega)]
theorem fx_Mo_pop_e {un : Nat} (hu : ρ 45 28 = nI un) (hk : un = k + 1) (hk6 : k < 6) (h : TF V σ ρ k m i (t :: st, l)) (hs : st.length < 4) : fx_Mo_pop ρ = some (ρ 67 (4 * k + st.length), tx_up ρ 66 k (nI st.length)) := by
  unfold fx_Mo_pop
  have e : ρ 66 k = nI (st.length + 1) := h.2.1.2.2
  have e4 : ∀ d, d < 4 → ∀ k, k < 6 → (4 : Int32) * nI k + nI d = nI (4 * k + d) := by decide +kernel
  rw [hu, hk, px_s1, px_rd (j := k) rfl hk6 (by decide), e, px_s1, px_wr (j := k) rfl hk6 (by decide), px_rd (j := k) rfl hk6 (by decide), px_up, if_pos rfl, if_pos rfl, e4 _ hs _ hk6, px_rd (j := 4 * k + st.length) rfl (by omega) (by decide), tx_up_ne _ _ _ (by decide)]
theorem TF_pop (h : TF V σ ρ k m i (t :: st, l)) : TF V (tx_up σ (27 + 3 * k) 4 (nI st.length)) (tx_up ρ 66 k (nI st.length)) k m i (st, l) ∧ V t (σ (29 + 3 * k) st.length) (ρ 67 (4 * k + st.length)) := by
  obtain ⟨a, b, c, d⟩ := h
  refine ⟨⟨⟨?_, ?_, ?_⟩, ⟨?_, ?_, ?_⟩, fun j hj => ?_, fun j hj hn => ?_⟩, ?_⟩
  · simp [px_up]; exact a.1
  · simp [px_up]; exact a.2.1
  · simp [px_up]
  · simp [px_up]; exact b.1
  · simp [px_up]; exact b.2.1
  · simp [px_up]
  · rw [tx_up_ne _ _ _ (by omega), tx_up_ne _ _ _ (by decide)]
    have hj' : j < st.length := hj
    have := c j (by simp only [List.length_cons]; omega)
    simp only [List.length_cons] at this
    rw [show st.length + 1 - 1 - j = (st.length - 1 - j) + 1 by omega, List.getD_cons_succ] at this
    exact this
  · rw [tx_up_ne _ _ _ (by omega), tx_up_ne _ _ _ (by decide)]
    exact d j hj hn
  · have := c st.length (by simp)
    simp only [List.length_cons] at this
    rw [show st.length + 1 - 1 - st.length = 0 by omega, List.getD_cons_zero] at this
    exact this
theorem fx_Frame_push_e {s : TS} (h : TF V σ ρ k m i s) (hs : s.1.length < 4) (x : Int32) : fx_Frame_push σ (27 + 3 * k) x = some (tx_up (tx_up σ (29 + 3 * k) s.1.length x) (27 + 3 * k) 4 (nI (s.1.length + 1))) := by
  unfold fx_Frame_push
  rw [px_wr (j := s.1.length) h.1.2.2 hs (by decide), px_pt, show 27 + 3 * k + 2 = 29 + 3 * k by omega, tx_up_ne _ _ _ (show 27 + 3 * k ≠ 29 + 3 * k by omega), h.1.2.2, nI_1]
theorem fx_Mo_push_e {un : Nat} {s : TS} (hu : ρ 45 28 = nI un) (hk : un = k + 1) (hk6 : k < 6) (h : TF V σ ρ k m i s) (hs : s.1.length < 4) (y : Int32) : fx_Mo_push ρ y = some (tx_up (tx_up ρ 67 (4 * k + s.1.length) y) 66 k (nI (s.1.length + 1))) := by
  unfold fx_Mo_push
  have e4 : ∀ d, d < 4 → ∀ k, k < 6 → (4 : Int32) * nI k + nI d = nI (4 * k + d) := by decide +kernel
  rw [hu, hk, px_s1, px_rd (j := k) rfl hk6 (by decide), h.2.1.2.2, e4 _ hs _ hk6, px_wr (j := 4 * k + s.1.length) rfl (by omega) (by decide), px_rd (j := k) rfl hk6 (by decide), tx_up_ne _ _ _ (by decide), h.2.1.2.2, nI_1, px_wr (j := k) rfl hk6 (by decide)]
theorem TF_push {x y : Int32} (h : TF V σ ρ k m i (st, l)) (hv : V t x y) : TF V (tx_up (tx_up σ (29 + 3 * k) st.length x) (27 + 3 * k) 4 (nI (st.length + 1))) (tx_up (tx_up ρ 67 (4 * k + st.length) y) 66 k (nI (st.length + 1))) k m i (t :: st, l) := by
  obtain ⟨a, b, c, d⟩ := h
  refine ⟨⟨?_, ?_, ?_⟩, ⟨?_, ?_, ?_⟩, fun j hj => ?_, fun j hj hn => ?_⟩
  · simp [px_up]; exact a.1
  · simp [px_up]; exact a.2.1
  · simp [px_up]
  · simp [px_up]; exact b.1
  · simp [px_up]; exact b.2.1
  · simp [px_up]
  · simp only [List.length_cons] at hj ⊢
    rw [tx_up_ne _ _ _ (show 29 + 3 * k ≠ 27 + 3 * k by omega), tx_up_ne _ _ _ (show (67 : Nat) ≠ 66 by decide), px_up, px_up, if_pos rfl, if_pos rfl]
    by_cases hje : j = st.length
    · subst hje
      rw [if_pos rfl, if_pos rfl, show st.length + 1 - 1 - st.length = 0 by omega, List.getD_cons_zero]
      exact hv
    · rw [if_neg hje, if_neg (by omega), show st.length + 1 - 1 - j = (st.length - 1 - j) + 1 by omega, List.getD_cons_succ]
      exact c j (by show j < st.length; omega)
  · rw [tx_up_ne _ _ _ (by omega), tx_up_ne _ _ _ (by omega), tx_up_ne _ _ _ (by decide), tx_up_ne _ _ _ (by decide)]
    exact d j hj hn
/-- a new next -/
theorem TF_next {s : TS} {j : Nat} (h : TF V σ ρ k m i s) : TF V (tx_up σ (27 + 3 * k) 1 (nI j)) (tx_up ρ 65 k (nI j)) k m j s := by
  obtain ⟨a, b, c, d⟩ := h
  refine ⟨⟨?_, ?_, ?_⟩, ⟨?_, ?_, ?_⟩, fun q hq => ?_, fun q hq hn => ?_⟩
  · simp [px_up]; exact a.1
  · simp [px_up]
  · simp [px_up]; exact a.2.2
  · simp [px_up]; exact b.1
  · simp [px_up]
  · simp [px_up]; exact b.2.2
  · rw [tx_up_ne _ _ _ (by omega), tx_up_ne _ _ _ (by decide)]
    exact c q hq
  · rw [tx_up_ne _ _ _ (by omega), tx_up_ne _ _ _ (by decide)]
    exact d q hq hn
/-- a local is stored -/
theorem TF_store {s : TS} {a v : Nat} {x y : Int32} (ha : a < 3) (h : TF V σ ρ k m i s) (hv : v ≠ 0 → V (v - 1) x y) : TF V (tx_up σ (28 + 3 * k) a x) (tx_up ρ 68 (3 * k + a) y) k m i (ls_ s a v) := by
  obtain ⟨b, c, d, e⟩ := h
  have e1 : (ls_ s a v).1 = s.1 := by
    unfold ls_
    split
    · rfl
    · split <;> rfl
  have e2 : ∀ j, j < 3 → lo_ (ls_ s a v) j = if j = a then v else lo_ s j := by
    intro j hj
    unfold ls_ lo_
    rcases (by omega : a = 0 ∨ a = 1 ∨ a = 2) with rfl | rfl | rfl <;> rcases (by omega : j = 0 ∨ j = 1 ∨ j = 2) with rfl | rfl | rfl <;> simp
  unfold TF
  rw [e1]
  refine ⟨?_, ?_, fun q hq => ?_, fun q hq hn => ?_⟩
  · rw [tx_up_ne _ _ _ (by omega)]; exact b
  · rw [tx_up_ne _ _ _ (by decide), tx_up_ne _ _ _ (by decide), tx_up_ne _ _ _ (by decide)]; exact c
  · rw [tx_up_ne _ _ _ (by omega), tx_up_ne _ _ _ (by decide)]
    exact d q hq
  · rw [e2 q hq] at hn ⊢
    rw [px_up, px_up, if_pos rfl, if_pos rfl]
    by_cases hqa : q = a
    · subst hqa
      rw [if_pos rfl] at hn ⊢
      rw [if_pos rfl, if_pos rfl]
      exact hv hn
    · rw [if_neg hqa] at hn ⊢
      rw [if_neg hqa, if_neg (by omega)]
      exact e q hq hn
end TFS
