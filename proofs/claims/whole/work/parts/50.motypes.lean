/-! the reference's functions on packed types -/
theorem st_cases {st : List Nat} (h : st.length ≤ 4) : st = [] ∨ (∃ x, st = [x]) ∨ (∃ x y, st = [x, y]) ∨ (∃ x y z, st = [x, y, z]) ∨ ∃ x y z w, st = [x, y, z, w] := by
  match st, h with
  | [], _ => exact Or.inl rfl
  | [x], _ => exact Or.inr (Or.inl ⟨x, rfl⟩)
  | [x, y], _ => exact Or.inr (Or.inr (Or.inl ⟨x, y, rfl⟩))
  | [x, y, z], _ => exact Or.inr (Or.inr (Or.inr (Or.inl ⟨x, y, z, rfl⟩)))
  | [x, y, z, w], _ => exact Or.inr (Or.inr (Or.inr (Or.inr ⟨x, y, z, w, rfl⟩)))
  | _ :: _ :: _ :: _ :: _ :: _, h => simp at h
theorem pq_lt {n : Nat} (hn : n ≤ 10) {s : TS} (h : okS n s) : pk_ s < 2 ^ 28 := by
  obtain ⟨st, a, b, c⟩ := s
  obtain ⟨h1, h2, h3, h4, h5⟩ := h
  have := pkS_lt hn st h2
  have h6 : 16 ^ st.length ≤ 16 ^ 4 := Nat.pow_le_pow_right (by decide) h1
  simp only [pk_] at *
  omega
theorem nib_at {n : Nat} (hn : n ≤ 10) {s : TS} (h : okS n s) {k : Nat} (hk : k < s.1.length) : pk_ s / 2 ^ (4 * k) % 16 = s.1.getD (s.1.length - 1 - k) 0 + 1 := by
  obtain ⟨st, a, b, c⟩ := s
  obtain ⟨h1, h2, h3, h4, h5⟩ := h
  simp only at h1 h2 h3 h4 h5 hk ⊢
  rcases st_cases h1 with rfl | ⟨x, rfl⟩ | ⟨x, y, rfl⟩ | ⟨x, y, z, rfl⟩ | ⟨x, y, z, w, rfl⟩
  · simp at hk
  · have g1 := h2 x (by simp)
    simp only [List.length_cons, List.length_nil] at hk
    obtain rfl : k = 0 := by omega
    simp [pk_, pkS]
    omega
  · have g1 := h2 x (by simp)
    have g2 := h2 y (by simp)
    simp only [List.length_cons, List.length_nil] at hk
    rcases (by omega : k = 0 ∨ k = 1) with rfl | rfl <;> simp [pk_, pkS] <;> omega
  · have g1 := h2 x (by simp)
    have g2 := h2 y (by simp)
    have g3 := h2 z (by simp)
    simp only [List.length_cons, List.length_nil] at hk
    rcases (by omega : k = 0 ∨ k = 1 ∨ k = 2) with rfl | rfl | rfl <;> simp [pk_, pkS] <;> omega
  · have g1 := h2 x (by simp)
    have g2 := h2 y (by simp)
    have g3 := h2 z (by simp)
    have g4 := h2 w (by simp)
    simp only [List.length_cons, List.length_nil] at hk
    rcases (by omega : k = 0 ∨ k = 1 ∨ k = 2 ∨ k = 3) with rfl | rfl | rfl | rfl <;> simp [pk_, pkS] <;> omega
theorem nib_0 {n : Nat} (hn : n ≤ 10) {s : TS} (h : okS n s) {k : Nat} (hk : s.1.length ≤ k) (hk4 : k < 4) : pk_ s / 2 ^ (4 * k) % 16 = 0 := by
  obtain ⟨st, a, b, c⟩ := s
  obtain ⟨h1, h2, h3, h4, h5⟩ := h
  simp only at h1 h2 h3 h4 h5 hk ⊢
  have := pkS_lt hn st h2
  have hle : 16 ^ st.length ≤ 16 ^ k := Nat.pow_le_pow_right (by decide) hk
  rcases (by omega : k = 0 ∨ k = 1 ∨ k = 2 ∨ k = 3) with rfl | rfl | rfl | rfl <;> simp only [pk_] <;> omega
theorem nib_l {n : Nat} (hn : n ≤ 10) {s : TS} (h : okS n s) : pk_ s / 2 ^ (4 * 4) % 16 = s.2.1 ∧ pk_ s / 2 ^ (4 * 5) % 16 = s.2.2.1 ∧ pk_ s / 2 ^ (4 * 6) % 16 = s.2.2.2 := by
  obtain ⟨st, a, b, c⟩ := s
  obtain ⟨h1, h2, h3, h4, h5⟩ := h
  simp only at h1 h2 h3 h4 h5 ⊢
  have := pkS_lt hn st h2
  have h6 : 16 ^ st.length ≤ 16 ^ 4 := Nat.pow_le_pow_right (by decide) h1
  simp only [pk_]
  omega
section MT
variable {σ : tx_St} {n : Nat} {s : TS}
theorem fx_Mo_depth_l (hn : n ≤ 10) (h : okS n s) : ∀ (r k F : Nat), k + r = s.1.length → r < F → fx_Mo_depth_b2 F σ (nI (pk_ s)) (nI k) = some (nI s.1.length, σ) := by
  have hP := pq_lt hn h
  have h4 := h.1
  intro r
  induction r with
  | zero =>
    intro k F hk hF
    obtain ⟨F, rfl⟩ : ∃ G, F = G + 1 := ⟨F - 1, by omega⟩
    have : k = s.1.length := by omega
    subst this
    rw [fx_Mo_depth_b2]
    unfold fx_Mo_depth_b24
    by_cases h5 : s.1.length = 4
    · rw [if_pos (by rw [h5]; decide)]
    · rw [px_nib (by omega) (px_sh4 s.1.length (by omega)), nib_0 hn h (Nat.le_refl _) (by omega), if_pos nI_0, ite_self]
  | succ r ih =>
    intro k F hk hF
    obtain ⟨F, rfl⟩ : ∃ G, F = G + 1 := ⟨F - 1, by omega⟩
    rw [fx_Mo_depth_b2, px_nib (by omega) (px_sh4 k (by omega)), nib_at hn h (by omega), nI_1]
    rw [if_neg (by rw [show (4 : Int32) = nI 4 by decide]; exact nI_ge (by omega) (by omega)), if_neg]
    · exact ih (k + 1) F (by omega) (by omega)
    · intro z
      have hx : s.1.getD (s.1.length - 1 - k) 0 + 1 ≤ 16 := by
        rw [← nib_at hn h (by omega)]
        omega
      have := (nI_z (by omega)).mp z
      omega
theorem fx_Mo_depth_e (hn : n ≤ 10) (h : okS n s) : fx_Mo_depth σ (nI (pk_ s)) = some (nI s.1.length, σ) := by
  unfold fx_Mo_depth
  rw [show (0 : Int32) = nI 0 by decide]
  exact fx_Mo_depth_l hn h s.1.length 0 tx_fu (by omega) (by unfold tx_fu; have := h.1; omega)
theorem fx_Mo_typeAt_e (hn : n ≤ 10) (h : okS n s) {k : Nat} (hk : k < 2) : fx_Mo_typeAt σ (nI (pk_ s)) (nI k) = some (if k < s.1.length then nI (s.1.getD k 0) else -1, σ) := by
  have hP := pq_lt hn h
  have h4 := h.1
  unfold fx_Mo_typeAt fx_Mo_typeAt_b27
  rw [fx_Mo_depth_e hn h, px_ci]
  by_cases hl : k < s.1.length
  · have e : nI s.1.length - 1 - nI k = nI (s.1.length - 1 - k) := by
      rw [show (1 : Int32) = nI 1 by decide, pk_sub (by omega), pk_sub (by omega)]
    rw [e, if_pos (nI_pos' (by omega)), if_pos hl, px_nib (by omega) (px_sh4 _ (by omega)), nib_at hn h (by omega), nI_pred, show s.1.length - 1 - (s.1.length - 1 - k) = k by omega]
  · have e : ¬ 0 ≤ nI s.1.length - 1 - nI k := by
      have : ∀ a, a < 5 → ∀ k, k < 2 → ¬ k < a → ¬ (0 : Int32) ≤ nI a - 1 - nI k := by decide +kernel
      exact this _ (by omega) _ hk hl
    rw [if_neg e, if_neg hl]
theorem px_shE : ∀ d, d < 4 → (4 : Int32) * (nI (d + 1) - 1) &&& 31 = nI (4 * d) &&& 31 := by decide +kernel
theorem fx_Mo_drop_e (hn : n ≤ 10) {t : Nat} {st : List Nat} {l : Nat × Nat × Nat} (h : okS n (t :: st, l)) : fx_Mo_drop σ (nI (pk_ (t :: st, l))) = some (nI (pk_ (st, l)), σ) := by
  have hP := pq_lt hn h
  have h4 := h.1
  simp only [List.length_cons] at h4
  unfold fx_Mo_drop
  rw [fx_Mo_depth_e hn h, px_ci]
  simp only [List.length_cons]
  rw [px_shE _ (by omega), px_drop hP (by omega)]
  have hx := nib_at hn h (k := st.length) (by simp)
  simp only [List.length_cons] at hx
  rw [show st.length + 1 - 1 - st.length = 0 by omega] at hx
  rw [hx]
  congr 3
  have e : (2 : Nat) ^ (4 * st.length) = 16 ^ st.length := by rw [Nat.pow_mul]
  rw [e]
  simp only [pk_, pkS, List.getD_cons_zero]
  omega
/-- abstract: take a value that fits w -/
noncomputable def tk (σ : tx_St) (w : Nat) (s : TS) : Option TS := match s.1 with
  | [] => none
  | t :: st => @ite _ (fi σ t w) (Classical.propDecidable _) (some (st, s.2)) none
/-- take a reference -/
def tT (s : TS) : Option TS := match s.1 with
  | [] => none
  | t :: st => if t = 0 then none else some (st, s.2)
def gv (t : Nat) (s : TS) : Option TS := if s.1.length = 4 then none else some (t :: s.1, s.2)
theorem okS_tl {t : Nat} {st : List Nat} {l : Nat × Nat × Nat} (h : okS n (t :: st, l)) : okS n (st, l) ∧ t < n := by
  obtain ⟨h1, h2, h3⟩ := h
  simp only [List.length_cons] at h1
  exact ⟨⟨by simp only; omega, fun x hx => h2 x (List.mem_cons_of_mem _ hx), h3⟩, h2 t List.mem_cons_self⟩
theorem tk_ok {w : Nat} {s2 : TS} (h : okS n s) (e : tk σ w s = some s2) : okS n s2 := by
  obtain ⟨st, l⟩ := s
  cases st with
  | nil => cases e
  | cons t st =>
    unfold tk at e
    simp only at e
    split at e
    · cases e
      exact (okS_tl h).1
    · cases e
theorem tT_ok {s2 : TS} (h : okS n s) (e : tT s = some s2) : okS n s2 := by
  obtain ⟨st, l⟩ := s
  cases st with
  | nil => cases e
  | cons t st =>
    unfold tT at e
    simp only at e
    split at e
    · cases e
    · cases e
      exact (okS_tl h).1
theorem gv_ok {t : Nat} (ht : t < n) {s2 : TS} (h : okS n s) (e : gv t s = some s2) : okS n s2 := by
  unfold gv at e
  split at e
  · cases e
  · cases e
    rename_i h4
    obtain ⟨h1, h2, h3⟩ := h
    refine ⟨by simp only [List.length_cons]; omega, fun x hx => ?_, h3⟩
    rcases List.mem_cons.mp hx with rfl | hx
    · exact ht
    · exact h2 x hx
theorem en_nn (hn : n ≤ 10) (h : okS n s) : 0 ≤ en (some s) := nI_pos' (by have := pq_lt hn h; omega)
theorem fx_Mo_give_e (hn : n ≤ 10) (h : okS n s) {t : Nat} (ht : t < n) : fx_Mo_give σ (en (some s)) (nI t) = some (en (gv t s), σ) := by
  have hP := pq_lt hn h
  have h4 := h.1
  unfold fx_Mo_give fx_Mo_give_b29
  rw [if_pos (en_nn hn h)]
  unfold en gv
  simp only
  rw [fx_Mo_depth_e hn h, px_ci]
  by_cases h5 : s.1.length = 4
  · rw [if_pos (by rw [h5]; decide), if_pos h5]
  · have hne : ¬ nI s.1.length = 4 := fun z => h5 ((nI_eq (a := s.1.length) (b := 4) (by omega) (by decide)).mp z)
    rw [if_neg hne, if_neg h5, nI_1, px_give hP (by omega) (nib_0 hn h (Nat.le_refl _) (by omega)) (by omega) (px_sh4 _ (by omega))]
    have e : (2 : Nat) ^ (4 * s.1.length) = 16 ^ s.1.length := by rw [Nat.pow_mul]
    rw [e]
    simp only [pk_, pkS]
    congr 3
    omega
theorem fx_Mo_give_n (t : Int32) : fx_Mo_give σ (-1) t = some (-1, σ) := by
  unfold fx_Mo_give
  rw [if_neg (by decide)]
theorem fx_Mo_take_n (t : Int32) : fx_Mo_take σ (-1) t = some (-1, σ) := by
  unfold fx_Mo_take
  rw [if_neg (by decide)]
theorem fx_Mo_takeThing_n : fx_Mo_takeThing σ (-1) = some (-1, σ) := by
  unfold fx_Mo_takeThing fx_Mo_takeThing_b13 fx_Mo_takeThing_b21
  rw [if_pos (by decide)]
theorem fx_Mo_take_e {nC nF nM : Nat} (hB : iv_B σ nC nF nM) (h : okS (nC + 2) s) {w : Nat} (hw : w < nC + 2) : fx_Mo_take σ (en (some s)) (nI w) = some (en (tk σ w s), σ) := by
  have hb := B_n hB
  have hn : nC + 2 ≤ 10 := by omega
  unfold fx_Mo_take fx_Mo_take_b25 fx_Mo_take_b33
  rw [if_pos (en_nn hn h)]
  have ht := fx_Mo_typeAt_e (σ := σ) hn h (k := 0) (by omega)
  rw [nI_0] at ht
  obtain ⟨st, l⟩ := s
  cases st with
  | nil =>
    have ht : fx_Mo_typeAt σ (en (some ([], l))) 0 = some (-1, σ) := ht
    rw [ht, px_ci, if_pos (by decide)]
    rfl
  | cons t st =>
    have hk := okS_tl h
    have ht : fx_Mo_typeAt σ (en (some (t :: st, l))) 0 = some (nI t, σ) := by
      refine ht.trans ?_
      simp
    rw [ht, px_ci, if_neg (nI_pos (by omega)), fx_Mo_fits_e hB hk.2 hw, px_ci]
    by_cases hf : fi σ t w
    · have hd : fx_Mo_drop σ (en (some (t :: st, l))) = some (nI (pk_ (st, l)), σ) := fx_Mo_drop_e hn h
      rw [bP_t hf, if_neg (by decide), hd, px_ci]
      unfold tk
      simp only
      rw [if_pos hf]
      rfl
    · rw [bP_f hf, if_pos rfl]
      unfold tk
      simp only
      rw [if_neg hf]
      rfl
theorem fx_Mo_takeThing_e (hn : n ≤ 10) (h : okS n s) : fx_Mo_takeThing σ (en (some s)) = some (en (tT s), σ) := by
  unfold fx_Mo_takeThing fx_Mo_takeThing_b13 fx_Mo_takeThing_b21
  have h0 : ¬ en (some s) < 0 := nI_pos (by have := pq_lt hn h; omega)
  rw [if_neg h0]
  have ht := fx_Mo_typeAt_e (σ := σ) hn h (k := 0) (by omega)
  rw [nI_0] at ht
  obtain ⟨st, l⟩ := s
  cases st with
  | nil =>
    have ht : fx_Mo_typeAt σ (en (some ([], l))) 0 = some (-1, σ) := ht
    rw [ht, px_ci, if_neg (by decide)]
    rfl
  | cons t st =>
    have hk := okS_tl h
    have ht : fx_Mo_typeAt σ (en (some (t :: st, l))) 0 = some (nI t, σ) := by
      refine ht.trans ?_
      simp
    rw [ht, px_ci]
    unfold tT
    simp only
    by_cases hz : t = 0
    · subst hz
      rw [if_neg (by decide), if_pos rfl]
      rfl
    · have hd : fx_Mo_drop σ (en (some (t :: st, l))) = some (nI (pk_ (st, l)), σ) := fx_Mo_drop_e hn h
      rw [if_pos (by rw [show (1 : Int32) = nI 1 by decide]; exact nI_le (by omega) (by omega)), hd, px_ci, if_neg hz]
      rfl
/-- abstract: load and store of a local; the operand is any number -/
def lo_ (s : TS) (k : Nat) : Nat := if k = 0 then s.2.1 else if k = 1 then s.2.2.1 else s.2.2.2
def ls_ (s : TS) (k v : Nat) : TS := if k = 0 then (s.1, v, s.2.2.1, s.2.2.2) else if k = 1 then (s.1, s.2.1, v, s.2.2.2) else (s.1, s.2.1, s.2.2.1, v)
noncomputable def ld (a : Int32) (s : TS) : Option TS := @ite _ (∃ k, k < 3 ∧ a = nI k ∧ lo_ s k ≠ 0) (Classical.propDecidable _) (gv (lo_ s (N_ a) - 1) s) none
noncomputable def sv (a : Int32) (s : TS) : Option TS := match s.1 with
  | [] => none
  | t :: st => @ite _ (∃ k, k < 3 ∧ a = nI k) (Classical.propDecidable _) (some (ls_ (st, s.2) (N_ a) (t + 1))) none
theorem lo_le (h : okS n s) (k : Nat) : lo_ s k ≤ n := by
  unfold lo_
  obtain ⟨-, -, h3, h4, h5⟩ := h
  split
  · exact h3
  · split
    · exact h4
    · exact h5
theorem ls_ok {k v : Nat} (hv : v ≤ n) (h : okS n s) : okS n (ls_ s k v) := by
  obtain ⟨h1, h2, h3, h4, h5⟩ := h
  unfold ls_
  split
  · exact ⟨h1, h2, hv, h4, h5⟩
  · split
    · exact ⟨h1, h2, h3, hv, h5⟩
    · exact ⟨h1, h2, h3, h4, hv⟩
theorem nib_lo (hn : n ≤ 10) (h : okS n s) {k : Nat} (hk : k < 3) : pk_ s / 2 ^ (4 * (k + 4)) % 16 = lo_ s k := by
  obtain ⟨e1, e2, e3⟩ := nib_l hn h
  unfold lo_
  rcases (by omega : k = 0 ∨ k = 1 ∨ k = 2) with rfl | rfl | rfl
  · simpa using e1
  · simpa using e2
  · simpa using e3
theorem ld_ok {a : Int32} {s2 : TS} (hn : n ≤ 10) (h : okS n s) (e : ld a s = some s2) : okS n s2 := by
  unfold ld at e
  split at e
  · rename_i hx
    obtain ⟨k, hk, rfl, h0⟩ := hx
    rw [N_nI (by omega)] at e
    have := lo_le h k
    exact gv_ok (by omega) h e
  · cases e
theorem sv_ok {a : Int32} {s2 : TS} (h : okS n s) (e : sv a s = some s2) : okS n s2 := by
  obtain ⟨st, l⟩ := s
  cases st with
  | nil => cases e
  | cons t st =>
    unfold sv at e
    simp only at e
    have hk := okS_tl h
    split at e
    · cases e
      exact ls_ok (by omega) hk.1
    · cases e
theorem fx_Mo_loaded_e (hn : n ≤ 10) (h : okS n s) (a : Int32) : fx_Mo_loaded σ (en (some s)) a = some (en (ld a s), σ) := by
  have hP := pq_lt hn h
  unfold fx_Mo_loaded fx_Mo_loaded_b9 fx_Mo_loaded_b38
  by_cases ha : ¬ a < 0 ∧ a ≤ 2
  · obtain ⟨k, hk, rfl⟩ := nI_of2 (x := a) (M := 2) (n := 2) (by decide) ha.1 ha.2
    have hx : (en (some s) >>> (((16 : Int32) + ((4 : Int32) * nI k)) &&& 31)) &&& (15 : Int32) = nI (lo_ s k) := by
      show (nI (pk_ s) >>> _) &&& 15 = _
      rw [px_nib (by omega) (px_sh4' k (by omega)), nib_lo hn h (by omega)]
    rw [if_neg ha.1, if_pos ha.2, hx]
    have hl := lo_le h k
    by_cases h0 : lo_ s k = 0
    · rw [if_pos (by rw [h0]; rfl)]
      unfold ld
      rw [if_neg]
      · rfl
      · rintro ⟨j, hj, e, h1⟩
        have : k = j := (nI_eq (by omega) (by omega)).mp e
        exact h1 (this ▸ h0)
    · rw [if_neg (fun z => h0 ((nI_z (by omega)).mp z)), show nI (lo_ s k) - 1 = nI (lo_ s k - 1) by rw [show (1 : Int32) = nI 1 by decide, pk_sub (by omega)], fx_Mo_give_e hn h (by omega), px_ci]
      unfold ld
      rw [if_pos ⟨k, by omega, rfl, h0⟩, N_nI (by omega)]
  · have hno : ¬ ∃ k, k < 3 ∧ a = nI k ∧ lo_ s k ≠ 0 := by
      rintro ⟨k, hk, rfl, -⟩
      exact ha ⟨nI_pos (by omega), by rw [show (2 : Int32) = nI 2 by decide]; exact nI_le (by omega) (by omega)⟩
    have e : en (ld a s) = -1 := by
      unfold ld
      rw [if_neg hno]
      rfl
    rw [e]
    by_cases h1 : a < 0
    · rw [if_pos h1]
    · rw [if_neg h1, if_neg (fun z => ha ⟨h1, z⟩)]
theorem px_mask4 : ∀ k, k < 3 → (16 : Int32) + (4 : Int32) * nI k &&& 31 = nI (4 * (k + 4)) &&& 31 := by decide +kernel
theorem ls_sub {st : List Nat} {a b c k : Nat} (hk3 : k < 3) : pk_ (st, a, b, c) - lo_ (st, a, b, c) k * 2 ^ (4 * (k + 4)) = pk_ (ls_ (st, a, b, c) k 0) := by
  generalize hp : pkS st = p
  rcases (by omega : k = 0 ∨ k = 1 ∨ k = 2) with rfl | rfl | rfl
  · simp only [pk_, ls_, lo_, hp, if_true]
    omega
  · simp only [pk_, ls_, lo_, hp, if_true, Nat.one_ne_zero, if_false]
    omega
  · simp only [pk_, ls_, lo_, hp, show ¬ (2 : Nat) = 0 by decide, show ¬ (2 : Nat) = 1 by decide, if_false]
    omega
theorem ls_add {st : List Nat} {a b c k t : Nat} (hk3 : k < 3) : pk_ (ls_ (st, a, b, c) k 0) + t * 2 ^ (4 * (k + 4)) = pk_ (ls_ (st, a, b, c) k t) := by
  generalize hp : pkS st = p
  rcases (by omega : k = 0 ∨ k = 1 ∨ k = 2) with rfl | rfl | rfl
  · simp only [pk_, ls_, hp, if_true]
    omega
  · simp only [pk_, ls_, hp, if_true, Nat.one_ne_zero, if_false]
    omega
  · simp only [pk_, ls_, hp, show ¬ (2 : Nat) = 0 by decide, show ¬ (2 : Nat) = 1 by decide, if_false]
    omega
theorem ls_lo {s : TS} {k v : Nat} (hk3 : k < 3) : lo_ (ls_ s k v) k = v := by
  rcases (by omega : k = 0 ∨ k = 1 ∨ k = 2) with rfl | rfl | rfl <;> simp [lo_, ls_]
theorem st_word (hn : n ≤ 10) {st : List Nat} {a b c : Nat} (h : okS n (st, a, b, c)) {k t : Nat} (hk3 : k < 3) (ht : t < n) :
    (nI (pk_ (st, a, b, c)) &&& (((15 : Int32) <<< (((16 : Int32) + ((4 : Int32) * nI k)) &&& 31)) ^^^ (-1 : Int32))) ||| ((nI t + (1 : Int32)) <<< (((16 : Int32) + ((4 : Int32) * nI k)) &&& 31)) = nI (pk_ (ls_ (st, a, b, c) k (t + 1))) := by
  have hP := pq_lt hn h
  have hq : okS n (ls_ (st, a, b, c) k 0) := ls_ok (by omega) h
  have e1 : nI (pk_ (st, a, b, c)) &&& (((15 : Int32) <<< (((16 : Int32) + ((4 : Int32) * nI k)) &&& 31)) ^^^ (-1 : Int32)) = nI (pk_ (ls_ (st, a, b, c) k 0)) := by
    rw [px_mask4 k hk3, px_drop hP (by omega), nib_lo hn h hk3, ls_sub hk3]
  rw [e1, nI_1, px_give (j := k + 4) (pq_lt hn hq) (by omega) (by rw [nib_lo hn hq hk3, ls_lo hk3]) (by omega) (px_sh4' k hk3), ls_add hk3]
theorem sv_rng (a : Int32) : (∃ k, k < 3 ∧ a = nI k) ↔ ¬ a < 0 ∧ ¬ (2 : Int32) < a := by
  constructor
  · rintro ⟨k, hk, rfl⟩
    exact ⟨nI_pos (by omega), by rw [show (2 : Int32) = nI 2 by decide]; exact nI_nlt (by omega) (by omega)⟩
  · rintro ⟨h1, h2⟩
    obtain ⟨k, hk, e⟩ := nI_of2 (x := a) (M := 2) (n := 2) (by decide) h1 (by rw [Int32.le_iff_toInt_le]; rw [Int32.lt_iff_toInt_lt] at h2; omega)
    exact ⟨k, by omega, e⟩
theorem fx_Mo_stored_e (hn : n ≤ 10) (h : okS n s) (a : Int32) : fx_Mo_stored σ (en (some s)) a = some (en (sv a s), σ) := by
  unfold fx_Mo_stored fx_Mo_stored_b19
  have ht := fx_Mo_typeAt_e (σ := σ) hn h (k := 0) (by omega)
  rw [nI_0] at ht
  obtain ⟨st, l0, l1, l2⟩ := s
  cases st with
  | nil =>
    have ht : fx_Mo_typeAt σ (en (some ([], l0, l1, l2))) 0 = some (-1, σ) := ht
    have e : en (sv a ([], l0, l1, l2)) = -1 := rfl
    rw [ht, px_ci, e, show (if (0 : Int32) ≤ -1 then tx_ci (fx_Mo_drop σ (en (some ([], l0, l1, l2)))) (fun r7 σ6 => some (((r7 &&& (((15 : Int32) <<< (((16 : Int32) + ((4 : Int32) * a)) &&& 31)) ^^^ (-1 : Int32))) ||| (((-1 : Int32) + (1 : Int32)) <<< (((16 : Int32) + ((4 : Int32) * a)) &&& 31))), σ6)) else some ((-1 : Int32), σ)) = some (-1, σ) from if_neg (by decide), ite_self, ite_self]
  | cons t st =>
    have hk := okS_tl h
    have ht : fx_Mo_typeAt σ (en (some (t :: st, l0, l1, l2))) 0 = some (nI t, σ) := by
      refine ht.trans ?_
      simp
    have hd : fx_Mo_drop σ (en (some (t :: st, l0, l1, l2))) = some (nI (pk_ (st, l0, l1, l2)), σ) := fx_Mo_drop_e hn h
    have hsv : sv a (t :: st, l0, l1, l2) = @ite _ (∃ k, k < 3 ∧ a = nI k) (Classical.propDecidable _) (some (ls_ (st, l0, l1, l2) (N_ a) (t + 1))) none := rfl
    rw [ht, px_ci, hd, px_ci, hsv]
    by_cases hr : ∃ k, k < 3 ∧ a = nI k
    · rw [if_neg ((sv_rng a).mp hr).1, if_neg ((sv_rng a).mp hr).2, if_pos (nI_pos' (by omega)), if_pos hr]
      obtain ⟨k, hk3, rfl⟩ := hr
      have hkv := hk.2
      rw [st_word hn hk.1 hk3 hk.2, N_nI (by omega)]
      unfold en
      rfl
    · have hr2 := fun z => hr ((sv_rng a).mpr z)
      rw [if_neg hr]
      by_cases h1 : a < 0
      · rw [if_pos h1]
        unfold en
        rfl
      · rw [if_neg h1, if_pos (Classical.not_not.mp (fun z => hr2 ⟨h1, z⟩))]
        unfold en
        rfl
end MT
