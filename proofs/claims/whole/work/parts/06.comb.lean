/-! The words in which the printed functions are written, and what 'some' says of each. -/
def tx_fu : Nat := 400
def tx_rd {β : Type} (σ : tx_St) (c n : Nat) (i : Int32) (k : Int32 → Option β) : Option β := if i < 0 ∨ n ≤ i.toNatClampNeg then none else k (σ c i.toNatClampNeg)
def tx_wr {β : Type} (σ : tx_St) (c n : Nat) (i x : Int32) (k : tx_St → Option β) : Option β := if i < 0 ∨ n ≤ i.toNatClampNeg then none else k (tx_up σ c i.toNatClampNeg x)
def tx_wz {β : Type} (σ : tx_St) (c n : Nat) (i x : Int32) (k : tx_St → Option β) : Option β := if i < 0 ∨ n ≤ i.toNatClampNeg then none else if x = 0 ∨ x = 1 then k (tx_up σ c i.toNatClampNeg x) else none
def tx_pt {β : Type} (σ : tx_St) (c j : Nat) (x : Int32) (k : tx_St → Option β) : Option β := k (tx_up σ c j x)
def tx_pz {β : Type} (σ : tx_St) (c j : Nat) (x : Int32) (k : tx_St → Option β) : Option β := if x = 0 ∨ x = 1 then k (tx_up σ c j x) else none
def tx_rf {β : Type} (i : Int32) (k : Nat → Option β) : Option β := if i < 0 ∨ 6 ≤ i.toNatClampNeg then none else k (27 + 3 * i.toNatClampNeg)
def tx_ci {β : Type} (o : Option (Int32 × tx_St)) (k : Int32 → tx_St → Option β) : Option β := match o with
  | none => none
  | some t => k t.1 t.2
def tx_cl8 {β : Type} (o : Option (Int64 × tx_St)) (k : Int64 → tx_St → Option β) : Option β := match o with
  | none => none
  | some t => k t.1 t.2
def tx_cv {β : Type} (o : Option tx_St) (k : tx_St → Option β) : Option β := match o with
  | none => none
  | some t => k t
def tx_rz (v : Int32) (σ : tx_St) : Option (Int32 × tx_St) := if v = 0 ∨ v = 1 then some (v, σ) else none
theorem tx_ifp {c : Prop} [Decidable c] {α : Type} {a b t : α} (h : c) (hT : (if c then a else b) = t) : a = t := by rwa [if_pos h] at hT
theorem tx_ifn {c : Prop} [Decidable c] {α : Type} {a b t : α} (h : ¬ c) (hT : (if c then a else b) = t) : b = t := by rwa [if_neg h] at hT
theorem tx_inc {x c : Int32} {n : Int} (h : Int32.ofInt n = c) : x + Int32.ofInt n = x + c := by rw [h]
theorem tx_rd_some {β : Type} {σ : tx_St} {c n : Nat} {i : Int32} {k : Int32 → Option β} {t : β} (h : tx_rd σ c n i k = some t) : ∃ v, σ c i.toNatClampNeg = v ∧ vp_in i n ∧ k v = some t := by
  unfold tx_rd at h
  split at h
  · cases h
  · rename_i hn
    exact ⟨_, rfl, hn, h⟩
theorem tx_wr_some {β : Type} {σ : tx_St} {c n : Nat} {i x : Int32} {k : tx_St → Option β} {t : β} (h : tx_wr σ c n i x k = some t) : ∃ s, tx_up σ c i.toNatClampNeg x = s ∧ vp_in i n ∧ k s = some t := by
  unfold tx_wr at h
  split at h
  · cases h
  · rename_i hn
    exact ⟨_, rfl, hn, h⟩
theorem tx_wz_some {β : Type} {σ : tx_St} {c n : Nat} {i x : Int32} {k : tx_St → Option β} {t : β} (h : tx_wz σ c n i x k = some t) : ∃ s, tx_up σ c i.toNatClampNeg x = s ∧ vp_in i n ∧ (x = 0 ∨ x = 1) ∧ k s = some t := by
  unfold tx_wz at h
  split at h
  · cases h
  · rename_i hn
    split at h
    · rename_i hx
      exact ⟨_, rfl, hn, hx, h⟩
    · cases h
theorem tx_pt_some {β : Type} {σ : tx_St} {c j : Nat} {x : Int32} {k : tx_St → Option β} {t : β} (h : tx_pt σ c j x k = some t) : ∃ s, tx_up σ c j x = s ∧ k s = some t := ⟨_, rfl, h⟩
theorem tx_pz_some {β : Type} {σ : tx_St} {c j : Nat} {x : Int32} {k : tx_St → Option β} {t : β} (h : tx_pz σ c j x k = some t) : ∃ s, tx_up σ c j x = s ∧ (x = 0 ∨ x = 1) ∧ k s = some t := by
  unfold tx_pz at h
  split at h
  · rename_i hx
    exact ⟨_, rfl, hx, h⟩
  · cases h
theorem tx_rz_some {v : Int32} {σ : tx_St} {t : Int32 × tx_St} (h : tx_rz v σ = some t) : (v = 0 ∨ v = 1) ∧ some (v, σ) = some t := by
  unfold tx_rz at h
  split at h
  · rename_i hx
    exact ⟨hx, h⟩
  · cases h
theorem tx_ci_some {β : Type} {o : Option (Int32 × tx_St)} {k : Int32 → tx_St → Option β} {t : β} (h : tx_ci o k = some t) : ∃ r s, o = some (r, s) ∧ k r s = some t := by
  cases o with
  | none => cases h
  | some q => exact ⟨q.1, q.2, rfl, h⟩
theorem tx_cl_some {β : Type} {o : Option (Int64 × tx_St)} {k : Int64 → tx_St → Option β} {t : β} (h : tx_cl8 o k = some t) : ∃ r s, o = some (r, s) ∧ k r s = some t := by
  cases o with
  | none => cases h
  | some q => exact ⟨q.1, q.2, rfl, h⟩
theorem tx_cv_some {β : Type} {o : Option tx_St} {k : tx_St → Option β} {t : β} (h : tx_cv o k = some t) : ∃ s, o = some s ∧ k s = some t := by
  cases o with
  | none => cases h
  | some q => exact ⟨q, rfl, h⟩
/-- the six frames' places -/
def tx_isFr (q : Nat) : Prop := q = 27 ∨ q = 30 ∨ q = 33 ∨ q = 36 ∨ q = 39 ∨ q = 42
theorem tx_fr0 {q : Nat} (h : tx_isFr q) : tx_sh q = (tx_cFr + 3, 5, [none, none, some (q + 1), some (q + 2), none]) := by rcases h with rfl | rfl | rfl | rfl | rfl | rfl <;> rfl
theorem tx_fr1 {q : Nat} (h : tx_isFr q) : tx_sh (q + 1) = (0, 3, []) := by rcases h with rfl | rfl | rfl | rfl | rfl | rfl <;> rfl
theorem tx_fr2 {q : Nat} (h : tx_isFr q) : tx_sh (q + 2) = (0, 4, []) := by rcases h with rfl | rfl | rfl | rfl | rfl | rfl <;> rfl
def tx_frs : List (Option Nat) := [some 27, some 30, some 33, some 36, some 39, some 42]
theorem tx_frs_at {i : Nat} (h : i < 6) : tx_frs.getD i none = some (27 + 3 * i) ∧ tx_isFr (27 + 3 * i) := by
  rcases (by omega : i = 0 ∨ i = 1 ∨ i = 2 ∨ i = 3 ∨ i = 4 ∨ i = 5) with rfl | rfl | rfl | rfl | rfl | rfl <;> exact ⟨rfl, by simp [tx_isFr]⟩
theorem tx_rf_some {β : Type} {i : Int32} {k : Nat → Option β} {t : β} (h : tx_rf i k = some t) : ∃ q, tx_frs.getD i.toNatClampNeg none = some q ∧ vp_in i 6 ∧ tx_isFr q ∧ k q = some t := by
  unfold tx_rf at h
  split at h
  · cases h
  · rename_i hn
    have hl : i.toNatClampNeg < 6 := Nat.not_le.mp fun z => hn (Or.inr z)
    exact ⟨_, (tx_frs_at hl).1, hn, (tx_frs_at hl).2, h⟩
