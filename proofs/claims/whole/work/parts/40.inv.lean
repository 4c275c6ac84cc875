/-! The pure part. What stays true between calls: the class's numbers and the reference's say the same. -/
theorem px_up (σ : tx_St) (k j : Nat) (x : Int32) (c i : Nat) : tx_up σ k j x c i = if c = k then (if i = j then x else σ k i) else σ c i := by
  unfold tx_up upd
  split <;> rfl
theorem px_upk (σ : tx_St) (k j : Nat) (x : Int32) : tx_up σ k j x k = upd (σ k) j x := tx_up_at σ k j x
theorem px_upd (f : Nat → Int32) (k : Nat) (x : Int32) (j : Nat) : upd f k x j = if j = k then x else f j := rfl
theorem px_rd {β : Type} {σ : tx_St} {c n : Nat} {i : Int32} {k : Int32 → Option β} {j : Nat} (hi : i = nI j) (hj : j < n) (hn : n < 2 ^ 31) : tx_rd σ c n i k = k (σ c j) := by
  subst hi
  unfold tx_rd
  rw [nI_clamp (by omega), if_neg]
  rintro (h | h)
  · exact nI_pos (by omega) h
  · omega
theorem px_wr {β : Type} {σ : tx_St} {c n : Nat} {i x : Int32} {k : tx_St → Option β} {j : Nat} (hi : i = nI j) (hj : j < n) (hn : n < 2 ^ 31) : tx_wr σ c n i x k = k (tx_up σ c j x) := by
  subst hi
  unfold tx_wr
  rw [nI_clamp (by omega), if_neg]
  rintro (h | h)
  · exact nI_pos (by omega) h
  · omega
theorem px_wz {β : Type} {σ : tx_St} {c n : Nat} {i x : Int32} {k : tx_St → Option β} {j : Nat} (hi : i = nI j) (hj : j < n) (hn : n < 2 ^ 31) (hx : x = 0 ∨ x = 1) : tx_wz σ c n i x k = k (tx_up σ c j x) := by
  subst hi
  unfold tx_wz
  rw [nI_clamp (by omega), if_neg, if_pos hx]
  rintro (h | h)
  · exact nI_pos (by omega) h
  · omega
theorem px_pt {β : Type} {σ : tx_St} {c j : Nat} {x : Int32} {k : tx_St → Option β} : tx_pt σ c j x k = k (tx_up σ c j x) := rfl
theorem px_pz {β : Type} {σ : tx_St} {c j : Nat} {x : Int32} {k : tx_St → Option β} (hx : x = 0 ∨ x = 1) : tx_pz σ c j x k = k (tx_up σ c j x) := if_pos hx
theorem px_ci {β : Type} {r : Int32} {s : tx_St} {k : Int32 → tx_St → Option β} : tx_ci (some (r, s)) k = k r s := rfl
theorem px_cl {β : Type} {r : Int64} {s : tx_St} {k : Int64 → tx_St → Option β} : tx_cl8 (some (r, s)) k = k r s := rfl
theorem px_cv {β : Type} {s : tx_St} {k : tx_St → Option β} : tx_cv (some s) k = k s := rfl
theorem px_rz {v : Int32} {σ : tx_St} (hv : v = 0 ∨ v = 1) : tx_rz v σ = some (v, σ) := if_pos hv
/-- a truth as a number -/
def b01 (p : Prop) [Decidable p] : Int32 := if p then 1 else 0
theorem b01_t {p : Prop} [Decidable p] (h : p) : b01 p = 1 := if_pos h
theorem b01_f {p : Prop} [Decidable p] (h : ¬ p) : b01 p = 0 := if_neg h
theorem b01_0 {p : Prop} [Decidable p] : b01 p = 0 ↔ ¬ p := by
  unfold b01
  split
  · exact ⟨fun h => absurd h (by decide), fun h => absurd ‹p› h⟩
  · exact ⟨fun _ => ‹¬ p›, fun _ => rfl⟩
theorem b01_r {p : Prop} [Decidable p] : b01 p = 0 ∨ b01 p = 1 := by
  unfold b01
  split
  · exact Or.inr rfl
  · exact Or.inl rfl
/-- in a range, as Java asks it -/
theorem px_in {x : Int32} {n : Nat} (hn : n < 2 ^ 31) : (¬ x < 0 ∧ ¬ nI n ≤ x) ↔ ∃ j : Nat, j < n ∧ x = nI j := by
  constructor
  · rintro ⟨h1, h2⟩
    rcases pk_ix x hn with h | h | h
    · exact absurd h h1
    · exact absurd h h2
    · exact h
  · rintro ⟨j, hj, rfl⟩
    exact ⟨nI_pos (by omega), nI_ge hj hn⟩
/-! ## the invariant -/
/-- the same scalars and the same rows -/
def iv_sy (σ : tx_St) : Prop := (σ 45 0 = σ 1 0 ∧ σ 45 3 = σ 1 1 ∧ σ 45 7 = σ 1 2 ∧ σ 45 16 = σ 0 5 ∧ σ 45 25 = σ 0 6 ∧ σ 45 26 = σ 0 7 ∧ σ 45 23 = σ 21 4) ∧
  (σ 48 = σ 4 ∧ σ 49 = σ 5 ∧ σ 50 = σ 6 ∧ σ 51 = σ 7 ∧ σ 52 = σ 8 ∧ σ 53 = σ 9 ∧ σ 54 = σ 10 ∧ σ 55 = σ 11 ∧ σ 56 = σ 12 ∧ σ 57 = σ 13 ∧ σ 58 = σ 14)
/-- a class: its parent has a smaller number; its line and its line's marks -/
def iv_cl (σ : tx_St) (c : Nat) : Prop := (∃ k, k ≤ 3 ∧ σ 47 c = nI k) ∧ ((σ 46 c = -1 ∧ σ 2 c = (0 : Int32) ||| ((1 : Int32) <<< (nI c &&& 31)) ∧ σ 3 c = (0 : Int32) ||| σ 47 c) ∨ ∃ p, p < c ∧ σ 46 c = nI p ∧ σ 2 c = σ 2 p ||| ((1 : Int32) <<< (nI c &&& 31)) ∧ σ 3 c = σ 3 p ||| σ 47 c)
def iv_fl (σ : tx_St) (nC f : Nat) : Prop := (∃ c, c < nC ∧ σ 4 f = nI c) ∧ (∃ h, h ≤ 3 ∧ σ 5 f = nI h) ∧ ∃ t, t < nC + 2 ∧ σ 6 f = nI t
def iv_me (σ : tx_St) (nC m : Nat) : Prop := (∃ c, c < nC ∧ σ 7 m = nI c) ∧ (∃ h, h ≤ 1 ∧ σ 8 m = nI h) ∧ (∃ n, n < 8 ∧ σ 9 m = nI n) ∧ (σ 10 m = -1 ∨ ∃ t, t < nC + 2 ∧ σ 10 m = nI t) ∧ (∃ t, t < nC + 2 ∧ σ 11 m = nI t) ∧
  ∃ L, L ≤ 12 ∧ σ 12 m = nI L ∧ ∀ i, i < L → ∃ o, o ≤ 19 ∧ σ 13 (12 * m + i) = nI o
/-- what was added, with the counts -/
def iv_pl (σ : tx_St) (nC nF nM : Nat) : Prop := (nC ≤ 8 ∧ nF ≤ 12 ∧ nM ≤ 8) ∧ (σ 1 0 = nI nC ∧ σ 1 1 = nI nF ∧ σ 1 2 = nI nM) ∧ (∀ c, c < nC → iv_cl σ c) ∧ (∀ f, f < nF → iv_fl σ nC f) ∧ ∀ m, m < nM → iv_me σ nC m
/-- the plan's relation of both sides -/
def iv_P (σ : tx_St) : Prop := iv_sy σ ∧ ∃ nC nF nM, iv_pl σ nC nF nM
/-- two states with the same plan rows -/
def iv_eq (σ τ : tx_St) : Prop := (∀ k, 1 ≤ k → k ≤ 14 → τ k = σ k) ∧ (∀ k, 46 ≤ k → k ≤ 58 → τ k = σ k)
theorem fx_Plan_isClass_e (σ : tx_St) (x : Int32) : fx_Plan_isClass σ x = some (b01 (¬ x < 0 ∧ ¬ σ 1 0 ≤ x), σ) := by
  unfold fx_Plan_isClass fx_Plan_isClass_b16 fx_Plan_isClass_b17
  by_cases h1 : x < 0
  · rw [if_pos h1, px_rz (Or.inl rfl), b01_f (fun h => h.1 h1)]
  · rw [if_neg h1]
    by_cases h2 : σ 1 0 ≤ x
    · rw [if_pos h2, px_rz (Or.inl rfl), b01_f (fun h => h.2 h2)]
    · rw [if_neg h2, px_rz (Or.inr rfl), b01_t ⟨h1, h2⟩]
theorem fx_Mo_isClass_e (σ : tx_St) (x : Int32) : fx_Mo_isClass σ x = some (b01 (¬ x < 0 ∧ ¬ σ 45 0 ≤ x), σ) := by
  unfold fx_Mo_isClass fx_Mo_isClass_b16 fx_Mo_isClass_b17
  by_cases h1 : x < 0
  · rw [if_pos h1, px_rz (Or.inl rfl), b01_f (fun h => h.1 h1)]
  · rw [if_neg h1]
    by_cases h2 : σ 45 0 ≤ x
    · rw [if_pos h2, px_rz (Or.inl rfl), b01_f (fun h => h.2 h2)]
    · rw [if_neg h2, px_rz (Or.inr rfl), b01_t ⟨h1, h2⟩]
