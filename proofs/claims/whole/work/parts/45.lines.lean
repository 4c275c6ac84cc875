/-! rows on bits, shifts and unsigned numbers, to paste: each family out of a closed proof of our own, whole with what it rests on; each by itself clean at Lean in its own claim (generation 39, form 5). Take a family whole -/
/-! ===== Int32 by its bits: bt x i ===== -/
def bt (x : Int32) (i : Nat) : Bool := x.toBitVec.getLsbD i
theorem b_ext {x y : Int32} (h : ∀ i, i < 32 → bt x i = bt y i) : x = y := Int32.toBitVec_inj.mp (BitVec.eq_of_getLsbD_eq (fun i hi => h i hi))
theorem b_or (x y : Int32) (i : Nat) : bt (x ||| y) i = (bt x i || bt y i) := by unfold bt; rw [Int32.toBitVec_or, BitVec.getLsbD_or]
theorem b_and (x y : Int32) (i : Nat) : bt (x &&& y) i = (bt x i && bt y i) := by unfold bt; rw [Int32.toBitVec_and, BitVec.getLsbD_and]
theorem b_xor (x y : Int32) (i : Nat) : bt (x ^^^ y) i = (bt x i ^^ bt y i) := by unfold bt; rw [Int32.toBitVec_xor, BitVec.getLsbD_xor]
theorem b_big {x : Int32} {i : Nat} (h : 32 ≤ i) : bt x i = false := BitVec.getLsbD_of_ge _ _ h
theorem b_255 (i : Nat) : bt 255 i = decide (i < 8) := by
  rcases Nat.lt_or_ge i 32 with h | h
  · exact (by decide +kernel : ∀ i, i < 32 → bt 255 i = decide (i < 8)) i h
  · rw [b_big h, decide_eq_false (by omega)]
theorem b_65535 (i : Nat) : bt 65535 i = decide (i < 16) := by
  rcases Nat.lt_or_ge i 32 with h | h
  · exact (by decide +kernel : ∀ i, i < 32 → bt 65535 i = decide (i < 16)) i h
  · rw [b_big h, decide_eq_false (by omega)]
theorem b_m1 : ∀ i, i < 32 → bt (-1) i = true := by decide +kernel
theorem b_0 (i : Nat) : bt 0 i = false := BitVec.getLsbD_zero
theorem s_l : ∀ n, n < 32 → ((nI n &&& 31).toBitVec.smod 32).toNat = n := by decide +kernel
theorem s_u : ∀ n, n < 32 → (((nI n).toUInt32 &&& Int32.toUInt32 31).toBitVec % 32).toNat = n := by decide +kernel
theorem b_shl (n : Nat) (hn : n < 32) (x : Int32) {i : Nat} (hi : i < 32) : bt (x <<< (nI n &&& 31)) i = (decide (n ≤ i) && bt x (i - n)) := by
  unfold bt
  rw [Int32.toBitVec_shiftLeft]
  show (x.toBitVec <<< ((nI n &&& 31).toBitVec.smod 32).toNat).getLsbD i = _
  rw [s_l n hn, BitVec.getLsbD_shiftLeft]
  rcases Nat.lt_or_ge i n with h | h
  · simp [h, Nat.not_le.mpr h]
  · simp [hi, h, Nat.not_lt.mpr h]
theorem b_ushr (n : Nat) (hn : n < 32) (x : Int32) (i : Nat) : bt ((x.toUInt32 >>> ((nI n).toUInt32 &&& Int32.toUInt32 31)).toInt32) i = bt x (n + i) := by
  show (x.toUInt32 >>> ((nI n).toUInt32 &&& Int32.toUInt32 31)).toBitVec.getLsbD i = x.toUInt32.toBitVec.getLsbD (n + i)
  rw [UInt32.toBitVec_shiftRight]
  show (x.toUInt32.toBitVec >>> (((nI n).toUInt32 &&& Int32.toUInt32 31).toBitVec % 32).toNat).getLsbD i = _
  rw [s_u n hn, BitVec.getLsbD_ushiftRight]
theorem b_sshr (n : Nat) (hn : n < 32) (x : Int32) {i : Nat} (hi : i < 32) : bt (x >>> (nI n &&& 31)) i = if n + i < 32 then bt x (n + i) else bt x 31 := by
  unfold bt
  rw [Int32.toBitVec_shiftRight]
  show (x.toBitVec.sshiftRight ((nI n &&& 31).toBitVec.smod 32).toNat).getLsbD i = _
  rw [s_l n hn, BitVec.getLsbD_sshiftRight, BitVec.msb_eq_getLsbD_last]
  simp [hi]
theorem b_shl8 (x : Int32) {i : Nat} (hi : i < 32) : bt (x <<< ((8 : Int32) &&& 31)) i = (decide (8 ≤ i) && bt x (i - 8)) := b_shl 8 (by omega) x hi
theorem b_shl16 (x : Int32) {i : Nat} (hi : i < 32) : bt (x <<< ((16 : Int32) &&& 31)) i = (decide (16 ≤ i) && bt x (i - 16)) := b_shl 16 (by omega) x hi
theorem b_shl24 (x : Int32) {i : Nat} (hi : i < 32) : bt (x <<< ((24 : Int32) &&& 31)) i = (decide (24 ≤ i) && bt x (i - 24)) := b_shl 24 (by omega) x hi
theorem b_sshr8 (x : Int32) {i : Nat} (hi : i < 32) : bt (x >>> ((8 : Int32) &&& 31)) i = if 8 + i < 32 then bt x (8 + i) else bt x 31 := b_sshr 8 (by omega) x hi
/-! ===== nI under and, xor, >>>, one bit, 65535 ===== -/
/-! lines and marks -/
noncomputable def bP (p : Prop) : Int32 := @ite _ p (Classical.propDecidable p) 1 0
theorem bP_t {p : Prop} (h : p) : bP p = 1 := by
  unfold bP
  exact if_pos h
theorem bP_f {p : Prop} (h : ¬ p) : bP p = 0 := by
  unfold bP
  exact if_neg h
theorem bP_r {p : Prop} : bP p = 0 ∨ bP p = 1 := by
  rcases Classical.em p with h | h
  · exact Or.inr (bP_t h)
  · exact Or.inl (bP_f h)
theorem bP_0 {p : Prop} : bP p = 0 ↔ ¬ p := by
  rcases Classical.em p with h | h
  · rw [bP_t h]
    exact ⟨fun z => absurd z (by decide), fun z => absurd h z⟩
  · rw [bP_f h]
    exact ⟨fun _ => h, fun _ => rfl⟩
theorem bP_n {p : Prop} : ¬ bP p = 0 ↔ p := by
  rw [bP_0]
  exact Classical.not_not
theorem bP_c {p q : Prop} (h : p ↔ q) : bP p = bP q := by rw [propext h]
theorem bP_b {p : Prop} [Decidable p] : b01 p = bP p := by
  by_cases h : p
  · rw [b01_t h, bP_t h]
  · rw [b01_f h, bP_f h]
/-- two ways of a test of nought -/
theorem px_ite0 {α : Type} {v : Int32} {p : Prop} {a b : α} (h : v = 0 ↔ ¬ p) : (if v = 0 then a else b) = if bP p = 0 then a else b := by
  rcases Classical.em p with hp | hp
  · rw [bP_t hp, if_neg (fun z => (h.mp z) hp), if_neg (by decide)]
  · rw [bP_f hp, if_pos (h.mpr hp), if_pos rfl]
theorem px_bit0 (x : Int32) : x &&& 1 = 0 ↔ bt x 0 = false := by
  constructor
  · intro h
    have h1 : bt (x &&& 1) 0 = false := by rw [h, b_0]
    rw [b_and] at h1
    simpa [show bt 1 0 = true by decide] using h1
  · intro h
    apply b_ext
    intro i hi
    rw [b_and, b_0]
    by_cases h0 : i = 0
    · subst h0
      rw [h]
      rfl
    · have : ∀ i, i < 32 → ¬ i = 0 → bt 1 i = false := by decide +kernel
      rw [this i hi h0, Bool.and_false]
theorem px_lnbit (x : Int32) {d : Nat} (hd : d < 32) : (x >>> (nI d &&& 31)) &&& 1 = 0 ↔ ¬ bt x d = true := by
  rw [px_bit0, b_sshr d hd x (by omega)]
  simp [hd]
theorem px_shl1 : ∀ c, c < 8 → ∀ d, d < 32 → bt ((1 : Int32) <<< (nI c &&& 31)) d = decide (d = c) := by decide +kernel
/-- c is in the line of d or under it: the class's own bit -/
def ln (σ : tx_St) (c d : Nat) : Prop := bt (σ 2 c) d = true
theorem ln_rec {σ : tx_St} {c : Nat} (hc : c < 8) (h : iv_cl σ c) {d : Nat} (hd : d < 32) : ln σ c d ↔ d = c ∨ ∃ p, p < c ∧ σ 46 c = nI p ∧ ln σ p d := by
  unfold ln
  rcases h.2 with ⟨e1, e2, -⟩ | ⟨p, hp, e1, e2, -⟩
  · rw [e2, b_or, b_0, px_shl1 c hc d hd]
    constructor
    · intro z
      exact Or.inl (by simpa using z)
    · rintro (z | ⟨p, hp, z, -⟩)
      · simpa using z
      · rw [e1] at z
        exact absurd (z ▸ (by decide : (-1 : Int32) < 0)) (nI_pos (by omega))
  · rw [e2, b_or, px_shl1 c hc d hd, Bool.or_eq_true, decide_eq_true_eq]
    constructor
    · rintro (z | z)
      · exact Or.inr ⟨p, hp, e1, z⟩
      · exact Or.inl z
    · rintro (z | ⟨q, hq, z, w⟩)
      · exact Or.inr z
      · rw [e1] at z
        have : p = q := (nI_eq (by omega) (by omega)).mp z
        exact Or.inl (this ▸ w)
theorem fx_Plan_isUnder_e {σ : tx_St} {c d : Nat} (hc : c < 8) (hd : d < 32) : fx_Plan_isUnder σ (nI c) (nI d) = some (bP (ln σ c d), σ) := by
  unfold fx_Plan_isUnder fx_Plan_isUnder_b18
  rw [px_rd rfl hc (by decide), px_ite0 (px_lnbit (σ 2 c) hd)]
  unfold ln
  rcases bP_r (p := bt (σ 2 c) d = true) with h | h
  · rw [h, if_pos rfl, px_rz (Or.inl rfl)]
  · rw [h, if_neg (by decide), px_rz (Or.inr rfl)]
theorem fx_Mo_inLine_l {σ : tx_St} {nC : Nat} (hn : nC ≤ 8) (hC : ∀ c, c < nC → iv_cl σ c) {d : Nat} (hd : d < 32) : ∀ (c : Nat) (k F : Nat), c < nC → k + c < 8 → c + 1 < F → fx_Mo_inLine_b5 F σ (nI d) (nI c) (nI k) = some (bP (ln σ c d), σ) := by
  intro c
  induction c using Nat.strongRecOn with
  | ind c ih =>
    intro k F hc hk hF
    obtain ⟨F, rfl⟩ : ∃ G, F = G + 1 := ⟨F - 1, by omega⟩
    have hr := ln_rec (by omega) (hC c hc) hd
    rw [fx_Mo_inLine_b5, if_neg (by rw [nI_8]; exact nI_ge (by omega) (by omega)), if_neg (nI_pos (by omega))]
    by_cases h1 : nI c = nI d
    · have : d = c := ((nI_eq (by omega) (by omega)).mp h1).symm
      rw [if_pos h1, bP_t (hr.mpr (Or.inl this))]
    · have hne : ¬ d = c := fun z => h1 (by rw [z])
      rw [if_neg h1, px_rd rfl (by omega) (by decide), nI_1]
      rcases (hC c hc).2 with ⟨e1, -⟩ | ⟨p, hp, e1, -⟩
      · have hnot : ¬ ln σ c d := fun z => by
          rcases hr.mp z with w | ⟨p, hp, w, -⟩
          · exact hne w
          · rw [e1] at w
            exact absurd (w ▸ (by decide : (-1 : Int32) < 0)) (nI_pos (by omega))
        obtain ⟨F, rfl⟩ : ∃ G, F = G + 1 := ⟨F - 1, by omega⟩
        rw [e1, fx_Mo_inLine_b5, bP_f hnot]
        unfold fx_Mo_inLine_b36
        by_cases h8 : (8 : Int32) ≤ nI (k + 1)
        · rw [if_pos h8]
        · rw [if_neg h8, if_pos (by decide)]
      · have heq : ln σ c d ↔ ln σ p d := by
          rw [hr]
          constructor
          · rintro (w | ⟨q, hq, w, w2⟩)
            · exact absurd w hne
            · rw [e1] at w
              have : p = q := (nI_eq (by omega) (by omega)).mp w
              exact this ▸ w2
          · intro w
            exact Or.inr ⟨p, hp, e1, w⟩
        rw [e1, ih p hp (k + 1) F (by omega) (by omega) (by omega), bP_c heq]
theorem fx_Mo_inLine_e {σ : tx_St} {nC : Nat} (hn : nC ≤ 8) (hC : ∀ c, c < nC → iv_cl σ c) {c d : Nat} (hc : c < nC) (hd : d < 32) : fx_Mo_inLine σ (nI c) (nI d) = some (bP (ln σ c d), σ) := by
  unfold fx_Mo_inLine
  rw [show (0 : Int32) = nI 0 by decide]
  exact fx_Mo_inLine_l hn hC hd c 0 tx_fu hc (by omega) (by unfold tx_fu; omega)
theorem ln_lt {σ : tx_St} {nC : Nat} (hn : nC ≤ 8) (hC : ∀ c, c < nC → iv_cl σ c) {d : Nat} (hd : d < 32) : ∀ c, c < nC → ln σ c d → d ≤ c := by
  intro c
  induction c using Nat.strongRecOn with
  | ind c ih =>
    intro hc h
    rcases (ln_rec (by omega) (hC c hc) hd).mp h with w | ⟨p, hp, -, w⟩
    · omega
    · have := ih p hp (by omega) w
      omega
theorem ln_rf {σ : tx_St} {nC : Nat} (hn : nC ≤ 8) (hC : ∀ c, c < nC → iv_cl σ c) {c : Nat} (hc : c < nC) : ln σ c c := (ln_rec (by omega) (hC c hc) (by omega)).mpr (Or.inl rfl)
theorem ln_tr {σ : tx_St} {nC : Nat} (hn : nC ≤ 8) (hC : ∀ c, c < nC → iv_cl σ c) {d e : Nat} (hd : d < nC) (he : e < 32) (hde : ln σ d e) : ∀ c, c < nC → ln σ c d → ln σ c e := by
  intro c
  induction c using Nat.strongRecOn with
  | ind c ih =>
    intro hc h
    rcases (ln_rec (by omega) (hC c hc) (by omega)).mp h with w | ⟨p, hp, e1, w⟩
    · exact w ▸ hde
    · exact (ln_rec (by omega) (hC c hc) he).mpr (Or.inr ⟨p, hp, e1, ih p hp (by omega) w⟩)
