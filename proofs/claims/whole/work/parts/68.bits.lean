/-! Integer.bitCount counts bits -/
def val (B : Nat) : (Nat → Nat) → Nat → Nat
  | _, 0 => 0
  | d, k + 1 => d 0 + B * val B (fun j => d (j + 1)) k
def mk_ (B : Nat) : Nat → Nat
  | 0 => 0
  | k + 1 => (B - 1) + B * B * mk_ B k
theorem val_add (B : Nat) : ∀ (k : Nat) (f g : Nat → Nat), val B (fun j => f j + g j) k = val B f k + val B g k
  | 0, f, g => rfl
  | k + 1, f, g => by
    have := val_add B k (fun j => f (j + 1)) (fun j => g (j + 1))
    simp only [val, this, Nat.mul_add]
    omega
theorem val_pair : ∀ (k : Nat) (B : Nat) (d : Nat → Nat), val B d (2 * k) = val (B * B) (fun j => d (2 * j)) k + B * val (B * B) (fun j => d (2 * j + 1)) k
  | 0, B, d => by simp [val]
  | k + 1, B, d => by
    have h := val_pair k B (fun j => d (j + 1 + 1))
    rw [show 2 * (k + 1) = 2 * k + 1 + 1 by omega]
    simp only [val]
    rw [h]
    have e1 : (fun j => d (2 * (j + 1))) = fun j => d (2 * j + 1 + 1) := by
      funext j
      congr 1
    have e2 : (fun j => d (2 * (j + 1) + 1)) = fun j => d (2 * j + 1 + 1 + 1) := by
      funext j
      congr 1
    rw [e1, e2]
    generalize val (B * B) (fun j => d (2 * j + 1 + 1)) k = u
    generalize val (B * B) (fun j => d (2 * j + 1 + 1 + 1)) k = w
    simp only [Nat.mul_add, Nat.mul_assoc, Nat.mul_zero, Nat.zero_add]
    have : B * (B * (B * w)) = B * (B * (B * w)) := rfl
    omega
theorem and_split {e r q s t : Nat} (hr : r < 2 ^ e) (hs : s < 2 ^ e) : (r + 2 ^ e * q) &&& (s + 2 ^ e * t) = (r &&& s) + 2 ^ e * (q &&& t) := by
  have hp : 0 < 2 ^ e := Nat.two_pow_pos e
  have h1 : ((r + 2 ^ e * q) &&& (s + 2 ^ e * t)) / 2 ^ e = q &&& t := by
    rw [Nat.and_div_two_pow, Nat.add_mul_div_left _ _ hp, Nat.add_mul_div_left _ _ hp, Nat.div_eq_of_lt hr, Nat.div_eq_of_lt hs, Nat.zero_add, Nat.zero_add]
  have h2 : ((r + 2 ^ e * q) &&& (s + 2 ^ e * t)) % 2 ^ e = r &&& s := by
    rw [Nat.and_mod_two_pow, Nat.add_mul_mod_self_left, Nat.add_mul_mod_self_left, Nat.mod_eq_of_lt hr, Nat.mod_eq_of_lt hs]
  have h3 := Nat.mod_add_div ((r + 2 ^ e * q) &&& (s + 2 ^ e * t)) (2 ^ e)
  rw [h1, h2] at h3
  exact h3.symm
theorem pw_ee (e : Nat) : 2 ^ e * 2 ^ e = 2 ^ (2 * e) := by rw [← Nat.pow_add, show e + e = 2 * e by omega]
/-- the even digits, the odd digits -/
theorem val_even (e : Nat) : ∀ (k : Nat) (d : Nat → Nat), (∀ j, d j < 2 ^ e) → val (2 ^ e) d (2 * k) &&& mk_ (2 ^ e) k = val (2 ^ e * 2 ^ e) (fun j => d (2 * j)) k
  | 0, d, _ => by simp [val, mk_]
  | k + 1, d, hd => by
    have ih := val_even e k (fun j => d (j + 1 + 1)) (fun j => hd _)
    have hp : 0 < 2 ^ e := Nat.two_pow_pos e
    rw [show 2 * (k + 1) = 2 * k + 1 + 1 by omega]
    simp only [val, mk_]
    generalize hv : val (2 ^ e) (fun j => d (j + 1 + 1)) (2 * k) = n at *
    have h0 := hd 0
    have h1 := hd (0 + 1)
    have e1 : d 0 + 2 ^ e * (d (0 + 1) + 2 ^ e * n) = (d 0 + 2 ^ e * d (0 + 1)) + 2 ^ (2 * e) * n := by
      rw [← pw_ee, Nat.mul_add, Nat.mul_assoc, Nat.add_assoc]
    have hr : d 0 + 2 ^ e * d (0 + 1) < 2 ^ (2 * e) := by
      rw [← pw_ee]
      have : 2 ^ e * d (0 + 1) ≤ 2 ^ e * (2 ^ e - 1) := Nat.mul_le_mul_left _ (by omega)
      have h3 : 2 ^ e * (2 ^ e - 1) = 2 ^ e * 2 ^ e - 2 ^ e := by rw [Nat.mul_sub, Nat.mul_one]
      have h4 : 2 ^ e ≤ 2 ^ e * 2 ^ e := Nat.le_mul_of_pos_left _ hp
      omega
    have hs : 2 ^ e - 1 < 2 ^ (2 * e) := by
      rw [← pw_ee]
      have h4 : 2 ^ e ≤ 2 ^ e * 2 ^ e := Nat.le_mul_of_pos_left _ hp
      omega
    have e2 : (d 0 + 2 ^ e * d (0 + 1)) &&& (2 ^ e - 1) = d 0 := by
      rw [Nat.and_two_pow_sub_one_eq_mod, Nat.add_mul_mod_self_left, Nat.mod_eq_of_lt h0]
    rw [e1, pw_ee, and_split hr hs, e2, ih, ← pw_ee]
    rfl
theorem val_odd (e : Nat) : ∀ (k : Nat) (d : Nat → Nat), (∀ j, d j < 2 ^ e) → (val (2 ^ e) d (2 * k) / 2 ^ e) &&& mk_ (2 ^ e) k = val (2 ^ e * 2 ^ e) (fun j => d (2 * j + 1)) k
  | 0, d, _ => by simp [val, mk_]
  | k + 1, d, hd => by
    have ih := val_odd e k (fun j => d (j + 1 + 1)) (fun j => hd _)
    have hp : 0 < 2 ^ e := Nat.two_pow_pos e
    rw [show 2 * (k + 1) = 2 * k + 1 + 1 by omega]
    simp only [val, mk_]
    generalize hv : val (2 ^ e) (fun j => d (j + 1 + 1)) (2 * k) = n at *
    have h0 := hd 0
    have h1 := hd (0 + 1)
    have e1 : (d 0 + 2 ^ e * (d (0 + 1) + 2 ^ e * n)) / 2 ^ e = (d (0 + 1) + 2 ^ e * (n % 2 ^ e)) + 2 ^ (2 * e) * (n / 2 ^ e) := by
      rw [Nat.add_mul_div_left _ _ hp, Nat.div_eq_of_lt h0, Nat.zero_add, ← pw_ee, Nat.add_assoc, Nat.mul_assoc, ← Nat.mul_add, Nat.mod_add_div]
    have hm : n % 2 ^ e < 2 ^ e := Nat.mod_lt _ hp
    have hr : d (0 + 1) + 2 ^ e * (n % 2 ^ e) < 2 ^ (2 * e) := by
      rw [← pw_ee]
      have : 2 ^ e * (n % 2 ^ e) ≤ 2 ^ e * (2 ^ e - 1) := Nat.mul_le_mul_left _ (by omega)
      have h3 : 2 ^ e * (2 ^ e - 1) = 2 ^ e * 2 ^ e - 2 ^ e := by rw [Nat.mul_sub, Nat.mul_one]
      have h4 : 2 ^ e ≤ 2 ^ e * 2 ^ e := Nat.le_mul_of_pos_left _ hp
      omega
    have hs : 2 ^ e - 1 < 2 ^ (2 * e) := by
      rw [← pw_ee]
      have h4 : 2 ^ e ≤ 2 ^ e * 2 ^ e := Nat.le_mul_of_pos_left _ hp
      omega
    have e2 : (d (0 + 1) + 2 ^ e * (n % 2 ^ e)) &&& (2 ^ e - 1) = d (0 + 1) := by
      rw [Nat.and_two_pow_sub_one_eq_mod, Nat.add_mul_mod_self_left, Nat.mod_eq_of_lt h1]
    rw [e1, pw_ee, and_split hr hs, e2, ih, ← pw_ee]
    rfl
theorem px_andN {a b : Nat} (ha : a < 2 ^ 32) (hb : b < 2 ^ 32) : nI a &&& nI b = nI (a &&& b) := by
  apply b_ext
  intro i hi
  rw [b_and, bt_nI ha hi, bt_nI hb hi, bt_nI (Nat.and_lt_two_pow _ hb) hi, Nat.testBit_and]
theorem px_ushrN {n : Nat} (s : Nat) (hs : s < 32) (hn : n < 2 ^ 32) : (((nI n).toUInt32 >>> ((nI s).toUInt32 &&& Int32.toUInt32 31)).toInt32) = nI (n / 2 ^ s) := by
  apply b_ext
  intro i hi
  rw [b_ushr s hs, bt_nI (Nat.lt_of_le_of_lt (Nat.div_le_self _ _) hn) hi, Nat.testBit_div_two_pow]
  by_cases h : s + i < 32
  · rw [bt_nI hn h, Nat.add_comm]
  · rw [b_big (by omega), Nat.add_comm i s]
    exact (Nat.testBit_lt_two_pow (Nat.lt_of_lt_of_le hn (Nat.pow_le_pow_right (by decide) (by omega)))).symm
theorem px_ofI (x : Int32) : ∃ n, n < 2 ^ 32 ∧ x = nI n := ⟨x.toBitVec.toNat, x.toBitVec.isLt, by
  apply Int32.toBitVec_inj.mp
  show x.toBitVec = BitVec.ofNat 32 x.toBitVec.toNat
  rw [BitVec.ofNat_toNat, BitVec.setWidth_eq]⟩
/-- the number of bits -/
def pcn (d : Nat → Nat) : Nat → Nat
  | 0 => 0
  | k + 1 => pcn d k + d k
theorem val_bits : ∀ (k n : Nat), n < 2 ^ k → val 2 (fun j => n / 2 ^ j % 2) k = n
  | 0, n, h => by
    simp only [val]
    have : 2 ^ 0 = 1 := rfl
    omega
  | k + 1, n, h => by
    have ih := val_bits k (n / 2) (by rw [Nat.pow_succ] at h; omega)
    simp only [val]
    have e : (fun j => n / 2 ^ (j + 1) % 2) = fun j => n / 2 / 2 ^ j % 2 := by
      funext j
      rw [Nat.div_div_eq_div_mul, Nat.pow_succ, Nat.mul_comm 2]
    rw [e, ih]
    have : n / 2 ^ 0 = n := by simp
    omega
theorem bits_l (ρ : tx_St) {n : Nat} (hn : n < 2 ^ 32) : ∀ (r k F : Nat), k + r = 32 → r < F → fx_Mo_bits_b4 F ρ (nI n) (nI (pcn (fun j => n / 2 ^ j % 2) k)) (nI k) = some (nI (pcn (fun j => n / 2 ^ j % 2) 32), ρ) := by
  intro r
  induction r with
  | zero =>
    intro k F h1 h2
    obtain ⟨F, rfl⟩ : ∃ G, F = G + 1 := ⟨F - 1, by omega⟩
    obtain rfl : k = 32 := by omega
    rw [fx_Mo_bits_b4, if_pos (by decide)]
  | succ r ih =>
    intro k F h1 h2
    obtain ⟨F, rfl⟩ : ∃ G, F = G + 1 := ⟨F - 1, by omega⟩
    have e : (nI n >>> (nI k &&& 31)) &&& 1 = nI (n / 2 ^ k % 2) := by
      apply b_ext
      intro i hi
      have hm : n / 2 ^ k % 2 < 2 := Nat.mod_lt _ (by decide)
      rw [b_and, b_sshr k (by omega) _ hi, bt_nI (by omega) hi, show (1 : Int32) = nI 1 by decide, bt_nI (by decide) hi]
      by_cases h0 : i = 0
      · subst h0
        rw [if_pos (by omega), bt_nI hn (by omega), Nat.add_zero, Nat.testBit_eq_decide_div_mod_eq]
        rcases (by omega : n / 2 ^ k % 2 = 0 ∨ n / 2 ^ k % 2 = 1) with h | h <;> rw [h] <;> decide
      · rw [Nat.testBit_lt_two_pow (x := 1) (i := i) (Nat.lt_of_lt_of_le (by decide : 1 < 2 ^ 1) (Nat.pow_le_pow_right (by decide) (by omega))), Bool.and_false]
        have h2i : 2 ^ 1 ≤ 2 ^ i := Nat.pow_le_pow_right (by decide) (by omega)
        exact (Nat.testBit_lt_two_pow (Nat.lt_of_lt_of_le hm h2i)).symm
    rw [fx_Mo_bits_b4, if_neg (show ¬ (32 : Int32) ≤ nI k from nI_ge (b := 32) (by omega) (by decide)), e, nI_add, nI_1]
    exact ih (k + 1) F (by omega) (by omega)
theorem fx_Mo_bits_e (ρ : tx_St) {n : Nat} (hn : n < 2 ^ 32) : fx_Mo_bits ρ (nI n) = some (nI (pcn (fun j => n / 2 ^ j % 2) 32), ρ) := bits_l ρ hn 32 0 tx_fu (by omega) (by decide)
theorem st_1 {n : Nat} (hn : n < 2 ^ 32) : n - (n / 2 &&& 1431655765) = val 4 (fun j => n / 2 ^ (2 * j) % 2 + n / 2 ^ (2 * j + 1) % 2) 16 := by
  have hb : ∀ j, (fun j => n / 2 ^ j % 2) j < 2 ^ 1 := fun j => Nat.mod_lt _ (by decide)
  have hv : val 2 (fun j => n / 2 ^ j % 2) 32 = n := val_bits 32 n hn
  have h := val_odd 1 16 (fun j => n / 2 ^ j % 2) hb
  rw [show mk_ (2 ^ 1) 16 = 1431655765 by decide, show 2 ^ 1 * 2 ^ 1 = 4 by decide, show (2 : Nat) ^ 1 = 2 by decide, show 2 * 16 = 32 by decide, hv] at h
  have h2 := val_pair 16 2 (fun j => n / 2 ^ j % 2)
  rw [show 2 * 16 = 32 by decide, hv, show 2 * 2 = 4 by decide] at h2
  rw [h, val_add]
  omega
theorem st_2 {c : Nat → Nat} (hc : ∀ j, c j < 4) : (val 4 c 16 &&& 858993459) + (val 4 c 16 / 4 &&& 858993459) = val 16 (fun j => c (2 * j) + c (2 * j + 1)) 8 := by
  have h1 := val_even 2 8 c hc
  have h2 := val_odd 2 8 c hc
  rw [show mk_ (2 ^ 2) 8 = 858993459 by decide, show 2 ^ 2 * 2 ^ 2 = 16 by decide, show (2 : Nat) ^ 2 = 4 by decide] at h1 h2
  rw [h1, h2, val_add]
theorem st_3 {d : Nat → Nat} (hd : ∀ j, d j ≤ 4) : (val 16 d 8 + val 16 d 8 / 16) &&& 252645135 = (d 0 + d 1) + 256 * ((d 2 + d 3) + 256 * ((d 4 + d 5) + 256 * (d 6 + d 7))) := by
  have e : val 16 d 8 + val 16 d 8 / 16 = val (2 ^ 4) (fun j => if j < 7 then d j + d (j + 1) else if j = 7 then d 7 else 0) (2 * 4) := by
    have h0 := hd 0
    have h1 := hd 1
    have h2 := hd 2
    have h3 := hd 3
    have h4 := hd 4
    have h5 := hd 5
    have h6 := hd 6
    have h7 := hd 7
    rw [show 2 * 4 = 8 by decide, show (2 : Nat) ^ 4 = 16 by decide]
    simp [val]
    omega
  rw [e, show 252645135 = mk_ (2 ^ 4) 4 by decide, val_even 4 4 _ (fun j => by
    have h1 := hd j
    have h2 := hd (j + 1)
    have h3 := hd 7
    split
    · omega
    · split <;> omega), show 2 ^ 4 * 2 ^ 4 = 256 by decide]
  simp [val]
theorem st_6 {p0 p1 p2 p3 : Nat} (h0 : p0 ≤ 8) (h1 : p1 ≤ 8) (h2 : p2 ≤ 8) (h3 : p3 ≤ 8) {i3 i4 : Nat} (e3 : i3 = p0 + 256 * (p1 + 256 * (p2 + 256 * p3))) (e4 : i4 = i3 + i3 / 256) : (i4 + i4 / 65536) % 64 = p0 + p1 + p2 + p3 := by
  have q1 : i3 / 256 = p1 + 256 * (p2 + 256 * p3) := by omega
  have q2 : i4 = (p0 + p1) + 256 * ((p1 + p2) + 256 * ((p2 + p3) + 256 * p3)) := by omega
  have q3 : i4 / 65536 = (p2 + p3) + 256 * p3 := by
    clear e4 q1 e3
    omega
  rw [q3, q2]
  clear q3 q2 e4 q1 e3
  omega
theorem fx_Int_bitCount_e (σ : tx_St) {n : Nat} (hn : n < 2 ^ 32) : fx_Int_bitCount σ (nI n) = some (nI (pcn (fun j => n / 2 ^ j % 2) 32), σ) := by
  have a1 : (n / 2 &&& 1431655765) ≤ n := Nat.le_trans Nat.and_le_left (Nat.div_le_self _ _)
  have u1 : (((nI n).toUInt32 >>> ((1 : Int32).toUInt32 &&& Int32.toUInt32 31)).toInt32) = nI (n / 2) := px_ushrN 1 (by decide) hn
  have e1 : nI n - ((((nI n).toUInt32 >>> ((1 : Int32).toUInt32 &&& Int32.toUInt32 31)).toInt32) &&& (1431655765 : Int32)) = nI (n - (n / 2 &&& 1431655765)) := by
    rw [u1, show (1431655765 : Int32) = nI 1431655765 by decide, px_andN (by omega) (by decide), pk_sub a1]
  generalize h1 : n - (n / 2 &&& 1431655765) = i1 at e1
  have b1 : i1 < 2 ^ 32 := by omega
  have u2 : (((nI i1).toUInt32 >>> ((2 : Int32).toUInt32 &&& Int32.toUInt32 31)).toInt32) = nI (i1 / 4) := px_ushrN 2 (by decide) b1
  have e2 : (nI i1 &&& (858993459 : Int32)) + ((((nI i1).toUInt32 >>> ((2 : Int32).toUInt32 &&& Int32.toUInt32 31)).toInt32) &&& (858993459 : Int32)) = nI ((i1 &&& 858993459) + (i1 / 4 &&& 858993459)) := by
    rw [u2, show (858993459 : Int32) = nI 858993459 by decide, px_andN b1 (by decide), px_andN (by omega) (by decide), nI_add]
  have c2 : (i1 &&& 858993459) ≤ 858993459 := Nat.and_le_right
  have c3 : (i1 / 4 &&& 858993459) ≤ 858993459 := Nat.and_le_right
  generalize h2 : (i1 &&& 858993459) + (i1 / 4 &&& 858993459) = i2 at e2
  have b2 : i2 ≤ 1717986918 := by omega
  have u3 : (((nI i2).toUInt32 >>> ((4 : Int32).toUInt32 &&& Int32.toUInt32 31)).toInt32) = nI (i2 / 16) := px_ushrN 4 (by decide) (by omega)
  have e3 : (nI i2 + (((nI i2).toUInt32 >>> ((4 : Int32).toUInt32 &&& Int32.toUInt32 31)).toInt32)) &&& (252645135 : Int32) = nI ((i2 + i2 / 16) &&& 252645135) := by
    rw [u3, nI_add, show (252645135 : Int32) = nI 252645135 by decide, px_andN (by omega) (by decide)]
  have c4 : ((i2 + i2 / 16) &&& 252645135) ≤ 252645135 := Nat.and_le_right
  generalize h3 : ((i2 + i2 / 16) &&& 252645135) = i3 at e3
  have u4 : (((nI i3).toUInt32 >>> ((8 : Int32).toUInt32 &&& Int32.toUInt32 31)).toInt32) = nI (i3 / 256) := px_ushrN 8 (by decide) (by omega)
  have e4 : nI i3 + (((nI i3).toUInt32 >>> ((8 : Int32).toUInt32 &&& Int32.toUInt32 31)).toInt32) = nI (i3 + i3 / 256) := by
    rw [u4, nI_add]
  generalize h4 : i3 + i3 / 256 = i4 at e4
  have u5 : (((nI i4).toUInt32 >>> ((16 : Int32).toUInt32 &&& Int32.toUInt32 31)).toInt32) = nI (i4 / 65536) := px_ushrN 16 (by decide) (by omega)
  have e5 : nI i4 + (((nI i4).toUInt32 >>> ((16 : Int32).toUInt32 &&& Int32.toUInt32 31)).toInt32) = nI (i4 + i4 / 65536) := by
    rw [u5, nI_add]
  unfold fx_Int_bitCount
  rw [e1, e2, e3, e4, e5, show (63 : Int32) = nI 63 by decide, px_andN (by omega) (by decide), show 63 = 2 ^ 6 - 1 by decide, Nat.and_two_pow_sub_one_eq_mod, show 2 ^ 6 = 64 by decide]
  congr 3
  have hbm : ∀ j, n / 2 ^ j % 2 < 2 := fun j => Nat.mod_lt _ (by decide)
  generalize hbd : (fun j => n / 2 ^ j % 2) = b
  have hb : ∀ j, b j < 2 := fun j => by rw [← hbd]; exact hbm j
  have s1 : i1 = val 4 (fun j => b (2 * j) + b (2 * j + 1)) 16 := by rw [← h1, st_1 hn, ← hbd]
  have s2 := st_2 (c := fun j => b (2 * j) + b (2 * j + 1)) (fun j => by
    have := hb (2 * j)
    have := hb (2 * j + 1)
    omega)
  rw [← s1, h2] at s2
  have s3 := st_3 (d := fun j => b (2 * (2 * j)) + b (2 * (2 * j) + 1) + (b (2 * (2 * j + 1)) + b (2 * (2 * j + 1) + 1))) (fun j => by
    have := hb (2 * (2 * j))
    have := hb (2 * (2 * j) + 1)
    have := hb (2 * (2 * j + 1))
    have := hb (2 * (2 * j + 1) + 1)
    omega)
  rw [← s2, h3] at s3
  have hall : ∀ j, b j ≤ 1 := fun j => by have := hb j; omega
  have s6 := st_6 (by have := hall 0; have := hall 1; have := hall 2; have := hall 3; have := hall 4; have := hall 5; have := hall 6; have := hall 7; simp only [Nat.reduceMul, Nat.reduceAdd]; omega) (by have := hall 8; have := hall 9; have := hall 10; have := hall 11; have := hall 12; have := hall 13; have := hall 14; have := hall 15; simp only [Nat.reduceMul, Nat.reduceAdd]; omega) (by have := hall 16; have := hall 17; have := hall 18; have := hall 19; have := hall 20; have := hall 21; have := hall 22; have := hall 23; simp only [Nat.reduceMul, Nat.reduceAdd]; omega) (by have := hall 24; have := hall 25; have := hall 26; have := hall 27; have := hall 28; have := hall 29; have := hall 30; have := hall 31; simp only [Nat.reduceMul, Nat.reduceAdd]; omega) s3 h4.symm
  rw [s6]
  simp only [pcn, Nat.reduceMul, Nat.reduceAdd]
  omega
