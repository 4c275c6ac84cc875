/-! Types before an instruction: a stack of types (the top first) and three locals (0: none, else the type and 1), packed in nibbles. -/
abbrev TS : Type := List Nat × Nat × Nat × Nat
def pkS : List Nat → Nat
  | [] => 0
  | t :: st => pkS st + (t + 1) * 16 ^ st.length
def pk_ (s : TS) : Nat := pkS s.1 + s.2.1 * 16 ^ 4 + s.2.2.1 * 16 ^ 5 + s.2.2.2 * 16 ^ 6
/-- types below n -/
def okS (n : Nat) (s : TS) : Prop := s.1.length ≤ 4 ∧ (∀ t ∈ s.1, t < n) ∧ s.2.1 ≤ n ∧ s.2.2.1 ≤ n ∧ s.2.2.2 ≤ n
def en (o : Option TS) : Int32 := match o with
  | none => -1
  | some s => nI (pk_ s)
theorem pkS_lt {n : Nat} (hn : n ≤ 10) : ∀ st : List Nat, (∀ t ∈ st, t < n) → pkS st < 16 ^ st.length
  | [], _ => by simp [pkS]
  | t :: st, h => by
    have h1 := pkS_lt hn st (fun x hx => h x (List.mem_cons_of_mem _ hx))
    have h2 := h t List.mem_cons_self
    have h3 : (t + 1) * 16 ^ st.length ≤ 15 * 16 ^ st.length := Nat.mul_le_mul_right _ (by omega)
    simp only [pkS, List.length_cons, Nat.pow_succ]
    omega
theorem px_sh4 : ∀ k, k < 7 → (((4 : Int32) * nI k &&& 31).toBitVec.smod 32).toNat = 4 * k := by decide +kernel
theorem px_sh4' : ∀ k, k < 3 → (((16 : Int32) + (4 : Int32) * nI k &&& 31).toBitVec.smod 32).toNat = 4 * (k + 4) := by decide +kernel
theorem px_nib {P : Nat} (hP : P < 2 ^ 31) {s : Int32} {k : Nat} (hs : (s.toBitVec.smod 32).toNat = k) : (nI P >>> s) &&& 15 = nI (P / 2 ^ k % 16) := by
  rw [pk_shrN hP s k hs, pk_andN (by have := Nat.div_le_self P (2 ^ k); omega) 4 (by decide)]
theorem bt_nI {n i : Nat} (hn : n < 2 ^ 32) (hi : i < 32) : bt (nI n) i = n.testBit i := by
  unfold bt
  show (BitVec.ofNat 32 n).getLsbD i = _
  rw [BitVec.getLsbD_ofNat]
  simp [hi]
theorem px_orN {a b : Nat} (ha : a < 2 ^ 32) (hb : b < 2 ^ 32) : nI a ||| nI b = nI (a ||| b) := by
  apply b_ext
  intro i hi
  rw [b_or, bt_nI ha hi, bt_nI hb hi, bt_nI (Nat.or_lt_two_pow ha hb) hi, Nat.testBit_or]
/-- a nibble that is nought takes a number by 'or' as by '+' -/
theorem nib_or {P t j : Nat} (h0 : P / 2 ^ (4 * j) % 16 = 0) (ht : t < 16) : P ||| (t * 2 ^ (4 * j)) = P + t * 2 ^ (4 * j) := by
  have hp : 0 < 2 ^ (4 * j) := Nat.two_pow_pos _
  have hlo : P % 2 ^ (4 * j) < 2 ^ (4 * j) := Nat.mod_lt _ hp
  have e1 : P = 2 ^ (4 * j) * (P / 2 ^ (4 * j)) + P % 2 ^ (4 * j) := (Nat.div_add_mod P _).symm
  have e2 : P / 2 ^ (4 * j) = 16 * (P / 2 ^ (4 * j) / 16) := by omega
  have e3 : 2 ^ (4 * j) * (P / 2 ^ (4 * j)) = 2 ^ (4 * j + 4) * (P / 2 ^ (4 * j) / 16) := by
    rw [Nat.pow_add]
    rw [Nat.mul_assoc]
    congr 1
  generalize hh : P / 2 ^ (4 * j) / 16 = hi at e3
  generalize hl : P % 2 ^ (4 * j) = lo at *
  rw [e3] at e1
  have t1 : lo < 2 ^ (4 * j + 4) := Nat.lt_of_lt_of_le hlo (Nat.pow_le_pow_right (by decide) (by omega))
  have s1 : 2 ^ (4 * j) * t + lo = 2 ^ (4 * j) * t ||| lo := Nat.two_pow_add_eq_or_of_lt hlo t
  have s2 : 2 ^ (4 * j) * t + lo < 2 ^ (4 * j + 4) := by
    have : 2 ^ (4 * j) * t ≤ 2 ^ (4 * j) * 15 := Nat.mul_le_mul_left _ (by omega)
    rw [Nat.pow_add]
    omega
  have s3 := Nat.two_pow_add_eq_or_of_lt s2 hi
  have s4 := Nat.two_pow_add_eq_or_of_lt t1 hi
  rw [Nat.mul_comm t]
  rw [e1, s4, Nat.or_assoc, Nat.or_comm lo, ← s1, ← s3]
  rw [← s4]
  omega
theorem px_give {P t j : Nat} (hP : P < 2 ^ 28) (hj : j < 7) (h0 : P / 2 ^ (4 * j) % 16 = 0) (ht : t < 16) {s : Int32} (hs : (s.toBitVec.smod 32).toNat = 4 * j) : nI P ||| (nI t <<< s) = nI (P + t * 2 ^ (4 * j)) := by
  have hb : t * 2 ^ (4 * j) < 2 ^ 28 := by
    have h1 : 2 ^ (4 * j) ≤ 2 ^ 24 := Nat.pow_le_pow_right (by decide) (by omega)
    have h2 : t * 2 ^ (4 * j) ≤ 15 * 2 ^ 24 := Nat.mul_le_mul (by omega) h1
    omega
  rw [pk_shlN s (4 * j) hs (by omega), px_orN (by omega) (by omega), nib_or h0 ht]
theorem px_mask : ∀ j, j < 7 → ∀ i, i < 32 → bt (((15 : Int32) <<< (nI (4 * j) &&& 31)) ^^^ (-1)) i = !(decide (4 * j ≤ i) && decide (i < 4 * j + 4)) := by decide +kernel
theorem px_drop {P j : Nat} (hP : P < 2 ^ 28) (hj : j < 7) : nI P &&& (((15 : Int32) <<< (nI (4 * j) &&& 31)) ^^^ (-1)) = nI (P - P / 2 ^ (4 * j) % 16 * 2 ^ (4 * j)) := by
  generalize hn : P / 2 ^ (4 * j) % 16 = n
  have hn16 : n < 16 := by omega
  have hp : 0 < 2 ^ (4 * j) := Nat.two_pow_pos _
  have hle : n * 2 ^ (4 * j) ≤ P := by
    have h1 : n ≤ P / 2 ^ (4 * j) := by
      rw [← hn]
      exact Nat.mod_le _ _
    exact Nat.le_trans (Nat.mul_le_mul_right _ h1) (Nat.div_mul_le_self P _)
  generalize hQ : P - n * 2 ^ (4 * j) = Q
  have hPQ : P = Q + n * 2 ^ (4 * j) := by omega
  have hQ0 : Q / 2 ^ (4 * j) % 16 = 0 := by
    have h1 : P / 2 ^ (4 * j) = Q / 2 ^ (4 * j) + n := by
      rw [hPQ, Nat.add_mul_div_right _ _ hp]
    omega
  have hor := nib_or hQ0 hn16
  rw [← hPQ] at hor
  apply b_ext
  intro i hi
  rw [b_and, px_mask j hj i hi, bt_nI (by omega) hi, bt_nI (by omega) hi, ← hor, Nat.testBit_or]
  by_cases h1 : 4 * j ≤ i
  · by_cases h2 : i < 4 * j + 4
    · have hq : Q.testBit i = false := by
        have e : Q.testBit i = ((Q / 2 ^ (4 * j)) % 2 ^ 4).testBit (i - 4 * j) := by
          rw [Nat.testBit_mod_two_pow, Nat.testBit_div_two_pow]
          have : i - 4 * j < 4 := by omega
          have e2 : i - 4 * j + 4 * j = i := by omega
          simp [this, e2]
        rw [e, show (2 : Nat) ^ 4 = 16 from rfl, hQ0]
        exact Nat.zero_testBit _
      simp [h1, h2, hq]
    · have hx : (n * 2 ^ (4 * j)).testBit i = false := by
        rw [Nat.mul_comm, Nat.testBit_two_pow_mul]
        have : n.testBit (i - 4 * j) = false := Nat.testBit_lt_two_pow (Nat.lt_of_lt_of_le hn16 (by
          have : 2 ^ 4 ≤ 2 ^ (i - 4 * j) := Nat.pow_le_pow_right (by decide) (by omega)
          omega))
        simp [this]
      simp [h2, hx]
  · have hx : (n * 2 ^ (4 * j)).testBit i = false := by
      rw [Nat.mul_comm, Nat.testBit_two_pow_mul]
      simp [h1]
    simp [h1, hx]
