/-! one instruction's step on types: both sides -/
def cI (n : Nat) (a : Int32) : Prop := ∃ c, c < n ∧ a = nI c
noncomputable def cif {α : Type} (p : Prop) (x y : α) : α := @ite _ p (Classical.propDecidable p) x y
theorem cif_t {α : Type} {p : Prop} {x y : α} (h : p) : cif p x y = x := by
  unfold cif
  exact if_pos h
theorem cif_f {α : Type} {p : Prop} {x y : α} (h : ¬ p) : cif p x y = y := by
  unfold cif
  exact if_neg h
noncomputable def mkF (σ : tx_St) (c : Nat) : Nat → Option TS → Option TS
  | 0, o => o
  | f + 1, o => mkF σ c f (cif (ow σ c f) (o.bind (tk σ (N_ (σ 6 f)))) o)
noncomputable def t_ca (σ : tx_St) (m : Nat) (s : TS) : Option TS := (cif (stM σ m) (cif (σ 10 m = -1) (some s) (tk σ (N_ (σ 10 m)) s)) ((cif (σ 10 m = -1) (some s) (tk σ (N_ (σ 10 m)) s)).bind (tk σ (N_ (σ 7 m) + 2)))).bind (gv (N_ (σ 11 m)))
noncomputable def tr (σ : tx_St) (nC nF nM m op : Nat) (a : Int32) (s : TS) : Option TS := match op with
  | 0 => gv 0 s
  | 1 => ld a s
  | 2 => sv a s
  | 3 => ((tk σ 0 s).bind (tk σ 0)).bind (gv 0)
  | 4 => ((tk σ 0 s).bind (tk σ 0)).bind (gv 0)
  | 5 => some s
  | 6 => tk σ 0 s
  | 7 => cif (cI nC a) ((mkF σ (N_ a) nF (some s)).bind (gv (N_ a + 2))) none
  | 8 => cif (cI nF a ∧ ¬ stF σ (N_ a)) ((tk σ (N_ (σ 4 (N_ a)) + 2) s).bind (gv (N_ (σ 6 (N_ a))))) none
  | 9 => cif (cI nF a ∧ ¬ stF σ (N_ a)) ((tk σ (N_ (σ 6 (N_ a))) s).bind (tk σ (N_ (σ 4 (N_ a)) + 2))) none
  | 10 => cif (cI nF a ∧ stF σ (N_ a)) (gv (N_ (σ 6 (N_ a))) s) none
  | 11 => cif (cI nF a ∧ stF σ (N_ a)) (tk σ (N_ (σ 6 (N_ a))) s) none
  | 12 => cif (cI nM a) (t_ca σ (N_ a) s) none
  | 13 => (tk σ 0 s).bind (gv 1)
  | 14 => (tk σ 1 s).bind (gv 0)
  | 15 => (tk σ 0 s).bind (tk σ 1)
  | 16 => ((tT s).bind tT).bind (gv 0)
  | 17 => cif (cI nC a) (gv (N_ a + 2) s) none
  | 18 => cif (cI 4 a) ((tk σ 0 s).bind (gv 0)) none
  | _ => tk σ (N_ (σ 11 m)) s
theorem tr_0 (σ : tx_St) (nC nF nM m : Nat) (a : Int32) (s : TS) : tr σ nC nF nM m 0 a s = gv 0 s := rfl
theorem tr_1 (σ : tx_St) (nC nF nM m : Nat) (a : Int32) (s : TS) : tr σ nC nF nM m 1 a s = ld a s := rfl
theorem tr_2 (σ : tx_St) (nC nF nM m : Nat) (a : Int32) (s : TS) : tr σ nC nF nM m 2 a s = sv a s := rfl
theorem tr_3 (σ : tx_St) (nC nF nM m : Nat) (a : Int32) (s : TS) : tr σ nC nF nM m 3 a s = ((tk σ 0 s).bind (tk σ 0)).bind (gv 0) := rfl
theorem tr_4 (σ : tx_St) (nC nF nM m : Nat) (a : Int32) (s : TS) : tr σ nC nF nM m 4 a s = ((tk σ 0 s).bind (tk σ 0)).bind (gv 0) := rfl
theorem tr_5 (σ : tx_St) (nC nF nM m : Nat) (a : Int32) (s : TS) : tr σ nC nF nM m 5 a s = some s := rfl
theorem tr_6 (σ : tx_St) (nC nF nM m : Nat) (a : Int32) (s : TS) : tr σ nC nF nM m 6 a s = tk σ 0 s := rfl
theorem tr_7 (σ : tx_St) (nC nF nM m : Nat) (a : Int32) (s : TS) : tr σ nC nF nM m 7 a s = cif (cI nC a) ((mkF σ (N_ a) nF (some s)).bind (gv (N_ a + 2))) none := rfl
theorem tr_8 (σ : tx_St) (nC nF nM m : Nat) (a : Int32) (s : TS) : tr σ nC nF nM m 8 a s = cif (cI nF a ∧ ¬ stF σ (N_ a)) ((tk σ (N_ (σ 4 (N_ a)) + 2) s).bind (gv (N_ (σ 6 (N_ a))))) none := rfl
theorem tr_9 (σ : tx_St) (nC nF nM m : Nat) (a : Int32) (s : TS) : tr σ nC nF nM m 9 a s = cif (cI nF a ∧ ¬ stF σ (N_ a)) ((tk σ (N_ (σ 6 (N_ a))) s).bind (tk σ (N_ (σ 4 (N_ a)) + 2))) none := rfl
theorem tr_10 (σ : tx_St) (nC nF nM m : Nat) (a : Int32) (s : TS) : tr σ nC nF nM m 10 a s = cif (cI nF a ∧ stF σ (N_ a)) (gv (N_ (σ 6 (N_ a))) s) none := rfl
theorem tr_11 (σ : tx_St) (nC nF nM m : Nat) (a : Int32) (s : TS) : tr σ nC nF nM m 11 a s = cif (cI nF a ∧ stF σ (N_ a)) (tk σ (N_ (σ 6 (N_ a))) s) none := rfl
theorem tr_12 (σ : tx_St) (nC nF nM m : Nat) (a : Int32) (s : TS) : tr σ nC nF nM m 12 a s = cif (cI nM a) (t_ca σ (N_ a) s) none := rfl
theorem tr_13 (σ : tx_St) (nC nF nM m : Nat) (a : Int32) (s : TS) : tr σ nC nF nM m 13 a s = (tk σ 0 s).bind (gv 1) := rfl
theorem tr_14 (σ : tx_St) (nC nF nM m : Nat) (a : Int32) (s : TS) : tr σ nC nF nM m 14 a s = (tk σ 1 s).bind (gv 0) := rfl
theorem tr_15 (σ : tx_St) (nC nF nM m : Nat) (a : Int32) (s : TS) : tr σ nC nF nM m 15 a s = (tk σ 0 s).bind (tk σ 1) := rfl
theorem tr_16 (σ : tx_St) (nC nF nM m : Nat) (a : Int32) (s : TS) : tr σ nC nF nM m 16 a s = ((tT s).bind tT).bind (gv 0) := rfl
theorem tr_17 (σ : tx_St) (nC nF nM m : Nat) (a : Int32) (s : TS) : tr σ nC nF nM m 17 a s = cif (cI nC a) (gv (N_ a + 2) s) none := rfl
theorem tr_18 (σ : tx_St) (nC nF nM m : Nat) (a : Int32) (s : TS) : tr σ nC nF nM m 18 a s = cif (cI 4 a) ((tk σ 0 s).bind (gv 0)) none := rfl
theorem tr_19 (σ : tx_St) (nC nF nM m : Nat) (a : Int32) (s : TS) : tr σ nC nF nM m 19 a s = tk σ (N_ (σ 11 m)) s := rfl
def okO (n : Nat) (o : Option TS) : Prop := ∀ s, o = some s → okS n s
theorem okO_bind {n : Nat} {o : Option TS} {f : TS → Option TS} (h : okO n o) (hf : ∀ s s2, okS n s → f s = some s2 → okS n s2) : okO n (o.bind f) := by
  intro s2 e
  cases o with
  | none => cases e
  | some s => exact hf s s2 (h s rfl) e
theorem okO_gv {n : Nat} {o : Option TS} (h : okO n o) {t : Nat} (ht : t < n) : okO n (o.bind (gv t)) := okO_bind h (fun _ _ hs e => gv_ok ht hs e)
theorem okO_tk {σ : tx_St} {n : Nat} {o : Option TS} (h : okO n o) (w : Nat) : okO n (o.bind (tk σ w)) := okO_bind h (fun _ _ hs e => tk_ok hs e)
theorem okO_tT {n : Nat} {o : Option TS} (h : okO n o) : okO n (o.bind tT) := okO_bind h (fun _ _ hs e => tT_ok hs e)
theorem okO_some {n : Nat} {s : TS} (h : okS n s) : okO n (some s) := fun _ e => by cases e; exact h
theorem okO_cif {n : Nat} {p : Prop} {a b : Option TS} (ha : okO n a) (hb : okO n b) : okO n (cif p a b) := by
  rcases Classical.em p with h | h
  · rw [cif_t h]; exact ha
  · rw [cif_f h]; exact hb
theorem okO_none {n : Nat} : okO n none := fun _ e => by cases e
theorem px_cI {n : Nat} (hn : n < 2 ^ 31) (a : Int32) : (¬ a < 0 ∧ ¬ nI n ≤ a) ↔ cI n a := px_in hn
section TR
variable {σ : tx_St} {nC nF nM : Nat} {o : Option TS} {s : TS}
theorem cI_N {n : Nat} (hn : n < 2 ^ 31) {a : Int32} (h : cI n a) : N_ a < n ∧ a = nI (N_ a) := by
  obtain ⟨c, hc, rfl⟩ := h
  rw [N_nI (by omega)]
  exact ⟨hc, rfl⟩
theorem mo_give {n : Nat} (hn : n ≤ 10) (h : okO n o) {t : Nat} (ht : t < n) : fx_Mo_give σ (en o) (nI t) = some (en (o.bind (gv t)), σ) := by
  cases o with
  | none => exact fx_Mo_give_n _
  | some s => exact fx_Mo_give_e hn (h s rfl) ht
theorem mo_take (hB : iv_B σ nC nF nM) (h : okO (nC + 2) o) {w : Nat} (hw : w < nC + 2) : fx_Mo_take σ (en o) (nI w) = some (en (o.bind (tk σ w)), σ) := by
  cases o with
  | none => exact fx_Mo_take_n _
  | some s => exact fx_Mo_take_e hB (h s rfl) hw
theorem mo_tT {n : Nat} (hn : n ≤ 10) (h : okO n o) : fx_Mo_takeThing σ (en o) = some (en (o.bind tT), σ) := by
  cases o with
  | none => exact fx_Mo_takeThing_n
  | some s => exact fx_Mo_takeThing_e hn (h s rfl)
theorem px_m1 (f : Nat) : nI f + (-1) = nI f - 1 := by rw [Int32.sub_eq_add_neg]
theorem fx_Mo_makes_l (hB : iv_B σ nC nF nM) {c : Nat} (hc : c < nC) : ∀ (f F : Nat) (o : Option TS), f ≤ nF → f < F → okO (nC + 2) o → fx_Mo_makes_b20 F σ (nI c) (en o) (nI f - 1) = some (en ((mkF σ c f o).bind (gv (c + 2))), σ) := by
  have hb := B_n hB
  intro f
  induction f with
  | zero =>
    intro F o hf hF ho
    obtain ⟨F, rfl⟩ : ∃ G, F = G + 1 := ⟨F - 1, by omega⟩
    rw [fx_Mo_makes_b20, if_pos (by decide), px_2, mo_give (by omega) ho (by omega), px_ci]
    rfl
  | succ f ih =>
    intro F o hf hF ho
    obtain ⟨F, rfl⟩ : ∃ G, F = G + 1 := ⟨F - 1, by omega⟩
    rw [fx_Mo_makes_b20, nI_pred, if_neg (nI_pos (by omega)), fx_Mo_owns_e hB hc (by omega), px_ci]
    unfold fx_Mo_makes_b48
    rw [px_m1, mkF]
    by_cases hw : ow σ c f
    · rw [bP_t hw, if_neg (by decide), px_rd rfl (by omega) (by decide), hB.1.2.2.2.1, (B_f6 hB (f := f) (by omega)).2, mo_take hB ho (B_f6 hB (f := f) (by omega)).1, px_ci, cif_t hw, ← (B_f6 hB (f := f) (by omega)).2]
      exact ih F _ (by omega) (by omega) (okO_tk ho _)
    · rw [bP_f hw, if_pos rfl, cif_f hw]
      exact ih F o (by omega) (by omega) ho
theorem fx_Mo_makes_e (hB : iv_B σ nC nF nM) (h : okS (nC + 2) s) (a : Int32) : fx_Mo_makes σ (en (some s)) a = some (en (cif (cI nC a) ((mkF σ (N_ a) nF (some s)).bind (gv (N_ a + 2))) none), σ) := by
  have hb := B_n hB
  unfold fx_Mo_makes
  rw [fx_Mo_isClass_e, px_ci, B_s0 hB, bP_b, bP_c (px_cI (by omega) a)]
  by_cases hc : cI nC a
  · obtain ⟨h1, h2⟩ := cI_N (by omega) hc
    rw [bP_t hc, if_neg (by decide), cif_t hc, hB.1.1.2.1, hB.2.2.1.2.1]
    have := fx_Mo_makes_l hB h1 nF tx_fu (some s) (Nat.le_refl _) (by unfold tx_fu; omega) (okO_some h)
    rw [← h2] at this
    exact this
  · rw [bP_f hc, if_pos rfl, cif_f hc]
    rfl
theorem B_m10 (h : iv_B σ nC nF nM) {m : Nat} (hm : m < nM) : σ 10 m = -1 ∨ (N_ (σ 10 m) < nC + 2 ∧ σ 10 m = nI (N_ (σ 10 m))) := by
  obtain ⟨-, -, -, e, -⟩ := h.2.2.2.2.2 m hm
  have := (B_n h).1
  rcases e with e | ⟨t, ht, e⟩
  · exact Or.inl e
  · rw [e, N_nI (by omega)]
    exact Or.inr ⟨ht, rfl⟩
theorem fx_Mo_calls_e (hB : iv_B σ nC nF nM) (h : okS (nC + 2) s) (a : Int32) : fx_Mo_calls σ (en (some s)) a = some (en (cif (cI nM a) (t_ca σ (N_ a) s) none), σ) := by
  have hb := B_n hB
  unfold fx_Mo_calls
  rw [fx_Mo_isMethod_e, px_ci, hB.1.1.2.2, hB.2.2.1.2.2, bP_b, bP_c (px_cI (by omega) a)]
  by_cases hc : cI nM a
  · obtain ⟨h1, h2⟩ := cI_N (by omega) hc
    generalize hm : N_ a = m at *
    subst h2
    rw [bP_t hc, if_neg (by decide), cif_t hc, px_rd (c := 54) rfl (by omega) (by decide), px_rd (c := 54) rfl (by omega) (by decide), hB.1.2.2.2.2.2.2.2.1]
    have h62 : ∀ o, okO (nC + 2) o → fx_Mo_calls_b62 σ (nI m) (en o) = some (en (o.bind (gv (N_ (σ 11 m)))), σ) := by
      intro o ho
      unfold fx_Mo_calls_b62
      rw [px_rd rfl (by omega) (by decide), hB.1.2.2.2.2.2.2.2.2.1, (B_m11 hB h1).2, mo_give (by omega) ho (B_m11 hB h1).1, px_ci, ← (B_m11 hB h1).2]
    have h34 : ∀ o, okO (nC + 2) o → fx_Mo_calls_b34 σ (nI m) (en o) = some (en ((cif (stM σ m) o (o.bind (tk σ (N_ (σ 7 m) + 2)))).bind (gv (N_ (σ 11 m)))), σ) := by
      intro o ho
      unfold fx_Mo_calls_b34
      rw [px_rd rfl (by omega) (by decide), hB.1.2.2.2.2.2.1]
      rcases B_m8 hB h1 with ⟨q1, q2⟩ | ⟨q1, q2⟩
      · rw [if_neg (by rw [q2]; decide), cif_f q1, px_rd rfl (by omega) (by decide), hB.1.2.2.2.2.1, (B_m7 hB h1).2, px_2, mo_take hB ho (by have := (B_m7 hB h1).1; omega), px_ci, h62 _ (okO_tk ho _), ← (B_m7 hB h1).2]
      · rw [if_pos q2, cif_t q1, h62 _ ho]
    unfold t_ca
    rcases B_m10 hB h1 with e | ⟨e1, e2⟩
    · rw [if_neg (by rw [e]; decide), h34 _ (okO_some h), cif_t e]
    · have hne : ¬ σ 10 m = -1 := fun z => by
        rw [e2] at z
        exact nI_pos (n := N_ (σ 10 m)) (by omega) (z.symm ▸ (by decide : (-1 : Int32) < 0))
      have ht := mo_take hB (okO_some h) e1
      rw [← e2] at ht
      rw [if_pos (by rw [e2]; exact nI_pos' (by omega)), ht, px_ci, h34 _ (okO_tk (okO_some h) _), cif_f hne]
      rfl
  · rw [bP_f hc, if_pos rfl, cif_f hc]
    rfl
theorem fx_Mo_isField_e (hB : iv_B σ nC nF nM) (a x : Int32) : fx_Mo_isField σ a x = some (bP (cI nF a ∧ bP (stF σ (N_ a)) = x), σ) := by
  have hb := B_n hB
  unfold fx_Mo_isField fx_Mo_isField_b25 fx_Mo_isField_b26
  rw [hB.1.1.2.1, hB.2.2.1.2.1]
  by_cases hc : cI nF a
  · obtain ⟨h1, h2⟩ := cI_N (by omega) hc
    have h3 := (px_cI (by omega) a).mpr hc
    have es : fx_Mo_isStatic σ a = some (bP (stF σ (N_ a)), σ) := by
      have := fx_Mo_isStatic_e hB (f := N_ a) (by omega)
      rw [← h2] at this
      exact this
    rw [if_neg h3.1, if_neg h3.2, es, px_ci]
    by_cases hx : bP (stF σ (N_ a)) = x
    · rw [if_pos hx, px_rz (Or.inr rfl), bP_t ⟨hc, hx⟩]
    · rw [if_neg hx, px_rz (Or.inl rfl), bP_f (fun z => hx z.2)]
  · rw [bP_f (fun z => hc z.1)]
    by_cases h1 : a < 0
    · rw [if_pos h1, px_rz (Or.inl rfl)]
    · rw [if_neg h1, if_pos (Classical.not_not.mp (fun z => hc ((px_cI (by omega) a).mp ⟨h1, z⟩))), px_rz (Or.inl rfl)]
theorem fx_Mo_fielded_e (hB : iv_B σ nC nF nM) (h : okS (nC + 2) s) (a : Int32) (m : Nat) : ∀ op, 8 ≤ op → op ≤ 11 → fx_Mo_fielded σ (nI op) (en (some s)) a = some (en (tr σ nC nF nM m op a s), σ) := by
  have hb := B_n hB
  have core : ∀ (op : Nat) (x : Int32) (P : Prop), (bP (stF σ (N_ a)) = x ↔ P) → ¬ (cI nF a ∧ P) → fx_Mo_fielded_b13 σ (nI op) (en (some s)) a x a = some (-1, σ) := by
    intro op x P hP hno
    unfold fx_Mo_fielded_b13
    rw [fx_Mo_isField_e hB, px_ci, bP_f (fun z => hno ⟨z.1, hP.mp z.2⟩), if_pos rfl]
  have p0 : bP (stF σ (N_ a)) = 0 ↔ ¬ stF σ (N_ a) := bP_0
  have p1 : bP (stF σ (N_ a)) = 1 ↔ stF σ (N_ a) := by
    rcases Classical.em (stF σ (N_ a)) with q | q
    · rw [bP_t q]; exact ⟨fun _ => q, fun _ => rfl⟩
    · rw [bP_f q]; exact ⟨fun z => absurd z (by decide), fun z => absurd z q⟩
  intro op h1 h2
  unfold fx_Mo_fielded
  rcases (by omega : op = 8 ∨ op = 9 ∨ op = 10 ∨ op = 11) with rfl | rfl | rfl | rfl
  · rw [if_pos (by decide)]
    by_cases hc : cI nF a ∧ ¬ stF σ (N_ a)
    · obtain ⟨c1, c2⟩ := cI_N (by omega) hc.1
      rw [tr_8, cif_t hc]
      generalize hm : N_ a = f at *
      subst c2
      unfold fx_Mo_fielded_b13
      rw [fx_Mo_isField_e hB, hm, px_ci, bP_t ⟨hc.1, p0.mpr hc.2⟩, if_neg (by decide), px_rd rfl (by omega) (by decide), px_rd rfl (by omega) (by decide), hB.1.2.2.2.1, hB.1.2.1, if_pos (by decide), (B_f4 hB c1).2, px_2, mo_take hB (okO_some h) (by have := (B_f4 hB c1).1; omega), px_ci, (B_f6 hB c1).2, mo_give (by omega) (okO_tk (okO_some h) _) (B_f6 hB c1).1, px_ci, ← (B_f4 hB c1).2, ← (B_f6 hB c1).2]
      rfl
    · rw [core 8 0 _ p0 hc]
      rw [tr_8, cif_f hc]
      rfl
  · rw [if_pos (by decide)]
    by_cases hc : cI nF a ∧ ¬ stF σ (N_ a)
    · obtain ⟨c1, c2⟩ := cI_N (by omega) hc.1
      rw [tr_9, cif_t hc]
      generalize hm : N_ a = f at *
      subst c2
      unfold fx_Mo_fielded_b13
      rw [fx_Mo_isField_e hB, hm, px_ci, bP_t ⟨hc.1, p0.mpr hc.2⟩, if_neg (by decide), px_rd rfl (by omega) (by decide), px_rd rfl (by omega) (by decide), hB.1.2.2.2.1, hB.1.2.1, if_neg (by decide), if_pos (by decide), (B_f6 hB c1).2, mo_take hB (okO_some h) (B_f6 hB c1).1, px_ci, (B_f4 hB c1).2, px_2, mo_take hB (okO_tk (okO_some h) _) (by have := (B_f4 hB c1).1; omega), px_ci, ← (B_f4 hB c1).2, ← (B_f6 hB c1).2]
      rfl
    · rw [core 9 0 _ p0 hc]
      rw [tr_9, cif_f hc]
      rfl
  · rw [if_neg (by decide)]
    by_cases hc : cI nF a ∧ stF σ (N_ a)
    · obtain ⟨c1, c2⟩ := cI_N (by omega) hc.1
      rw [tr_10, cif_t hc]
      generalize hm : N_ a = f at *
      subst c2
      unfold fx_Mo_fielded_b13 fx_Mo_fielded_b100
      rw [fx_Mo_isField_e hB, hm, px_ci, bP_t ⟨hc.1, p1.mpr hc.2⟩, if_neg (by decide), px_rd rfl (by omega) (by decide), px_rd rfl (by omega) (by decide), hB.1.2.2.2.1, if_neg (by decide), if_neg (by decide), if_pos (by decide), (B_f6 hB c1).2, mo_give (by omega) (okO_some h) (B_f6 hB c1).1, px_ci, ← (B_f6 hB c1).2]
      rfl
    · rw [core 10 1 _ p1 hc]
      rw [tr_10, cif_f hc]
      rfl
  · rw [if_neg (by decide)]
    by_cases hc : cI nF a ∧ stF σ (N_ a)
    · obtain ⟨c1, c2⟩ := cI_N (by omega) hc.1
      rw [tr_11, cif_t hc]
      generalize hm : N_ a = f at *
      subst c2
      unfold fx_Mo_fielded_b13 fx_Mo_fielded_b100
      rw [fx_Mo_isField_e hB, hm, px_ci, bP_t ⟨hc.1, p1.mpr hc.2⟩, if_neg (by decide), px_rd rfl (by omega) (by decide), px_rd rfl (by omega) (by decide), hB.1.2.2.2.1, if_neg (by decide), if_neg (by decide), if_neg (by decide), (B_f6 hB c1).2, mo_take hB (okO_some h) (B_f6 hB c1).1, px_ci, ← (B_f6 hB c1).2]
      rfl
    · rw [core 11 1 _ p1 hc]
      rw [tr_11, cif_f hc]
      rfl
theorem fx_Mo_after_e (hB : iv_B σ nC nF nM) (h : okS (nC + 2) s) {m i op : Nat} (hm : m < nM) (hi : i < 12) (hop : op ≤ 19) (e1 : σ 59 (12 * m + i) = en (some s)) (e2 : σ 57 (12 * m + i) = nI op) : fx_Mo_after σ (nI m) (nI i) = some (en (tr σ nC nF nM m op (σ 58 (12 * m + i)) s), σ) := by
  have hb := B_n hB
  have hn : nC + 2 ≤ 10 := by omega
  have h0 : (0 : Int32) = nI 0 := by decide
  have h1' : (1 : Int32) = nI 1 := by decide
  have t0 : ∀ o, okO (nC + 2) o → fx_Mo_take σ (en o) 0 = some (en (o.bind (tk σ 0)), σ) := fun o ho => mo_take hB ho (w := 0) (by omega)
  have t1 : ∀ o, okO (nC + 2) o → fx_Mo_take σ (en o) 1 = some (en (o.bind (tk σ 1)), σ) := fun o ho => mo_take hB ho (w := 1) (by omega)
  have g0 : ∀ o, okO (nC + 2) o → fx_Mo_give σ (en o) 0 = some (en (o.bind (gv 0)), σ) := fun o ho => mo_give hn ho (t := 0) (by omega)
  have g1 : ∀ o, okO (nC + 2) o → fx_Mo_give σ (en o) 1 = some (en (o.bind (gv 1)), σ) := fun o ho => mo_give hn ho (t := 1) (by omega)
  have hs := okO_some h
  unfold fx_Mo_after fx_Mo_after_b304 fx_Mo_after_b305 fx_Mo_after_b272
  rw [px_ix12', px_rd (j := 12 * m + i) rfl (by omega) (by decide), px_rd (j := 12 * m + i) rfl (by omega) (by decide), px_rd (j := 12 * m + i) rfl (by omega) (by decide), e1, e2]
  generalize σ 58 (12 * m + i) = a
  rcases (by omega : op = 0 ∨ op = 1 ∨ op = 2 ∨ op = 3 ∨ op = 4 ∨ op = 5 ∨ op = 6 ∨ op = 7 ∨ op = 8 ∨ op = 9 ∨ op = 10 ∨ op = 11 ∨ op = 12 ∨ op = 13 ∨ op = 14 ∨ op = 15 ∨ op = 16 ∨ op = 17 ∨ op = 18 ∨ op = 19) with rfl | rfl | rfl | rfl | rfl | rfl | rfl | rfl | rfl | rfl | rfl | rfl | rfl | rfl | rfl | rfl | rfl | rfl | rfl | rfl
  · rw [if_pos (by decide), g0 _ hs, px_ci]
    rfl
  · rw [if_neg (by decide), if_pos (by decide), fx_Mo_loaded_e hn h, px_ci]
    rfl
  · rw [if_neg (by decide), if_neg (by decide), if_pos (by decide), fx_Mo_stored_e hn h, px_ci]
    rfl
  · rw [if_neg (by decide), if_neg (by decide), if_neg (by decide), if_neg (by decide), t0 _ hs, px_ci, t0 _ (okO_tk hs _), px_ci, g0 _ (okO_tk (okO_tk hs _) _), px_ci]
    rfl
  · rw [if_neg (by decide), if_neg (by decide), if_neg (by decide), if_neg (by decide), t0 _ hs, px_ci, t0 _ (okO_tk hs _), px_ci, g0 _ (okO_tk (okO_tk hs _) _), px_ci]
    rfl
  · rw [if_neg (by decide), if_neg (by decide), if_neg (by decide), if_pos (by decide), if_pos (by decide)]
    rfl
  · rw [if_neg (by decide), if_neg (by decide), if_neg (by decide), if_pos (by decide), if_neg (by decide), if_pos (by decide), t0 _ hs, px_ci]
    rfl
  · rw [if_neg (by decide), if_neg (by decide), if_neg (by decide), if_pos (by decide), if_neg (by decide), if_neg (by decide), if_pos (by decide), fx_Mo_makes_e hB h, px_ci]
    rfl
  · rw [if_neg (by decide), if_neg (by decide), if_neg (by decide), if_pos (by decide), if_neg (by decide), if_neg (by decide), if_neg (by decide), if_neg (by decide), fx_Mo_fielded_e hB h a m 8 (by omega) (by omega), px_ci]
  · rw [if_neg (by decide), if_neg (by decide), if_neg (by decide), if_pos (by decide), if_neg (by decide), if_neg (by decide), if_neg (by decide), if_neg (by decide), fx_Mo_fielded_e hB h a m 9 (by omega) (by omega), px_ci]
  · rw [if_neg (by decide), if_neg (by decide), if_neg (by decide), if_pos (by decide), if_neg (by decide), if_neg (by decide), if_neg (by decide), if_neg (by decide), fx_Mo_fielded_e hB h a m 10 (by omega) (by omega), px_ci]
  · rw [if_neg (by decide), if_neg (by decide), if_neg (by decide), if_pos (by decide), if_neg (by decide), if_neg (by decide), if_neg (by decide), if_neg (by decide), fx_Mo_fielded_e hB h a m 11 (by omega) (by omega), px_ci]
  · rw [if_neg (by decide), if_neg (by decide), if_neg (by decide), if_pos (by decide), if_neg (by decide), if_neg (by decide), if_neg (by decide), if_pos (by decide), if_pos (by decide), fx_Mo_calls_e hB h, px_ci]
    rfl
  · rw [if_neg (by decide), if_neg (by decide), if_neg (by decide), if_pos (by decide), if_neg (by decide), if_neg (by decide), if_neg (by decide), if_pos (by decide), if_neg (by decide), if_pos (by decide), t0 _ hs, px_ci, g1 _ (okO_tk hs _), px_ci]
    rfl
  · rw [if_neg (by decide), if_neg (by decide), if_neg (by decide), if_pos (by decide), if_neg (by decide), if_neg (by decide), if_neg (by decide), if_pos (by decide), if_neg (by decide), if_neg (by decide), if_pos (by decide), t1 _ hs, px_ci, g0 _ (okO_tk hs _), px_ci]
    rfl
  · rw [if_neg (by decide), if_neg (by decide), if_neg (by decide), if_pos (by decide), if_neg (by decide), if_neg (by decide), if_neg (by decide), if_pos (by decide), if_neg (by decide), if_neg (by decide), if_neg (by decide), if_pos (by decide), t0 _ hs, px_ci, t1 _ (okO_tk hs _), px_ci]
    rfl
  · rw [if_neg (by decide), if_neg (by decide), if_neg (by decide), if_pos (by decide), if_neg (by decide), if_neg (by decide), if_neg (by decide), if_pos (by decide), if_neg (by decide), if_neg (by decide), if_neg (by decide), if_neg (by decide), if_pos (by decide), mo_tT hn hs, px_ci, mo_tT hn (okO_tT hs), px_ci, g0 _ (okO_tT (okO_tT hs)), px_ci]
    rfl
  · rw [if_neg (by decide), if_neg (by decide), if_neg (by decide), if_pos (by decide), if_neg (by decide), if_neg (by decide), if_neg (by decide), if_pos (by decide), if_neg (by decide), if_neg (by decide), if_neg (by decide), if_neg (by decide), if_neg (by decide), if_pos (by decide), fx_Mo_isClass_e, px_ci, B_s0 hB, bP_b, bP_c (px_cI (by omega) a)]
    rw [tr_17]
    by_cases hc : cI nC a
    · obtain ⟨c1, c2⟩ := cI_N (by omega) hc
      rw [bP_t hc, if_neg (by decide), cif_t hc]
      generalize hm : N_ a = f at *
      subst c2
      rw [px_2, mo_give hn hs (by omega), px_ci]
      rfl
    · rw [bP_f hc, if_pos rfl, cif_f hc]
      rfl
  · rw [if_neg (by decide), if_neg (by decide), if_neg (by decide), if_pos (by decide), if_neg (by decide), if_neg (by decide), if_neg (by decide), if_pos (by decide), if_neg (by decide), if_neg (by decide), if_neg (by decide), if_neg (by decide), if_neg (by decide), if_neg (by decide), if_pos (by decide), t0 _ hs, px_ci, g0 _ (okO_tk hs _), px_ci]
    rw [tr_18]
    by_cases hc : cI 4 a
    · have h3 := (px_cI (n := 4) (by decide) a).mpr hc
      have h4 : ¬ (3 : Int32) < a := by
        obtain ⟨c, hc, rfl⟩ := hc
        rw [show (3 : Int32) = nI 3 by decide]
        exact nI_nlt (by omega) (by omega)
      rw [if_neg h3.1, if_neg h4, cif_t hc]
      rfl
    · rw [cif_f hc]
      by_cases h3 : a < 0
      · rw [if_pos h3]
        rfl
      · have h4 : (3 : Int32) < a := by
          have h5 : (4 : Int32) ≤ a := Classical.not_not.mp (fun z => hc ((px_cI (n := 4) (by decide) a).mp ⟨h3, z⟩))
          rw [Int32.le_iff_toInt_le] at h5
          rw [Int32.lt_iff_toInt_lt]
          have : (4 : Int32).toInt = 4 := by decide
          have : (3 : Int32).toInt = 3 := by decide
          omega
        rw [if_neg h3, if_pos h4]
        rfl
  · rw [if_neg (by decide), if_neg (by decide), if_neg (by decide), if_pos (by decide), if_neg (by decide), if_neg (by decide), if_neg (by decide), if_pos (by decide), if_neg (by decide), if_neg (by decide), if_neg (by decide), if_neg (by decide), if_neg (by decide), if_neg (by decide), if_neg (by decide), px_rd rfl (by omega) (by decide), hB.1.2.2.2.2.2.2.2.2.1, (B_m11 hB hm).2, mo_take hB hs (B_m11 hB hm).1, px_ci]
    rfl
end TR
