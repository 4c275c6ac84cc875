section XU
variable {σ : tx_St} {nC nF nM : Nat} {o : Option TS}
theorem tk_cons {w t : Nat} {s : TS} {st : List Nat} (h : s.1 = t :: st) : tk σ w s = @ite _ (fi σ t w) (Classical.propDecidable _) (some (st, s.2)) none := by
  obtain ⟨a, l⟩ := s
  cases h
  rfl
theorem tk_nil {w : Nat} {s : TS} (h : s.1 = []) : tk σ w s = none := by
  obtain ⟨a, l⟩ := s
  cases h
  rfl
theorem xr_take (hB : iv_B σ nC nF nM) (hx : xr σ (nC + 2) o) {w : Nat} (hw : w < nC + 2) : ∃ τ, fx_Fitting_take σ (nI w) = some τ ∧ xe σ τ ∧ xr τ (nC + 2) (o.bind (tk σ w)) := by
  have hb := B_n hB
  obtain ⟨r, τ, e, hxe, hxw, hcase⟩ := xr_takeAny hx (by omega)
  unfold fx_Fitting_take
  rw [e, px_ci]
  rcases hcase with ⟨rfl, hn, hnil⟩ | ⟨t, ht, rfl, hn, hs⟩
  · refine ⟨tx_up τ 15 8 0, ?_, xe_tr hxe (xe_15 τ 0 (Or.inr rfl)), ?_⟩
    · rw [fx_Plan_fits_m (by omega), px_ci, fx_Fitting_demand_f, px_cv]
    · have : o.bind (tk σ w) = none := by
        cases o with
        | none => rfl
        | some s => exact tk_nil (hnil s rfl)
      rw [this]
      exact xr_bad hxw
  · have ef : fx_Plan_fits τ (nI t) (nI w) = some (bP (fi σ t w), τ) := by
      rw [fx_Plan_fits_e (by omega) (by omega), bP_c (xe_fi hxe t w)]
    rw [ef, px_ci]
    by_cases hf : fi σ t w
    · refine ⟨τ, ?_, hxe, ?_⟩
      · rw [bP_t hf, fx_Fitting_demand_t (by decide), px_cv]
      · cases o with
        | none => exact ⟨hxw, fun _ => hn rfl, fun s h => by cases h⟩
        | some s =>
          obtain ⟨st, hst, hxr⟩ := hs s rfl
          show xr τ (nC + 2) (tk σ w s)
          rw [tk_cons hst, if_pos hf]
          exact hxr
    · refine ⟨tx_up τ 15 8 0, ?_, xe_tr hxe (xe_15 τ 0 (Or.inr rfl)), ?_⟩
      · rw [bP_f hf, fx_Fitting_demand_f, px_cv]
      · have : o.bind (tk σ w) = none := by
          cases o with
          | none => rfl
          | some s =>
            obtain ⟨st, hst, -⟩ := hs s rfl
            show tk σ w s = none
            rw [tk_cons hst, if_neg hf]
        rw [this]
        exact xr_bad hxw
theorem xr_takeRef {n : Nat} (hn10 : n ≤ 10) (hx : xr σ n o) (hne : o = none → False) : ∃ τ, fx_Fitting_takeReference σ = some τ ∧ xe σ τ ∧ xr τ n (o.bind tT) := by
  obtain ⟨r, τ, e, hxe, hxw, hcase⟩ := xr_takeAny hx hn10
  unfold fx_Fitting_takeReference fx_Fitting_takeReference_b13
  rw [e, px_ci]
  cases o with
  | none => exact (hne rfl).elim
  | some s =>
    rcases hcase with ⟨rfl, hn, hnil⟩ | ⟨t, ht, rfl, hn, hs⟩
    · refine ⟨τ, ?_, hxe, ?_⟩
      · rw [if_neg (by decide), fx_Fitting_demand_t (by decide), px_cv]
      · have : (some s).bind tT = none := by
          have h := hnil s rfl
          obtain ⟨a, l⟩ := s
          cases h
          rfl
        rw [this]
        exact hn
    · obtain ⟨st, hst, hxr⟩ := hs s rfl
      have htT : (some s).bind tT = if t = 0 then none else some (st, s.2) := by
        obtain ⟨a, l⟩ := s
        cases hst
        rfl
      rw [htT]
      by_cases h0 : t = 0
      · subst h0
        refine ⟨tx_up τ 15 8 0, ?_, xe_tr hxe (xe_15 τ 0 (Or.inr rfl)), ?_⟩
        · rw [if_pos nI_0, fx_Fitting_demand_f, px_cv]
        · rw [if_pos rfl]
          exact xr_bad hxw
      · refine ⟨τ, ?_, hxe, ?_⟩
        · rw [if_neg (fun z => h0 ((nI_z (by omega)).mp z)), fx_Fitting_demand_t (by decide), px_cv]
        · rw [if_neg h0]
          exact hxr
theorem xr_takeRefN {n : Nat} (hn10 : n ≤ 10) (hx : xr σ n none) : ∃ τ, fx_Fitting_takeReference σ = some τ ∧ xe σ τ ∧ xr τ n none := by
  obtain ⟨r, τ, e, hxe, hxw, hcase⟩ := xr_takeAny hx hn10
  unfold fx_Fitting_takeReference fx_Fitting_takeReference_b13
  rw [e, px_ci]
  have hxn : xr τ n none := by
    rcases hcase with ⟨-, hn, -⟩ | ⟨t, ht, -, hn, -⟩
    · exact hn
    · exact ⟨hxw, fun _ => hn rfl, fun s h => by cases h⟩
  by_cases hr : r = 0
  · refine ⟨tx_up τ 15 8 0, ?_, xe_tr hxe (xe_15 τ 0 (Or.inr rfl)), xr_bad hxw⟩
    rw [if_pos hr, fx_Fitting_demand_f, px_cv]
  · refine ⟨τ, ?_, hxe, hxn⟩
    rw [if_neg hr, fx_Fitting_demand_t (by decide), px_cv]
theorem xr_takeR {n : Nat} (hn10 : n ≤ 10) (hx : xr σ n o) : ∃ τ, fx_Fitting_takeReference σ = some τ ∧ xe σ τ ∧ xr τ n (o.bind tT) := by
  cases o with
  | none => exact xr_takeRefN hn10 hx
  | some s => exact xr_takeRef hn10 hx (fun h => by cases h)
theorem ld_neg {a : Int32} {s : TS} (h : ¬ ∃ k, k < 3 ∧ a = nI k ∧ lo_ s k ≠ 0) : ld a s = none := by
  unfold ld
  rw [if_neg h]
theorem ld_pos {k : Nat} {s : TS} (hk : k < 3) (h : lo_ s k ≠ 0) : ld (nI k) s = gv (lo_ s k - 1) s := by
  unfold ld
  rw [if_pos ⟨k, hk, rfl, h⟩, N_nI (by omega)]
theorem xr_load {n : Nat} (hn10 : n ≤ 10) {s : TS} (hx : xr σ n (some s)) (a : Int32) : ∃ τ, fx_Fitting_load σ a = some τ ∧ xe σ τ ∧ xr τ n (ld a s) := by
  obtain ⟨hg, hok, q1, q2, q3⟩ := hx.2.2 s rfl
  have bad : fx_Fitting_load_b24 σ a = some (tx_up σ 15 8 0) := by
    unfold fx_Fitting_load_b24 fx_Fitting_load_b25 fx_Fitting_load_b45
    rw [fx_Fitting_demand_f, px_cv, if_pos (by simp [px_up])]
  unfold fx_Fitting_load
  by_cases ha : ¬ a < 0 ∧ ¬ (3 : Int32) ≤ a
  · obtain ⟨k, hk, rfl⟩ := (px_in (x := a) (n := 3) (by decide)).mp ha
    rw [if_neg ha.1, if_neg ha.2, px_rd rfl hk (by decide), q3 k hk]
    have hl := lo_le hok k
    by_cases h0 : lo_ s k = 0
    · refine ⟨tx_up σ 15 8 0, ?_, xe_15 σ 0 (Or.inr rfl), ?_⟩
      · rw [if_pos (by rw [h0]; decide), bad]
      · rw [ld_neg]
        · exact xr_bad hx.1
        · rintro ⟨j, hj, e, h1⟩
          have : k = j := (nI_eq (by omega) (by omega)).mp e
          exact h1 (this ▸ h0)
    · have e1 : nI (lo_ s k) - 1 = nI (lo_ s k - 1) := by rw [show (1 : Int32) = nI 1 by decide, pk_sub (by omega)]
      obtain ⟨τ, eτ, hxe, hxr⟩ := xr_put hx (t := lo_ s k - 1) (by omega)
      refine ⟨τ, ?_, hxe, ?_⟩
      · rw [if_neg (by rw [e1]; exact fun z => nI_pos (n := lo_ s k - 1) (by omega) (z ▸ (by decide : (-1 : Int32) < 0)))]
        unfold fx_Fitting_load_b25 fx_Fitting_load_b45
        rw [fx_Fitting_demand_t (by decide), px_cv, if_neg (by rw [hg]; decide), px_rd rfl hk (by decide), q3 k hk, e1, eτ, px_cv]
      · rw [ld_pos hk h0]
        exact hxr
  · refine ⟨tx_up σ 15 8 0, ?_, xe_15 σ 0 (Or.inr rfl), ?_⟩
    · rw [bad]
      by_cases h1 : a < 0
      · rw [if_pos h1]
      · rw [if_neg h1, if_pos (Classical.not_not.mp (fun z => ha ⟨h1, z⟩))]
    · rw [ld_neg]
      · exact xr_bad hx.1
      · rintro ⟨k, hk, rfl, -⟩
        exact ha ⟨nI_pos (by omega), by rw [show (3 : Int32) = nI 3 by decide]; exact nI_ge hk (by decide)⟩
theorem sv_cons {a : Int32} {t : Nat} {s : TS} {st : List Nat} (h : s.1 = t :: st) : sv a s = @ite _ (∃ k, k < 3 ∧ a = nI k) (Classical.propDecidable _) (some (ls_ (st, s.2) (N_ a) (t + 1))) none := by
  obtain ⟨x, l⟩ := s
  cases h
  rfl
theorem ls_st {s : TS} {k v : Nat} : (ls_ s k v).1 = s.1 := by
  unfold ls_
  split
  · rfl
  · split <;> rfl
theorem ls_ne {s : TS} {k v j : Nat} (hk : k < 3) (hj : j < 3) (h : j ≠ k) : lo_ (ls_ s k v) j = lo_ s j := by
  rcases (by omega : k = 0 ∨ k = 1 ∨ k = 2) with rfl | rfl | rfl <;> rcases (by omega : j = 0 ∨ j = 1 ∨ j = 2) with rfl | rfl | rfl <;> simp_all [lo_, ls_]
theorem xr_store {n : Nat} (hn10 : n ≤ 10) {s : TS} (hx : xr σ n (some s)) (a : Int32) : ∃ τ, fx_Fitting_store σ a = some τ ∧ xe σ τ ∧ xr τ n (sv a s) := by
  obtain ⟨r, τ, e, hxe, hxw, hcase⟩ := xr_takeAny hx hn10
  have bad : ∀ τ r, fx_Fitting_store_b19 τ a r = some (tx_up τ 15 8 0) := by
    intro τ r
    unfold fx_Fitting_store_b19 fx_Fitting_store_b20 fx_Fitting_store_b37
    rw [fx_Fitting_demand_f, px_cv, if_pos (by simp [px_up])]
  unfold fx_Fitting_store
  rw [e, px_ci]
  have h32 : ∀ x : Int32, (¬ x < 0 ∧ ¬ (3 : Int32) ≤ x) ↔ ∃ k, k < 3 ∧ x = nI k := fun x => px_in (x := x) (n := 3) (by decide)
  rcases hcase with ⟨rfl, hn, hnil⟩ | ⟨t, ht, rfl, hn, hs⟩
  · have hsv : sv a s = none := by
      have h := hnil s rfl
      obtain ⟨x, l⟩ := s
      cases h
      rfl
    rw [hsv]
    by_cases ha : ¬ a < 0 ∧ ¬ (3 : Int32) ≤ a
    · refine ⟨τ, ?_, hxe, hn⟩
      rw [if_neg ha.1, if_neg ha.2]
      unfold fx_Fitting_store_b20 fx_Fitting_store_b37
      rw [fx_Fitting_demand_t (by decide), px_cv, if_pos (hn.2.1 rfl)]
    · refine ⟨tx_up τ 15 8 0, ?_, xe_tr hxe (xe_15 τ 0 (Or.inr rfl)), xr_bad hxw⟩
      rw [bad]
      by_cases h1 : a < 0
      · rw [if_pos h1]
      · rw [if_neg h1, if_pos (Classical.not_not.mp (fun z => ha ⟨h1, z⟩))]
  · obtain ⟨st, hst, hxr⟩ := hs s rfl
    rw [sv_cons hst]
    obtain ⟨hg, hok, q1, q2, q3⟩ := hxr.2.2 _ rfl
    by_cases ha : ¬ a < 0 ∧ ¬ (3 : Int32) ≤ a
    · obtain ⟨k, hk, rfl⟩ := (h32 a).mp ha
      refine ⟨tx_up τ 18 k (nI t), ?_, xe_tr hxe (xe_17 τ _ (Or.inr rfl)), ?_⟩
      · rw [if_neg ha.1, if_neg ha.2]
        unfold fx_Fitting_store_b20 fx_Fitting_store_b37
        rw [fx_Fitting_demand_t (by decide), px_cv, if_neg (by rw [hg]; decide), px_wr rfl hk (by decide)]
      · rw [if_pos ⟨k, hk, rfl⟩, N_nI (by omega)]
        obtain ⟨d, hd, w1, w2, w3⟩ := hxw
        refine ⟨⟨d, hd, by simp [px_up]; exact w1, fun j hj => ?_, fun j hj => ?_⟩, (fun z => by cases z), fun s2 h2 => ?_⟩
        · obtain ⟨u, hu, eu⟩ := w2 j hj
          exact ⟨u, hu, by simp [px_up]; exact eu⟩
        · by_cases h : j = k
          · subst h
            exact ⟨t + 1, by omega, by simp [px_up, nI_pred]⟩
          · obtain ⟨v, hv, ev⟩ := w3 j hj
            exact ⟨v, hv, by simp [px_up, h]; exact ev⟩
        · cases h2
          refine ⟨by simp [px_up]; exact hg, ls_ok (by omega) hok, by rw [ls_st]; simp [px_up]; exact q1, fun j hj => ?_, fun j hj => ?_⟩
          · rw [ls_st] at hj ⊢
            have := q2 j hj
            simp [px_up]
            simpa using this
          · by_cases h : j = k
            · subst h
              rw [ls_lo hj, nI_pred]
              simp [px_up]
            · rw [ls_ne hk hj h]
              have := q3 j hj
              simp [px_up, h]
              exact this
    · refine ⟨tx_up τ 15 8 0, ?_, xe_tr hxe (xe_15 τ 0 (Or.inr rfl)), ?_⟩
      · rw [bad]
        by_cases h1 : a < 0
        · rw [if_pos h1]
        · rw [if_neg h1, if_pos (Classical.not_not.mp (fun z => ha ⟨h1, z⟩))]
      · rw [if_neg (fun z => ha ((h32 a).mpr z))]
        exact xr_bad hxw
end XU
