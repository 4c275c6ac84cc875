/-! The packaged judgement: gx says of a frame, with the whole world at the numbers σ, that its method returns T.1 and leaves the world at T.2. -/
abbrev tx_St : Type := Nat → Nat → Int32
abbrev tx_E : Type := (Nat → Nat) × va_G × ClassId × ClassId × ClassId
abbrev tx_M : Type := String × ByteArray × Nat × Option FieldType × Room
abbrev tx_R : Type := Option Value × tx_St
def tx_sh (k : Nat) : Nat × Nat × List (Option Nat) := tx_shl.getD k (0, 0, [])
def tx_fv (E : tx_E) (σ : tx_St) (k j : Nat) : Option Nat → Value
  | none => .int (σ k j)
  | some q => .ref (E.1 q)
def tx_fs (E : tx_E) (σ : tx_St) (k : Nat) (fs : List (Option Nat)) : List Value := fs.mapIdx (fun j f => tx_fv E σ k j f)
def tx_cell (E : tx_E) (σ : tx_St) (k : Nat) : va_E := match tx_sh k with
  | (0, n, _) => .inl (E.2.2.1, n, .inl (σ k))
  | (1, n, _) => .inl (E.2.2.2.1, n, .inl (σ k))
  | (2, n, fs) => .inl (E.2.2.2.2, n, .inr (.inr (.inr (.inr (fun j => (fs.getD j none).map E.1)))))
  | (c + 3, _, fs) => .inr (c, tx_fs E σ k fs)
def tx_w (E : tx_E) (σ : tx_St) : va_W := (List.range 69).map (fun k => (E.1 k, tx_cell E σ k))
def tx_up (σ : tx_St) (k j : Nat) (x : Int32) : tx_St := fun c => if c = k then upd (σ k) j x else σ c
def tx_ty (E : tx_E) : List (ClassId × FieldType) := [(E.2.2.1, .int), (E.2.2.2.1, .boolean), (E.2.2.2.2, .object tx_Fr)]
def tx_J (E : tx_E) : Prop := ∀ i j, i < 69 → j < 69 → E.1 i = E.1 j → i = j
def tx_A (E : tx_E) : Nat → Prop := fun q => ∃ k, k < 69 ∧ q = E.1 k
theorem tx_up_at (σ : tx_St) (k j : Nat) (x : Int32) : tx_up σ k j x k = upd (σ k) j x := by simp [tx_up]
theorem tx_up_ne (σ : tx_St) {k c : Nat} (j : Nat) (x : Int32) (h : c ≠ k) : tx_up σ k j x c = σ c := by simp [tx_up, h]
theorem tx_w_at (E : tx_E) (σ : tx_St) {k : Nat} (hk : k < 69) : (tx_w E σ)[k]? = some (E.1 k, tx_cell E σ k) := by
  simp [tx_w, List.getElem?_map, List.getElem?_range hk]
theorem tx_w_len (E : tx_E) (σ : tx_St) : (tx_w E σ).length = 69 := by simp [tx_w]
theorem tx_fs_congr {E : tx_E} {σ σ' : tx_St} {k : Nat} {fs : List (Option Nat)} (h : σ' k = σ k) : tx_fs E σ' k fs = tx_fs E σ k fs := by
  unfold tx_fs
  congr 1
  funext j f
  cases f <;> simp [tx_fv, h]
theorem tx_cell_congr {E : tx_E} {σ σ' : tx_St} {k : Nat} (h : σ' k = σ k) : tx_cell E σ' k = tx_cell E σ k := by
  unfold tx_cell
  rw [h]
  split <;> first | rfl | rw [tx_fs_congr h]
theorem tx_w_set {E : tx_E} {σ σ' : tx_St} {k : Nat} {e : va_E} (hk : k < 69) (h : ∀ j, j ≠ k → σ' j = σ j) (he : e = tx_cell E σ' k) : (tx_w E σ).set k (E.1 k, e) = tx_w E σ' := by
  apply List.ext_getElem?
  intro i
  by_cases hi : i = k
  · subst hi
    rw [List.getElem?_set_self (by rw [tx_w_len]; exact hk), tx_w_at E σ' hk, he]
  · rw [List.getElem?_set_ne (Ne.symm hi)]
    by_cases hl : i < 69
    · rw [tx_w_at E σ hl, tx_w_at E σ' hl, tx_cell_congr (h i hi)]
    · rw [List.getElem?_eq_none (by rw [tx_w_len]; omega), List.getElem?_eq_none (by rw [tx_w_len]; omega)]
theorem tx_D {E : tx_E} (h : tx_J E) (σ : tx_St) : va_D (tx_A E) (tx_w E σ) := by
  have key : ∀ (k : Nat) (q : Nat × va_E), (tx_w E σ)[k]? = some q → k < 69 ∧ q.1 = E.1 k := by
    intro k q hk
    have hl : k < 69 := by
      have := (List.getElem?_eq_some_iff.mp hk).1
      rw [tx_w_len] at this
      exact this
    rw [tx_w_at E σ hl] at hk
    cases hk
    exact ⟨hl, rfl⟩
  refine ⟨fun i j p q hi hj hpq => ?_, fun k q hk => ?_⟩
  · obtain ⟨h1, h2⟩ := key i p hi
    obtain ⟨h3, h4⟩ := key j q hj
    exact h i j h1 h3 (h2.symm.trans (hpq.trans h4))
  · obtain ⟨h1, h2⟩ := key k q hk
    exact ⟨k, h1, h2⟩
theorem tx_fs_get {E : tx_E} {σ : tx_St} {k j : Nat} {fs : List (Option Nat)} {f : Option Nat} (h : fs[j]? = some f) : (tx_fs E σ k fs)[j]? = some (tx_fv E σ k j f) := by
  simp [tx_fs, List.getElem?_mapIdx, h]
theorem tx_fs_set {E : tx_E} {σ : tx_St} {k j : Nat} {fs : List (Option Nat)} {x : Int32} (h : fs[j]? = some none) : (tx_fs E σ k fs).set j (.int x) = tx_fs E (tx_up σ k j x) k fs := by
  have hl := (List.getElem?_eq_some_iff.mp h).1
  apply List.ext_getElem?
  intro i
  by_cases hi : i = j
  · subst hi
    rw [List.getElem?_set_self (by simpa [tx_fs] using hl), tx_fs_get h]
    simp [upd, tx_fv, tx_up_at]
  · rw [List.getElem?_set_ne (Ne.symm hi)]
    cases hf : fs[i]? with
    | none => simp [tx_fs, List.getElem?_mapIdx, hf]
    | some f =>
      rw [tx_fs_get hf, tx_fs_get hf]
      cases f <;> simp [upd, hi, tx_fv, tx_up_at]
/-- what a method's walk may lean on -/
def tx_Cx (E : tx_E) (M : tx_M) (p : Program) (s : State) (m : MethodId) (args : Array Value) (meth : Method) (c : Code) : Prop :=
  p.tables.exec = Jvm.exec ∧ c.code = M.2.1 ∧ c.maxLocals = M.2.2.1 ∧ s.vm.findClass M.1 = some m.cls ∧ (∀ w ∈ tx_ws, w.before args s = true) ∧ va_K E.2.1 tx_cl (tx_ty E) s ∧ meth.sig.returnType = M.2.2.2.1 ∧ meth.locks = false ∧ tx_J E
def tx_Q (E : tx_E) (T : tx_R) : Array Value → State → Outcome → State → Prop := fun _ st oc t =>
  oc = .returned T.1 ∧ va_P E.2.1 tx_cl (tx_w E T.2) t.heap ∧ va_K E.2.1 tx_cl (tx_ty E) t ∧ va_F (tx_A E) st t
def gx (l : Launch) (E : tx_E) (M : tx_M) (T : tx_R) (σ : tx_St) (L : List (Nat × Value)) (pc : Nat) (st : List Value) : Prop :=
  ∀ (p : Program) (e : Env) (s : State) (m : MethodId) (args : Array Value) (below : List Frame) (meth : Method) (c : Code), tx_Cx E M p s m args meth c →
    ∀ (H : Heap) (locs : List Loc) (ls : Array Slot), va_P E.2.1 tx_cl (tx_w E σ) H → va_S (tx_A E) s.heap H locs → lv_has ls M.2.2.1 L →
      W p l e M.2.2.2.2 s m args below meth c H locs 0 0 (MQ below (tx_Q E T) args s 0 0 (tx_A E)) (F0 m pc ls st)
/-- a method's contract: from the world at σ, with these arguments, it answers T.1 and leaves the world at T.2 -/
def tx_MX (l : Launch) (E : tx_E) (y : MethodName) (M : tx_M) (T : tx_R) (av : List Value) (σ : tx_St) : Prop :=
  Met l y (Cond.code y M.2.1 M.2.2.1 M.2.2.2.1 :: tx_ws) M.2.2.2.2 (va_Pc av (fun U => tx_J E ∧ va_P E.2.1 tx_cl (tx_w E σ) U.heap ∧ va_K E.2.1 tx_cl (tx_ty E) U)) (tx_Q E T) 0 0 (tx_A E)
theorem tx_MX_of {l : Launch} {E : tx_E} {y : MethodName} {M : tx_M} {T : tx_R} {av : List Value} {σ : tx_St} (hy : plainName y.cls = true) (ho : M.1 = y.cls) (hlen : (lg_sl av).length ≤ M.2.2.1) (h : gx l E M T σ (lv_args 0 av) 0 []) : tx_MX l E y M T av σ := by
  refine Met.ofW (cc := M.2.1) (maxL := M.2.2.1) (ret := M.2.2.2.1) hy rfl ?_
  intro p e s m args below meth c s₁ B hml hv
  obtain ⟨rfl, hJ, hP, hK⟩ := hv
  rw [lg_entry_eq]
  exact h p e s m _ below meth c ⟨B.exec, B.bytes, hml, by rw [ho]; exact findClass_of_methodNamed B.named, fun w hw => atoms_spec B.pre w (List.mem_cons_of_mem _ hw), hK, B.returns, B.notSynchronized, hJ⟩ s.heap [] _ hP va_S.rf (lv_entry av hlen)
