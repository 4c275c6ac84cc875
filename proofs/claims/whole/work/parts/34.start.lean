theorem tw_1_12 : Jvm.Cond.classLink "TamedClassSetLaw" (7 : Nat) "TamedClassSet" ∈ tx_ws := List.mem_filter.mpr ⟨List.mem_append_right _ (List.mem_append_left _ (List.mem_of_getElem? (i := 12) rfl)), rfl⟩
theorem tw_1_13 : Jvm.Cond.instantiable "TamedClassSet" (8 : Nat) ∈ tx_ws := List.mem_filter.mpr ⟨List.mem_append_right _ (List.mem_append_left _ (List.mem_of_getElem? (i := 13) rfl)), rfl⟩
theorem tw_1_14 : Jvm.Cond.methodLink "TamedClassSetLaw" (9 : Nat) ({ cls := "TamedClassSet", name := "<init>", desc := "()V" } : Jvm.MethodName) ∈ tx_ws := List.mem_filter.mpr ⟨List.mem_append_right _ (List.mem_append_left _ (List.mem_of_getElem? (i := 14) rfl)), rfl⟩
theorem tw_3_155 : Jvm.Cond.classLink "TamedClassSetLaw" (10 : Nat) "TamedClassSetModel" ∈ tx_ws := List.mem_filter.mpr ⟨List.mem_append_right _ (List.mem_append_right _ (List.mem_append_right _ (List.mem_append_left _ (List.mem_of_getElem? (i := 155) rfl)))), rfl⟩
theorem tw_3_156 : Jvm.Cond.instantiable "TamedClassSetModel" (35 : Nat) ∈ tx_ws := List.mem_filter.mpr ⟨List.mem_append_right _ (List.mem_append_right _ (List.mem_append_right _ (List.mem_append_left _ (List.mem_of_getElem? (i := 156) rfl)))), rfl⟩
theorem tw_3_157 : Jvm.Cond.methodLink "TamedClassSetLaw" (12 : Nat) ({ cls := "TamedClassSetModel", name := "<init>", desc := "()V" } : Jvm.MethodName) ∈ tx_ws := List.mem_filter.mpr ⟨List.mem_append_right _ (List.mem_append_right _ (List.mem_append_right _ (List.mem_append_left _ (List.mem_of_getElem? (i := 157) rfl)))), rfl⟩
theorem d_law_0 : decode code 0 = .ok (.new 7, 3) := by decide +kernel
theorem d_law_3 : decode code 3 = .ok (.dup, 1) := by decide +kernel
theorem d_law_4 : decode code 4 = .ok (.invokespecial 9, 3) := by decide +kernel
theorem d_law_7 : decode code 7 = .ok (.astore_n 1, 1) := by decide +kernel
theorem d_law_8 : decode code 8 = .ok (.new 10, 3) := by decide +kernel
theorem d_law_11 : decode code 11 = .ok (.dup, 1) := by decide +kernel
theorem d_law_12 : decode code 12 = .ok (.invokespecial 12, 3) := by decide +kernel
theorem d_law_15 : decode code 15 = .ok (.astore_n 2, 1) := by decide +kernel
/-- the numbers at the start -/
def sg0 : tx_St := fun k => if k = 0 then upd (fun _ => 0) 7 (-1) else if k = 22 then upd (fun _ => 0) 0 (-1) else if k = 45 then upd (fun _ => 0) 26 (-1) else fun _ => 0
theorem tl_callW {p : Program} {l : Launch} {e : Env} {R : Room} {s : State} {m : MethodId} {args : Array Value} {below : List Frame} {meth : Method} {c : Code} {H : Heap} {locs : List Loc} {cells slots : Nat} {Q : State → Prop} {E : tx_E} {cc : ByteArray} {nL : Nat} {own : String} {idx n q mc1 ms1 pc : Nat} {y : MethodName} {My : tx_M} {As rest : List Value} {wr : va_W} {e0 : va_E} {Ty : va_W → Prop} {A : Nat → Prop} {ls : Array Slot}
    (hx : p.tables.exec = Jvm.exec) (hb : c.code = cc) (hml : c.maxLocals = nL) (hown : s.vm.findClass own = some m.cls) (hts : ∀ w ∈ tx_ws, w.before args s = true) (hK : va_K E.2.1 tx_cl (tx_ty E) s) (hX : tc_X s) (cm : tc_CM y My n) (lk : Cond.methodLink own idx y ∈ tx_ws) (hM : tc_MC l E y My As q e0 mc1 ms1 Ty) (hP : va_P E.2.1 tx_cl (wr ++ [(q, e0)]) H) (hD : va_D A (wr ++ [(q, e0)])) (hS : va_S A s.heap H locs) (hA : ∀ q, s.heap.size ≤ q → A q) (hn : As.length = n) (f1 : My.2.2.2.2.cells = mc1) (f2 : My.2.2.2.2.slots = ms1) (f3 : My.2.2.2.2.frames + 1 ≤ R.frames) (f4 : 8 + (My.2.2.1 + 11) + My.2.2.2.2.locals ≤ R.locals) (hW : (rest.map fun v => v.category).sum ≤ 8) (hcells : cells + mc1 ≤ R.cells) (hslots : slots + ms1 ≤ R.slots) (hsz : ls.size = nL) (hd : decode cc pc = .ok (.invokespecial idx, 3))
    (kk : ∀ (w1 : va_W) (H1 : Heap) (locs1 : List Loc), Ty w1 → va_P E.2.1 tx_cl (wr ++ w1) H1 → va_D A (wr ++ w1) → va_S A s.heap H1 locs1 → W p l e R s m args below meth c H1 locs1 (cells + mc1) (slots + ms1) Q (F0 m (pc + 3) ls rest)) : W p l e R s m args below meth c H locs cells slots Q (F0 m pc ls (As.reverse ++ .ref q :: rest)) := by
  obtain ⟨⟨hcl, hcode, hini, hd1, hd2, hpn⟩, hinst, hnm, hr0⟩ := cm
  have last : (wr ++ [(q, e0)])[wr.length]? = some (q, e0) := by simp
  have hFc : ∀ x, va_A [(q, e0)] H.size x → A x := by
    intro x h
    rcases h with ⟨k2, e1, h⟩ | h
    · have h2 := (List.getElem?_eq_some_iff.mp h).1
      simp only [List.length_cons, List.length_nil] at h2
      have : k2 = 0 := by omega
      subst this
      simp only [List.getElem?_cons_zero, Option.some.injEq, Prod.mk.injEq] at h
      rw [← h.1]
      exact hD.2 wr.length (q, e0) last
    · exact hA x (Nat.le_trans hS.1 h)
  have hPc : va_P E.2.1 tx_cl [(q, e0)] H := by
    intro k x hx
    have h2 := (List.getElem?_eq_some_iff.mp hx).1
    simp only [List.length_cons, List.length_nil] at h2
    have : k = 0 := by omega
    subst this
    simp only [List.getElem?_cons_zero, Option.some.injEq] at hx
    exact hx ▸ hP wr.length (q, e0) last
  have hpre : PreS s H (va_Pc (.ref q :: As) (fun U => U.heap.size = H.size ∧ va_P E.2.1 tx_cl [(q, e0)] U.heap ∧ va_K E.2.1 tx_cl (tx_ty E) U ∧ tc_X U)) (.ref q :: As) :=
    ⟨tc_blind, fun U hU hW => ⟨rfl, by rw [hU], by rw [hU]; exact hPc, va_K.moved hW.alike hK, hX.warm hW⟩⟩
  obtain ⟨Mo, Mb, Mn, Mr, MR⟩ := My
  dsimp only at *
  subst hr0
  have hr := va_runI (As := As) (rest := rest) (g := F0 m pc ls (As.reverse ++ .ref q :: rest)) (locs := locs) (cells := cells) (slots := slots) (e := e) (below := below) (meth := meth) ⟨hx, hb, hml, hown, hts⟩ (hM H.size) ⟨callB_of (R := R) n hts (tx_good tx_ws_good hcode) rfl f1 f2 (hts _ hini) (hts _ lk) ⟨hd1, hd2, hpn⟩ ⟨f3, f4⟩, hnm, hts _ hinst⟩ hpre rfl hn hsz rfl (lv_room hW) hd ⟨hcells, hslots⟩
  intro T hT X
  obtain ⟨v, st₀, t, T', L1, h0, X', hL1, e1, e2, ⟨hv, ⟨w1, hw1, hP1, hD1⟩, hz, hk⟩, sp⟩ := hr T hT X
  cases hv
  rw [h0] at hz hk
  rw [← e1] at hP1 hz
  have hk' : ∀ x : Nat, x < H.size → ¬ va_A [(q, e0)] H.size x → T'.heap[x]? = H[x]? := fun x h1 h2 => by rw [e1]; exact hk x h1 h2
  obtain ⟨hP2, hD2⟩ := tc_join hP hD hk' hFc hP1 hD1
  obtain ⟨t2, a1, b1⟩ := kk w1 T'.heap (locs ++ L1) hw1 hP2 hD2
    ⟨Nat.le_trans hS.1 hz, fun x h1 h2 => (hk' x (Nat.lt_of_lt_of_le h1 hS.1) (fun z => h2 (hFc x z))).trans (hS.2.1 x h1 h2), fun x hx => by
      rcases List.mem_append.mp hx with h | h
      · exact hS.2.2 x h
      · exact hFc _ (hL1 x h)⟩ T' rfl X'
  exact ⟨t2, sp t2 a1, b1⟩
/-- the classes and array classes of the tables -/
theorem tl_known {s : State} {b : Nat} (hts : ∀ w ∈ tx_ws, w.before #[Value.ref b] s = true) (hO : va_AO R_Frame s) : ∃ (D : va_G) (cI cZ cF : ClassId), ∀ f : Nat → Nat, va_K D tx_cl (tx_ty (f, D, cI, cZ, cF)) s := by
  obtain ⟨c0, i0, k0⟩ := u_known (C := R_X) (T := F_X) (N := 8) hts in_X (hts _ tw_1_13)
  obtain ⟨c1, i1, k1⟩ := u_known (C := R_Plan) (T := F_Plan) (N := 16) hts in_Plan (hts _ tw_1_21)
  obtain ⟨c2, i2, k2⟩ := u_known (C := R_Fitting) (T := F_Fitting) (N := 9) hts in_Fitting (hts _ tw_1_109)
  obtain ⟨c3, i3, k3⟩ := u_known (C := R_Rules) (T := F_Rules) (N := 2) hts in_Rules (hts _ tw_1_144)
  obtain ⟨c4, i4, k4⟩ := u_known (C := R_Heap) (T := F_Heap) (N := 5) hts in_Heap (hts _ tw_1_157)
  obtain ⟨c5, i5, k5⟩ := u_known (C := R_Machine) (T := F_Machine) (N := 7) hts in_Machine (hts _ tw_1_181)
  obtain ⟨c6, i6, k6⟩ := u_known (C := R_Frame) (T := F_Frame) (N := 5) hts in_Frame (hts _ tw_1_188)
  obtain ⟨c7, i7, k7⟩ := u_known (C := R_Mo) (T := F_Mo) (N := 35) hts in_Mo (hts _ tw_3_156)
  obtain ⟨cI, kI, oI, e1, e2, e3⟩ := Cond.arrayClass_spec (hts _ tw_1_107)
  obtain ⟨cZ, kZ, oZ, z1, z2, z3⟩ := Cond.arrayClass_spec (hts _ tw_4_27)
  obtain ⟨oF, cF, kF, f1, f2, f3, f4, f5⟩ := Cond.arrayOver_spec (va_AO.use (A := #[]) hO)
  refine ⟨(fun k => match k with | 0 => c0 | 1 => c1 | 2 => c2 | 3 => c3 | 4 => c4 | 5 => c5 | 6 => c6 | _ => c7, fun k => match k with | 0 => i0 | 1 => i1 | 2 => i2 | 3 => i3 | 4 => i4 | 5 => i5 | 6 => i6 | _ => i7), cI, cZ, cF, fun f => ⟨fun c q hc => ?_, fun k q hk => ?_⟩⟩
  · match c, hc with
    | 0, hc => cases hc; exact k0
    | 1, hc => cases hc; exact k1
    | 2, hc => cases hc; exact k2
    | 3, hc => cases hc; exact k3
    | 4, hc => cases hc; exact k4
    | 5, hc => cases hc; exact k5
    | 6, hc => cases hc; exact k6
    | 7, hc => cases hc; exact k7
    | n + 8, hc => simp [tx_cl] at hc
  · match k, hk with
    | 0, hk => cases hk; exact ⟨fun n z => ⟨fun k h => (by cases h), kI, e2, oI, e3⟩, e1⟩
    | 1, hk => cases hk; exact ⟨fun n z => ⟨fun k h => (by cases h), kZ, z2, oZ, z3⟩, z1⟩
    | 2, hk => cases hk; exact ⟨fun n z => ⟨fun k h => (by cases h), kF, f3, oF, f4⟩, kF, oF, f3, f4, f1, f5⟩
    | n + 3, hk => simp [tx_ty] at hk
theorem tl_chain (ad : Nat → Nat) : va_up (va_up (va_up (va_up (va_up (va_up (fun _ => none) 0 (some (ad 27))) 1 (some (ad 30))) 2 (some (ad 33))) 3 (some (ad 36))) 4 (some (ad 39))) 5 (some (ad 42)) = fun j => (tx_frs.getD j none).map ad := by
  funext j
  by_cases h : j < 6
  · rcases (by omega : j = 0 ∨ j = 1 ∨ j = 2 ∨ j = 3 ∨ j = 4 ∨ j = 5) with rfl | rfl | rfl | rfl | rfl | rfl <;> rfl
  · have h0 : ¬ j = 0 := by omega
    have h1 : ¬ j = 1 := by omega
    have h2 : ¬ j = 2 := by omega
    have h3 : ¬ j = 3 := by omega
    have h4 : ¬ j = 4 := by omega
    have h5 : ¬ j = 5 := by omega
    have hl : tx_frs.getD j none = none := by
      rw [List.getD_eq_getElem?_getD, List.getElem?_eq_none (by show 6 ≤ j; omega)]
      rfl
    rw [hl]
    simp [va_up, h0, h1, h2, h3, h4, h5]
theorem tl_c0 (ad : Nat → Nat) (D : va_G) (cI cZ cF : ClassId) : (.inr (0, [.ref (ad 1), .ref (ad 15), .ref (ad 20), .ref (ad 21), .ref (ad 25), .int (0 : Int32), .int (0 : Int32), .int (-1 : Int32)]) : va_E) = tx_cell (ad, D, cI, cZ, cF) sg0 0 := rfl
theorem tl_c1 (ad : Nat → Nat) (D : va_G) (cI cZ cF : ClassId) : (.inr (1, [.int 0, .int 0, .int 0, .ref (ad 2), .ref (ad 3), .ref (ad 4), .ref (ad 5), .ref (ad 6), .ref (ad 7), .ref (ad 8), .ref (ad 9), .ref (ad 10), .ref (ad 11), .ref (ad 12), .ref (ad 13), .ref (ad 14)]) : va_E) = tx_cell (ad, D, cI, cZ, cF) sg0 1 := rfl
theorem tl_c2 (ad : Nat → Nat) (D : va_G) (cI cZ cF : ClassId) : (.inl (cI, 8, .inl (fun _ => 0)) : va_E) = tx_cell (ad, D, cI, cZ, cF) sg0 2 := rfl
theorem tl_c3 (ad : Nat → Nat) (D : va_G) (cI cZ cF : ClassId) : (.inl (cI, 8, .inl (fun _ => 0)) : va_E) = tx_cell (ad, D, cI, cZ, cF) sg0 3 := rfl
theorem tl_c4 (ad : Nat → Nat) (D : va_G) (cI cZ cF : ClassId) : (.inl (cI, 12, .inl (fun _ => 0)) : va_E) = tx_cell (ad, D, cI, cZ, cF) sg0 4 := rfl
theorem tl_c5 (ad : Nat → Nat) (D : va_G) (cI cZ cF : ClassId) : (.inl (cI, 12, .inl (fun _ => 0)) : va_E) = tx_cell (ad, D, cI, cZ, cF) sg0 5 := rfl
theorem tl_c6 (ad : Nat → Nat) (D : va_G) (cI cZ cF : ClassId) : (.inl (cI, 12, .inl (fun _ => 0)) : va_E) = tx_cell (ad, D, cI, cZ, cF) sg0 6 := rfl
theorem tl_c7 (ad : Nat → Nat) (D : va_G) (cI cZ cF : ClassId) : (.inl (cI, 8, .inl (fun _ => 0)) : va_E) = tx_cell (ad, D, cI, cZ, cF) sg0 7 := rfl
theorem tl_c8 (ad : Nat → Nat) (D : va_G) (cI cZ cF : ClassId) : (.inl (cI, 8, .inl (fun _ => 0)) : va_E) = tx_cell (ad, D, cI, cZ, cF) sg0 8 := rfl
theorem tl_c9 (ad : Nat → Nat) (D : va_G) (cI cZ cF : ClassId) : (.inl (cI, 8, .inl (fun _ => 0)) : va_E) = tx_cell (ad, D, cI, cZ, cF) sg0 9 := rfl
theorem tl_c10 (ad : Nat → Nat) (D : va_G) (cI cZ cF : ClassId) : (.inl (cI, 8, .inl (fun _ => 0)) : va_E) = tx_cell (ad, D, cI, cZ, cF) sg0 10 := rfl
theorem tl_c11 (ad : Nat → Nat) (D : va_G) (cI cZ cF : ClassId) : (.inl (cI, 8, .inl (fun _ => 0)) : va_E) = tx_cell (ad, D, cI, cZ, cF) sg0 11 := rfl
theorem tl_c12 (ad : Nat → Nat) (D : va_G) (cI cZ cF : ClassId) : (.inl (cI, 8, .inl (fun _ => 0)) : va_E) = tx_cell (ad, D, cI, cZ, cF) sg0 12 := rfl
theorem tl_c13 (ad : Nat → Nat) (D : va_G) (cI cZ cF : ClassId) : (.inl (cI, 96, .inl (fun _ => 0)) : va_E) = tx_cell (ad, D, cI, cZ, cF) sg0 13 := rfl
theorem tl_c14 (ad : Nat → Nat) (D : va_G) (cI cZ cF : ClassId) : (.inl (cI, 96, .inl (fun _ => 0)) : va_E) = tx_cell (ad, D, cI, cZ, cF) sg0 14 := rfl
theorem tl_c15 (ad : Nat → Nat) (D : va_G) (cI cZ cF : ClassId) : (.inr (2, [.ref (ad 16), .ref (ad 1), .ref (ad 17), .ref (ad 18), .ref (ad 19), .int 0, .int 0, .int 0, .int 0]) : va_E) = tx_cell (ad, D, cI, cZ, cF) sg0 15 := rfl
theorem tl_c16 (ad : Nat → Nat) (D : va_G) (cI cZ cF : ClassId) : (.inl (cI, 96, .inl (fun _ => 0)) : va_E) = tx_cell (ad, D, cI, cZ, cF) sg0 16 := rfl
theorem tl_c17 (ad : Nat → Nat) (D : va_G) (cI cZ cF : ClassId) : (.inl (cI, 4, .inl (fun _ => 0)) : va_E) = tx_cell (ad, D, cI, cZ, cF) sg0 17 := rfl
theorem tl_c18 (ad : Nat → Nat) (D : va_G) (cI cZ cF : ClassId) : (.inl (cI, 3, .inl (fun _ => 0)) : va_E) = tx_cell (ad, D, cI, cZ, cF) sg0 18 := rfl
theorem tl_c19 (ad : Nat → Nat) (D : va_G) (cI cZ cF : ClassId) : (.inl (cI, 12, .inl (fun _ => 0)) : va_E) = tx_cell (ad, D, cI, cZ, cF) sg0 19 := rfl
theorem tl_c20 (ad : Nat → Nat) (D : va_G) (cI cZ cF : ClassId) : (.inr (3, [.ref (ad 1), .ref (ad 15)]) : va_E) = tx_cell (ad, D, cI, cZ, cF) sg0 20 := rfl
theorem tl_c21 (ad : Nat → Nat) (D : va_G) (cI cZ cF : ClassId) : (.inr (4, [.ref (ad 22), .ref (ad 23), .ref (ad 24), .int 0, .int 0]) : va_E) = tx_cell (ad, D, cI, cZ, cF) sg0 21 := rfl
theorem tl_c22 (ad : Nat → Nat) (D : va_G) (cI cZ cF : ClassId) : (.inl (cI, 321, .inl (upd (fun _ => 0) 0 (-1 : Int32))) : va_E) = tx_cell (ad, D, cI, cZ, cF) sg0 22 := rfl
theorem tl_c23 (ad : Nat → Nat) (D : va_G) (cI cZ cF : ClassId) : (.inl (cI, 1284, .inl (fun _ => 0)) : va_E) = tx_cell (ad, D, cI, cZ, cF) sg0 23 := rfl
theorem tl_c24 (ad : Nat → Nat) (D : va_G) (cI cZ cF : ClassId) : (.inl (cI, 16, .inl (fun _ => 0)) : va_E) = tx_cell (ad, D, cI, cZ, cF) sg0 24 := rfl
theorem tl_c25 (ad : Nat → Nat) (D : va_G) (cI cZ cF : ClassId) : (.inr (5, [.int 0, .int 0, .ref (ad 1), .ref (ad 21), .ref (ad 26), .int 0, .int 0]) : va_E) = tx_cell (ad, D, cI, cZ, cF) sg0 25 := rfl
theorem tl_c26 (ad : Nat → Nat) (D : va_G) (cI cZ cF : ClassId) : (.inl (cF, 6, .inr (.inr (.inr (.inr (va_up (va_up (va_up (va_up (va_up (va_up (fun _ => none) 0 (some (ad 27))) 1 (some (ad 30))) 2 (some (ad 33))) 3 (some (ad 36))) 4 (some (ad 39))) 5 (some (ad 42))))))) : va_E) = tx_cell (ad, D, cI, cZ, cF) sg0 26 := by rw [tl_chain]; rfl
theorem tl_c27 (ad : Nat → Nat) (D : va_G) (cI cZ cF : ClassId) : (.inr (6, [.int 0, .int 0, .ref (ad 28), .ref (ad 29), .int 0]) : va_E) = tx_cell (ad, D, cI, cZ, cF) sg0 27 := rfl
theorem tl_c28 (ad : Nat → Nat) (D : va_G) (cI cZ cF : ClassId) : (.inl (cI, 3, .inl (fun _ => 0)) : va_E) = tx_cell (ad, D, cI, cZ, cF) sg0 28 := rfl
theorem tl_c29 (ad : Nat → Nat) (D : va_G) (cI cZ cF : ClassId) : (.inl (cI, 4, .inl (fun _ => 0)) : va_E) = tx_cell (ad, D, cI, cZ, cF) sg0 29 := rfl
theorem tl_c30 (ad : Nat → Nat) (D : va_G) (cI cZ cF : ClassId) : (.inr (6, [.int 0, .int 0, .ref (ad 31), .ref (ad 32), .int 0]) : va_E) = tx_cell (ad, D, cI, cZ, cF) sg0 30 := rfl
theorem tl_c31 (ad : Nat → Nat) (D : va_G) (cI cZ cF : ClassId) : (.inl (cI, 3, .inl (fun _ => 0)) : va_E) = tx_cell (ad, D, cI, cZ, cF) sg0 31 := rfl
theorem tl_c32 (ad : Nat → Nat) (D : va_G) (cI cZ cF : ClassId) : (.inl (cI, 4, .inl (fun _ => 0)) : va_E) = tx_cell (ad, D, cI, cZ, cF) sg0 32 := rfl
theorem tl_c33 (ad : Nat → Nat) (D : va_G) (cI cZ cF : ClassId) : (.inr (6, [.int 0, .int 0, .ref (ad 34), .ref (ad 35), .int 0]) : va_E) = tx_cell (ad, D, cI, cZ, cF) sg0 33 := rfl
theorem tl_c34 (ad : Nat → Nat) (D : va_G) (cI cZ cF : ClassId) : (.inl (cI, 3, .inl (fun _ => 0)) : va_E) = tx_cell (ad, D, cI, cZ, cF) sg0 34 := rfl
theorem tl_c35 (ad : Nat → Nat) (D : va_G) (cI cZ cF : ClassId) : (.inl (cI, 4, .inl (fun _ => 0)) : va_E) = tx_cell (ad, D, cI, cZ, cF) sg0 35 := rfl
theorem tl_c36 (ad : Nat → Nat) (D : va_G) (cI cZ cF : ClassId) : (.inr (6, [.int 0, .int 0, .ref (ad 37), .ref (ad 38), .int 0]) : va_E) = tx_cell (ad, D, cI, cZ, cF) sg0 36 := rfl
theorem tl_c37 (ad : Nat → Nat) (D : va_G) (cI cZ cF : ClassId) : (.inl (cI, 3, .inl (fun _ => 0)) : va_E) = tx_cell (ad, D, cI, cZ, cF) sg0 37 := rfl
theorem tl_c38 (ad : Nat → Nat) (D : va_G) (cI cZ cF : ClassId) : (.inl (cI, 4, .inl (fun _ => 0)) : va_E) = tx_cell (ad, D, cI, cZ, cF) sg0 38 := rfl
theorem tl_c39 (ad : Nat → Nat) (D : va_G) (cI cZ cF : ClassId) : (.inr (6, [.int 0, .int 0, .ref (ad 40), .ref (ad 41), .int 0]) : va_E) = tx_cell (ad, D, cI, cZ, cF) sg0 39 := rfl
theorem tl_c40 (ad : Nat → Nat) (D : va_G) (cI cZ cF : ClassId) : (.inl (cI, 3, .inl (fun _ => 0)) : va_E) = tx_cell (ad, D, cI, cZ, cF) sg0 40 := rfl
theorem tl_c41 (ad : Nat → Nat) (D : va_G) (cI cZ cF : ClassId) : (.inl (cI, 4, .inl (fun _ => 0)) : va_E) = tx_cell (ad, D, cI, cZ, cF) sg0 41 := rfl
theorem tl_c42 (ad : Nat → Nat) (D : va_G) (cI cZ cF : ClassId) : (.inr (6, [.int 0, .int 0, .ref (ad 43), .ref (ad 44), .int 0]) : va_E) = tx_cell (ad, D, cI, cZ, cF) sg0 42 := rfl
theorem tl_c43 (ad : Nat → Nat) (D : va_G) (cI cZ cF : ClassId) : (.inl (cI, 3, .inl (fun _ => 0)) : va_E) = tx_cell (ad, D, cI, cZ, cF) sg0 43 := rfl
theorem tl_c44 (ad : Nat → Nat) (D : va_G) (cI cZ cF : ClassId) : (.inl (cI, 4, .inl (fun _ => 0)) : va_E) = tx_cell (ad, D, cI, cZ, cF) sg0 44 := rfl
theorem tl_c45 (ad : Nat → Nat) (D : va_G) (cI cZ cF : ClassId) : (.inr (7, (.int 0 :: .ref (ad 46) :: .ref (ad 47) :: .int 0 :: .ref (ad 48) :: .ref (ad 49) :: .ref (ad 50) :: .int 0 :: .ref (ad 51) :: .ref (ad 52) :: .ref (ad 53) :: .ref (ad 54) :: .ref (ad 55) :: .ref (ad 56) :: .ref (ad 57) :: .ref (ad 58) :: .int 0 :: .ref (ad 59) :: .ref (ad 60) :: .int 0 :: .int 0 :: .ref (ad 61) :: .ref (ad 62) :: .int 0 :: .ref (ad 63) :: .int 0 :: .int (-1 : Int32) :: .int 0 :: .int 0 :: .ref (ad 64) :: .ref (ad 65) :: .ref (ad 66) :: .ref (ad 67) :: .ref (ad 68) :: .int 0 :: [])) : va_E) = tx_cell (ad, D, cI, cZ, cF) sg0 45 := by
  rw [tx_cell_o (ci := 7) (N := 35) (fs := none :: some 46 :: some 47 :: none :: some 48 :: some 49 :: some 50 :: none :: some 51 :: some 52 :: some 53 :: some 54 :: some 55 :: some 56 :: some 57 :: some 58 :: none :: some 59 :: some 60 :: none :: none :: some 61 :: some 62 :: none :: some 63 :: none :: none :: none :: none :: some 64 :: some 65 :: some 66 :: some 67 :: some 68 :: none :: []) rfl]
  simp [tx_fs, tx_fv, sg0, upd]
theorem tl_c46 (ad : Nat → Nat) (D : va_G) (cI cZ cF : ClassId) : (.inl (cI, 8, .inl (fun _ => 0)) : va_E) = tx_cell (ad, D, cI, cZ, cF) sg0 46 := rfl
theorem tl_c47 (ad : Nat → Nat) (D : va_G) (cI cZ cF : ClassId) : (.inl (cI, 8, .inl (fun _ => 0)) : va_E) = tx_cell (ad, D, cI, cZ, cF) sg0 47 := rfl
theorem tl_c48 (ad : Nat → Nat) (D : va_G) (cI cZ cF : ClassId) : (.inl (cI, 12, .inl (fun _ => 0)) : va_E) = tx_cell (ad, D, cI, cZ, cF) sg0 48 := rfl
theorem tl_c49 (ad : Nat → Nat) (D : va_G) (cI cZ cF : ClassId) : (.inl (cI, 12, .inl (fun _ => 0)) : va_E) = tx_cell (ad, D, cI, cZ, cF) sg0 49 := rfl
theorem tl_c50 (ad : Nat → Nat) (D : va_G) (cI cZ cF : ClassId) : (.inl (cI, 12, .inl (fun _ => 0)) : va_E) = tx_cell (ad, D, cI, cZ, cF) sg0 50 := rfl
theorem tl_c51 (ad : Nat → Nat) (D : va_G) (cI cZ cF : ClassId) : (.inl (cI, 8, .inl (fun _ => 0)) : va_E) = tx_cell (ad, D, cI, cZ, cF) sg0 51 := rfl
theorem tl_c52 (ad : Nat → Nat) (D : va_G) (cI cZ cF : ClassId) : (.inl (cI, 8, .inl (fun _ => 0)) : va_E) = tx_cell (ad, D, cI, cZ, cF) sg0 52 := rfl
theorem tl_c53 (ad : Nat → Nat) (D : va_G) (cI cZ cF : ClassId) : (.inl (cI, 8, .inl (fun _ => 0)) : va_E) = tx_cell (ad, D, cI, cZ, cF) sg0 53 := rfl
theorem tl_c54 (ad : Nat → Nat) (D : va_G) (cI cZ cF : ClassId) : (.inl (cI, 8, .inl (fun _ => 0)) : va_E) = tx_cell (ad, D, cI, cZ, cF) sg0 54 := rfl
theorem tl_c55 (ad : Nat → Nat) (D : va_G) (cI cZ cF : ClassId) : (.inl (cI, 8, .inl (fun _ => 0)) : va_E) = tx_cell (ad, D, cI, cZ, cF) sg0 55 := rfl
theorem tl_c56 (ad : Nat → Nat) (D : va_G) (cI cZ cF : ClassId) : (.inl (cI, 8, .inl (fun _ => 0)) : va_E) = tx_cell (ad, D, cI, cZ, cF) sg0 56 := rfl
theorem tl_c57 (ad : Nat → Nat) (D : va_G) (cI cZ cF : ClassId) : (.inl (cI, 96, .inl (fun _ => 0)) : va_E) = tx_cell (ad, D, cI, cZ, cF) sg0 57 := rfl
theorem tl_c58 (ad : Nat → Nat) (D : va_G) (cI cZ cF : ClassId) : (.inl (cI, 96, .inl (fun _ => 0)) : va_E) = tx_cell (ad, D, cI, cZ, cF) sg0 58 := rfl
theorem tl_c59 (ad : Nat → Nat) (D : va_G) (cI cZ cF : ClassId) : (.inl (cI, 96, .inl (fun _ => 0)) : va_E) = tx_cell (ad, D, cI, cZ, cF) sg0 59 := rfl
theorem tl_c60 (ad : Nat → Nat) (D : va_G) (cI cZ cF : ClassId) : (.inl (cZ, 96, .inl (fun _ => 0)) : va_E) = tx_cell (ad, D, cI, cZ, cF) sg0 60 := rfl
theorem tl_c61 (ad : Nat → Nat) (D : va_G) (cI cZ cF : ClassId) : (.inl (cI, 320, .inl (fun _ => 0)) : va_E) = tx_cell (ad, D, cI, cZ, cF) sg0 61 := rfl
theorem tl_c62 (ad : Nat → Nat) (D : va_G) (cI cZ cF : ClassId) : (.inl (cI, 3840, .inl (fun _ => 0)) : va_E) = tx_cell (ad, D, cI, cZ, cF) sg0 62 := rfl
theorem tl_c63 (ad : Nat → Nat) (D : va_G) (cI cZ cF : ClassId) : (.inl (cI, 16, .inl (fun _ => 0)) : va_E) = tx_cell (ad, D, cI, cZ, cF) sg0 63 := rfl
theorem tl_c64 (ad : Nat → Nat) (D : va_G) (cI cZ cF : ClassId) : (.inl (cI, 6, .inl (fun _ => 0)) : va_E) = tx_cell (ad, D, cI, cZ, cF) sg0 64 := rfl
theorem tl_c65 (ad : Nat → Nat) (D : va_G) (cI cZ cF : ClassId) : (.inl (cI, 6, .inl (fun _ => 0)) : va_E) = tx_cell (ad, D, cI, cZ, cF) sg0 65 := rfl
theorem tl_c66 (ad : Nat → Nat) (D : va_G) (cI cZ cF : ClassId) : (.inl (cI, 6, .inl (fun _ => 0)) : va_E) = tx_cell (ad, D, cI, cZ, cF) sg0 66 := rfl
theorem tl_c67 (ad : Nat → Nat) (D : va_G) (cI cZ cF : ClassId) : (.inl (cI, 24, .inl (fun _ => 0)) : va_E) = tx_cell (ad, D, cI, cZ, cF) sg0 67 := rfl
theorem tl_c68 (ad : Nat → Nat) (D : va_G) (cI cZ cF : ClassId) : (.inl (cI, 18, .inl (fun _ => 0)) : va_E) = tx_cell (ad, D, cI, cZ, cF) sg0 68 := rfl
theorem tl_range {α : Type} (f : Nat → α) : (List.range 69).map f = f 0 :: f 1 :: f 2 :: f 3 :: f 4 :: f 5 :: f 6 :: f 7 :: f 8 :: f 9 :: f 10 :: f 11 :: f 12 :: f 13 :: f 14 :: f 15 :: f 16 :: f 17 :: f 18 :: f 19 :: f 20 :: f 21 :: f 22 :: f 23 :: f 24 :: f 25 :: f 26 :: f 27 :: f 28 :: f 29 :: f 30 :: f 31 :: f 32 :: f 33 :: f 34 :: f 35 :: f 36 :: f 37 :: f 38 :: f 39 :: f 40 :: f 41 :: f 42 :: f 43 :: f 44 :: f 45 :: f 46 :: f 47 :: f 48 :: f 49 :: f 50 :: f 51 :: f 52 :: f 53 :: f 54 :: f 55 :: f 56 :: f 57 :: f 58 :: f 59 :: f 60 :: f 61 :: f 62 :: f 63 :: f 64 :: f 65 :: f 66 :: f 67 :: f 68 :: [] := rfl
set_option maxRecDepth 100000 in
set_option maxHeartbeats 4000000 in
theorem tl_world (ad : Nat → Nat) (D : va_G) (cI cZ cF : ClassId) : ((((ad 0), .inr (0, [.ref (ad 1), .ref (ad 15), .ref (ad 20), .ref (ad 21), .ref (ad 25), .int (0 : Int32), .int (0 : Int32), .int (-1 : Int32)])) :: ((ad 1), .inr (1, [.int 0, .int 0, .int 0, .ref (ad 2), .ref (ad 3), .ref (ad 4), .ref (ad 5), .ref (ad 6), .ref (ad 7), .ref (ad 8), .ref (ad 9), .ref (ad 10), .ref (ad 11), .ref (ad 12), .ref (ad 13), .ref (ad 14)])) :: ((ad 2), .inl (cI, 8, .inl (fun _ => 0))) :: ((ad 3), .inl (cI, 8, .inl (fun _ => 0))) :: ((ad 4), .inl (cI, 12, .inl (fun _ => 0))) :: ((ad 5), .inl (cI, 12, .inl (fun _ => 0))) :: ((ad 6), .inl (cI, 12, .inl (fun _ => 0))) :: ((ad 7), .inl (cI, 8, .inl (fun _ => 0))) :: ((ad 8), .inl (cI, 8, .inl (fun _ => 0))) :: ((ad 9), .inl (cI, 8, .inl (fun _ => 0))) :: ((ad 10), .inl (cI, 8, .inl (fun _ => 0))) :: ((ad 11), .inl (cI, 8, .inl (fun _ => 0))) :: ((ad 12), .inl (cI, 8, .inl (fun _ => 0))) :: ((ad 13), .inl (cI, 96, .inl (fun _ => 0))) :: ((ad 14), .inl (cI, 96, .inl (fun _ => 0))) :: ((ad 15), .inr (2, [.ref (ad 16), .ref (ad 1), .ref (ad 17), .ref (ad 18), .ref (ad 19), .int 0, .int 0, .int 0, .int 0])) :: ((ad 16), .inl (cI, 96, .inl (fun _ => 0))) :: ((ad 17), .inl (cI, 4, .inl (fun _ => 0))) :: ((ad 18), .inl (cI, 3, .inl (fun _ => 0))) :: ((ad 19), .inl (cI, 12, .inl (fun _ => 0))) :: ((ad 20), .inr (3, [.ref (ad 1), .ref (ad 15)])) :: ((ad 21), .inr (4, [.ref (ad 22), .ref (ad 23), .ref (ad 24), .int 0, .int 0])) :: ((ad 22), .inl (cI, 321, .inl (upd (fun _ => 0) 0 (-1 : Int32)))) :: ((ad 23), .inl (cI, 1284, .inl (fun _ => 0))) :: ((ad 24), .inl (cI, 16, .inl (fun _ => 0))) :: ((ad 25), .inr (5, [.int 0, .int 0, .ref (ad 1), .ref (ad 21), .ref (ad 26), .int 0, .int 0])) :: ((ad 26), .inl (cF, 6, .inr (.inr (.inr (.inr (va_up (va_up (va_up (va_up (va_up (va_up (fun _ => none) 0 (some (ad 27))) 1 (some (ad 30))) 2 (some (ad 33))) 3 (some (ad 36))) 4 (some (ad 39))) 5 (some (ad 42)))))))) :: ((ad 27), .inr (6, [.int 0, .int 0, .ref (ad 28), .ref (ad 29), .int 0])) :: ((ad 28), .inl (cI, 3, .inl (fun _ => 0))) :: ((ad 29), .inl (cI, 4, .inl (fun _ => 0))) :: ((ad 30), .inr (6, [.int 0, .int 0, .ref (ad 31), .ref (ad 32), .int 0])) :: ((ad 31), .inl (cI, 3, .inl (fun _ => 0))) :: ((ad 32), .inl (cI, 4, .inl (fun _ => 0))) :: ((ad 33), .inr (6, [.int 0, .int 0, .ref (ad 34), .ref (ad 35), .int 0])) :: ((ad 34), .inl (cI, 3, .inl (fun _ => 0))) :: ((ad 35), .inl (cI, 4, .inl (fun _ => 0))) :: ((ad 36), .inr (6, [.int 0, .int 0, .ref (ad 37), .ref (ad 38), .int 0])) :: ((ad 37), .inl (cI, 3, .inl (fun _ => 0))) :: ((ad 38), .inl (cI, 4, .inl (fun _ => 0))) :: ((ad 39), .inr (6, [.int 0, .int 0, .ref (ad 40), .ref (ad 41), .int 0])) :: ((ad 40), .inl (cI, 3, .inl (fun _ => 0))) :: ((ad 41), .inl (cI, 4, .inl (fun _ => 0))) :: ((ad 42), .inr (6, [.int 0, .int 0, .ref (ad 43), .ref (ad 44), .int 0])) :: ((ad 43), .inl (cI, 3, .inl (fun _ => 0))) :: ((ad 44), .inl (cI, 4, .inl (fun _ => 0))) :: [] : va_W) ++ (((ad 45), .inr (7, (.int 0 :: .ref (ad 46) :: .ref (ad 47) :: .int 0 :: .ref (ad 48) :: .ref (ad 49) :: .ref (ad 50) :: .int 0 :: .ref (ad 51) :: .ref (ad 52) :: .ref (ad 53) :: .ref (ad 54) :: .ref (ad 55) :: .ref (ad 56) :: .ref (ad 57) :: .ref (ad 58) :: .int 0 :: .ref (ad 59) :: .ref (ad 60) :: .int 0 :: .int 0 :: .ref (ad 61) :: .ref (ad 62) :: .int 0 :: .ref (ad 63) :: .int 0 :: .int (-1 : Int32) :: .int 0 :: .int 0 :: .ref (ad 64) :: .ref (ad 65) :: .ref (ad 66) :: .ref (ad 67) :: .ref (ad 68) :: .int 0 :: []))) :: ((ad 46), .inl (cI, 8, .inl (fun _ => 0))) :: ((ad 47), .inl (cI, 8, .inl (fun _ => 0))) :: ((ad 48), .inl (cI, 12, .inl (fun _ => 0))) :: ((ad 49), .inl (cI, 12, .inl (fun _ => 0))) :: ((ad 50), .inl (cI, 12, .inl (fun _ => 0))) :: ((ad 51), .inl (cI, 8, .inl (fun _ => 0))) :: ((ad 52), .inl (cI, 8, .inl (fun _ => 0))) :: ((ad 53), .inl (cI, 8, .inl (fun _ => 0))) :: ((ad 54), .inl (cI, 8, .inl (fun _ => 0))) :: ((ad 55), .inl (cI, 8, .inl (fun _ => 0))) :: ((ad 56), .inl (cI, 8, .inl (fun _ => 0))) :: ((ad 57), .inl (cI, 96, .inl (fun _ => 0))) :: ((ad 58), .inl (cI, 96, .inl (fun _ => 0))) :: ((ad 59), .inl (cI, 96, .inl (fun _ => 0))) :: ((ad 60), .inl (cZ, 96, .inl (fun _ => 0))) :: ((ad 61), .inl (cI, 320, .inl (fun _ => 0))) :: ((ad 62), .inl (cI, 3840, .inl (fun _ => 0))) :: ((ad 63), .inl (cI, 16, .inl (fun _ => 0))) :: ((ad 64), .inl (cI, 6, .inl (fun _ => 0))) :: ((ad 65), .inl (cI, 6, .inl (fun _ => 0))) :: ((ad 66), .inl (cI, 6, .inl (fun _ => 0))) :: ((ad 67), .inl (cI, 24, .inl (fun _ => 0))) :: ((ad 68), .inl (cI, 18, .inl (fun _ => 0))) :: [] : va_W) : va_W) = tx_w (ad, D, cI, cZ, cF) sg0 := by
  unfold tx_w
  rw [tl_range]
  rw [← tl_c0 ad D cI cZ cF, ← tl_c1 ad D cI cZ cF, ← tl_c2 ad D cI cZ cF, ← tl_c3 ad D cI cZ cF, ← tl_c4 ad D cI cZ cF, ← tl_c5 ad D cI cZ cF, ← tl_c6 ad D cI cZ cF, ← tl_c7 ad D cI cZ cF, ← tl_c8 ad D cI cZ cF, ← tl_c9 ad D cI cZ cF, ← tl_c10 ad D cI cZ cF, ← tl_c11 ad D cI cZ cF, ← tl_c12 ad D cI cZ cF, ← tl_c13 ad D cI cZ cF, ← tl_c14 ad D cI cZ cF, ← tl_c15 ad D cI cZ cF, ← tl_c16 ad D cI cZ cF, ← tl_c17 ad D cI cZ cF, ← tl_c18 ad D cI cZ cF, ← tl_c19 ad D cI cZ cF, ← tl_c20 ad D cI cZ cF, ← tl_c21 ad D cI cZ cF, ← tl_c22 ad D cI cZ cF, ← tl_c23 ad D cI cZ cF, ← tl_c24 ad D cI cZ cF, ← tl_c25 ad D cI cZ cF, ← tl_c26 ad D cI cZ cF, ← tl_c27 ad D cI cZ cF, ← tl_c28 ad D cI cZ cF, ← tl_c29 ad D cI cZ cF, ← tl_c30 ad D cI cZ cF, ← tl_c31 ad D cI cZ cF, ← tl_c32 ad D cI cZ cF, ← tl_c33 ad D cI cZ cF, ← tl_c34 ad D cI cZ cF, ← tl_c35 ad D cI cZ cF, ← tl_c36 ad D cI cZ cF, ← tl_c37 ad D cI cZ cF, ← tl_c38 ad D cI cZ cF, ← tl_c39 ad D cI cZ cF, ← tl_c40 ad D cI cZ cF, ← tl_c41 ad D cI cZ cF, ← tl_c42 ad D cI cZ cF, ← tl_c43 ad D cI cZ cF, ← tl_c44 ad D cI cZ cF, ← tl_c45 ad D cI cZ cF, ← tl_c46 ad D cI cZ cF, ← tl_c47 ad D cI cZ cF, ← tl_c48 ad D cI cZ cF, ← tl_c49 ad D cI cZ cF, ← tl_c50 ad D cI cZ cF, ← tl_c51 ad D cI cZ cF, ← tl_c52 ad D cI cZ cF, ← tl_c53 ad D cI cZ cF, ← tl_c54 ad D cI cZ cF, ← tl_c55 ad D cI cZ cF, ← tl_c56 ad D cI cZ cF, ← tl_c57 ad D cI cZ cF, ← tl_c58 ad D cI cZ cF, ← tl_c59 ad D cI cZ cF, ← tl_c60 ad D cI cZ cF, ← tl_c61 ad D cI cZ cF, ← tl_c62 ad D cI cZ cF, ← tl_c63 ad D cI cZ cF, ← tl_c64 ad D cI cZ cF, ← tl_c65 ad D cI cZ cF, ← tl_c66 ad D cI cZ cF, ← tl_c67 ad D cI cZ cF, ← tl_c68 ad D cI cZ cF]
  rfl
set_option maxRecDepth 100000 in
set_option maxHeartbeats 8000000 in
/-- from the law's entry through both constructors to its loop; OPEN: the pure part is a hypothesis -/
theorem whole_start_open (hpure : ∀ (na : Nat) (xs : Nat → Int32), na ≤ 3072 → ∃ t, fx_law na xs sg0 = some t) {p : Program} {e : Env} {s : State} {m : MethodId} {below : List Frame} {meth : Method} {c : Code} (l : Launch) {b L : Nat} {xs : Nat → Int32} (hL : L ≤ 3072) (C0 : lw_At p s m meth c b L xs) : W p l e room_1 s m #[Value.ref b] below meth c s.heap [] 0 0 (lw_Z below #[Value.ref b] s) (entryFrame m ([Value.ref b] : List Value).toArray 4) := by
  obtain ⟨t, ht⟩ := hpure L xs hL
  have hx := C0.1
  have hb := C0.2.1
  have hml := C0.2.2.2.1
  have hown := C0.2.2.2.2.1
  have hts0 := C0.2.2.2.2.2.1
  have hts : ∀ w ∈ tx_ws, w.before #[Value.ref b] s = true := fun w hw => hts0 w (List.mem_filter.mp hw).1
  have hXX : tc_X s := ⟨va_AO.of (hts0 _ (List.mem_append_right _ (List.mem_append_left _ (List.mem_of_getElem? (i := 187) rfl)))), va_Nw.of rfl (hts0 _ (List.mem_append_right _ (List.mem_append_left _ (List.mem_of_getElem? (i := 22) rfl)))), va_Nw.of rfl (hts0 _ (List.mem_append_right _ (List.mem_append_left _ (List.mem_of_getElem? (i := 189) rfl))))⟩
  obtain ⟨D, cI, cZ, cF, hKf⟩ := tl_known hts hXX.1
  have hl := lv_entry ([.ref b]) (n := 4) (Nat.le_of_ble_eq_true rfl)
  rw [lg_entry_eq]
  generalize (lg_sl ([.ref b]) ++ List.replicate (4 - (lg_sl ([.ref b])).length) Slot.unset).toArray = ls at hl ⊢
  have hl : lv_has ls 4 [(0, .ref b)] := hl
  have hA : ∀ q : Nat, s.heap.size ≤ q → (fun q => s.heap.size ≤ q) q := fun q h => h
  have hP : va_P D tx_cl [] s.heap := fun k q hk => by simp at hk
  have hD : va_D (fun q => s.heap.size ≤ q) [] := ⟨fun i j x y hi => by simp at hi, fun k q hk => by simp at hk⟩
  have hS : va_S (fun q => s.heap.size ≤ q) s.heap s.heap [] := va_S.rf
  have hK := hKf (fun _ => 0)
  refine va_new (pc := 0) (ci := 0) (fs := [.null, .null, .null, .null, .null, .int 0, .int 0, .int 0]) (C := R_X) (T := F_X) (N := 8) hx hb hts in_X t_X k_X hown (hts _ tw_1_12) (hts _ tw_1_13) (hts _ tw_1_1) hK hP hD hS hA rfl df_X (Nat.le_of_ble_eq_true rfl) (Nat.le_of_ble_eq_true rfl) d_law_0 (fun h H hP hD hS => ?_)
  refine lv_dup (pc := 3) hx hb d_law_3 rfl ?_
  refine tl_callW (E := (fun _ => 0, D, cI, cZ, cF)) (pc := 4) (As := []) (rest := [.ref h]) (wr := []) hx hb hml hown hts hK hXX cm_X_init tw_1_14 (ic_X_init l (fun _ => 0, D, cI, cZ, cF) h) hP hD hS hA rfl rfl rfl (Nat.le_of_ble_eq_true rfl) (Nat.le_of_ble_eq_true rfl) (Nat.le_of_ble_eq_true rfl) (Nat.le_of_ble_eq_true rfl) (Nat.le_of_ble_eq_true rfl) hl.1 d_law_4 (fun w1 H locs hw1 hP hD hS => ?_)
  obtain ⟨a1, a2, a3, a4, a5, a6, a7, a8, a9, a10, a11, a12, a13, a14, a15, a16, a17, a18, a19, a20, a21, a22, a23, a24, a25, a26, a27, a28, a29, a30, a31, a32, a33, a34, a35, a36, a37, a38, a39, a40, a41, a42, a43, a44, rfl⟩ := hw1
  change va_P D tx_cl ((h, .inr (0, [.ref a1, .ref a15, .ref a20, .ref a21, .ref a25, .int (0 : Int32), .int (0 : Int32), .int (-1 : Int32)])) :: (a1, .inr (1, [.int 0, .int 0, .int 0, .ref a2, .ref a3, .ref a4, .ref a5, .ref a6, .ref a7, .ref a8, .ref a9, .ref a10, .ref a11, .ref a12, .ref a13, .ref a14])) :: (a2, .inl (cI, 8, .inl (fun _ => 0))) :: (a3, .inl (cI, 8, .inl (fun _ => 0))) :: (a4, .inl (cI, 12, .inl (fun _ => 0))) :: (a5, .inl (cI, 12, .inl (fun _ => 0))) :: (a6, .inl (cI, 12, .inl (fun _ => 0))) :: (a7, .inl (cI, 8, .inl (fun _ => 0))) :: (a8, .inl (cI, 8, .inl (fun _ => 0))) :: (a9, .inl (cI, 8, .inl (fun _ => 0))) :: (a10, .inl (cI, 8, .inl (fun _ => 0))) :: (a11, .inl (cI, 8, .inl (fun _ => 0))) :: (a12, .inl (cI, 8, .inl (fun _ => 0))) :: (a13, .inl (cI, 96, .inl (fun _ => 0))) :: (a14, .inl (cI, 96, .inl (fun _ => 0))) :: (a15, .inr (2, [.ref a16, .ref a1, .ref a17, .ref a18, .ref a19, .int 0, .int 0, .int 0, .int 0])) :: (a16, .inl (cI, 96, .inl (fun _ => 0))) :: (a17, .inl (cI, 4, .inl (fun _ => 0))) :: (a18, .inl (cI, 3, .inl (fun _ => 0))) :: (a19, .inl (cI, 12, .inl (fun _ => 0))) :: (a20, .inr (3, [.ref a1, .ref a15])) :: (a21, .inr (4, [.ref a22, .ref a23, .ref a24, .int 0, .int 0])) :: (a22, .inl (cI, 321, .inl (upd (fun _ => 0) 0 (-1 : Int32)))) :: (a23, .inl (cI, 1284, .inl (fun _ => 0))) :: (a24, .inl (cI, 16, .inl (fun _ => 0))) :: (a25, .inr (5, [.int 0, .int 0, .ref a1, .ref a21, .ref a26, .int 0, .int 0])) :: (a26, .inl (cF, 6, .inr (.inr (.inr (.inr (va_up (va_up (va_up (va_up (va_up (va_up (fun _ => none) 0 (some a27)) 1 (some a30)) 2 (some a33)) 3 (some a36)) 4 (some a39)) 5 (some a42))))))) :: (a27, .inr (6, [.int 0, .int 0, .ref a28, .ref a29, .int 0])) :: (a28, .inl (cI, 3, .inl (fun _ => 0))) :: (a29, .inl (cI, 4, .inl (fun _ => 0))) :: (a30, .inr (6, [.int 0, .int 0, .ref a31, .ref a32, .int 0])) :: (a31, .inl (cI, 3, .inl (fun _ => 0))) :: (a32, .inl (cI, 4, .inl (fun _ => 0))) :: (a33, .inr (6, [.int 0, .int 0, .ref a34, .ref a35, .int 0])) :: (a34, .inl (cI, 3, .inl (fun _ => 0))) :: (a35, .inl (cI, 4, .inl (fun _ => 0))) :: (a36, .inr (6, [.int 0, .int 0, .ref a37, .ref a38, .int 0])) :: (a37, .inl (cI, 3, .inl (fun _ => 0))) :: (a38, .inl (cI, 4, .inl (fun _ => 0))) :: (a39, .inr (6, [.int 0, .int 0, .ref a40, .ref a41, .int 0])) :: (a40, .inl (cI, 3, .inl (fun _ => 0))) :: (a41, .inl (cI, 4, .inl (fun _ => 0))) :: (a42, .inr (6, [.int 0, .int 0, .ref a43, .ref a44, .int 0])) :: (a43, .inl (cI, 3, .inl (fun _ => 0))) :: (a44, .inl (cI, 4, .inl (fun _ => 0))) :: [] : va_W) H at hP
  change va_D _ ((h, .inr (0, [.ref a1, .ref a15, .ref a20, .ref a21, .ref a25, .int (0 : Int32), .int (0 : Int32), .int (-1 : Int32)])) :: (a1, .inr (1, [.int 0, .int 0, .int 0, .ref a2, .ref a3, .ref a4, .ref a5, .ref a6, .ref a7, .ref a8, .ref a9, .ref a10, .ref a11, .ref a12, .ref a13, .ref a14])) :: (a2, .inl (cI, 8, .inl (fun _ => 0))) :: (a3, .inl (cI, 8, .inl (fun _ => 0))) :: (a4, .inl (cI, 12, .inl (fun _ => 0))) :: (a5, .inl (cI, 12, .inl (fun _ => 0))) :: (a6, .inl (cI, 12, .inl (fun _ => 0))) :: (a7, .inl (cI, 8, .inl (fun _ => 0))) :: (a8, .inl (cI, 8, .inl (fun _ => 0))) :: (a9, .inl (cI, 8, .inl (fun _ => 0))) :: (a10, .inl (cI, 8, .inl (fun _ => 0))) :: (a11, .inl (cI, 8, .inl (fun _ => 0))) :: (a12, .inl (cI, 8, .inl (fun _ => 0))) :: (a13, .inl (cI, 96, .inl (fun _ => 0))) :: (a14, .inl (cI, 96, .inl (fun _ => 0))) :: (a15, .inr (2, [.ref a16, .ref a1, .ref a17, .ref a18, .ref a19, .int 0, .int 0, .int 0, .int 0])) :: (a16, .inl (cI, 96, .inl (fun _ => 0))) :: (a17, .inl (cI, 4, .inl (fun _ => 0))) :: (a18, .inl (cI, 3, .inl (fun _ => 0))) :: (a19, .inl (cI, 12, .inl (fun _ => 0))) :: (a20, .inr (3, [.ref a1, .ref a15])) :: (a21, .inr (4, [.ref a22, .ref a23, .ref a24, .int 0, .int 0])) :: (a22, .inl (cI, 321, .inl (upd (fun _ => 0) 0 (-1 : Int32)))) :: (a23, .inl (cI, 1284, .inl (fun _ => 0))) :: (a24, .inl (cI, 16, .inl (fun _ => 0))) :: (a25, .inr (5, [.int 0, .int 0, .ref a1, .ref a21, .ref a26, .int 0, .int 0])) :: (a26, .inl (cF, 6, .inr (.inr (.inr (.inr (va_up (va_up (va_up (va_up (va_up (va_up (fun _ => none) 0 (some a27)) 1 (some a30)) 2 (some a33)) 3 (some a36)) 4 (some a39)) 5 (some a42))))))) :: (a27, .inr (6, [.int 0, .int 0, .ref a28, .ref a29, .int 0])) :: (a28, .inl (cI, 3, .inl (fun _ => 0))) :: (a29, .inl (cI, 4, .inl (fun _ => 0))) :: (a30, .inr (6, [.int 0, .int 0, .ref a31, .ref a32, .int 0])) :: (a31, .inl (cI, 3, .inl (fun _ => 0))) :: (a32, .inl (cI, 4, .inl (fun _ => 0))) :: (a33, .inr (6, [.int 0, .int 0, .ref a34, .ref a35, .int 0])) :: (a34, .inl (cI, 3, .inl (fun _ => 0))) :: (a35, .inl (cI, 4, .inl (fun _ => 0))) :: (a36, .inr (6, [.int 0, .int 0, .ref a37, .ref a38, .int 0])) :: (a37, .inl (cI, 3, .inl (fun _ => 0))) :: (a38, .inl (cI, 4, .inl (fun _ => 0))) :: (a39, .inr (6, [.int 0, .int 0, .ref a40, .ref a41, .int 0])) :: (a40, .inl (cI, 3, .inl (fun _ => 0))) :: (a41, .inl (cI, 4, .inl (fun _ => 0))) :: (a42, .inr (6, [.int 0, .int 0, .ref a43, .ref a44, .int 0])) :: (a43, .inl (cI, 3, .inl (fun _ => 0))) :: (a44, .inl (cI, 4, .inl (fun _ => 0))) :: [] : va_W) at hD
  refine lv_astore_n (pc := 7) (lv' := [(1, .ref h), (0, .ref b)]) hx hb d_law_7 rfl hl (Nat.le_of_ble_eq_true rfl) rfl (fun ls hl => ?_)
  refine va_new (pc := 8) (ci := 7) (fs := [.int 0, .null, .null, .int 0, .null, .null, .null, .int 0, .null, .null, .null, .null, .null, .null, .null, .null, .int 0, .null, .null, .int 0, .int 0, .null, .null, .int 0, .null, .int 0, .int 0, .int 0, .int 0, .null, .null, .null, .null, .null, .int 0]) (C := R_Mo) (T := F_Mo) (N := 35) hx hb hts in_Mo t_Mo k_Mo hown (hts _ tw_3_155) (hts _ tw_3_156) (hts _ tw_1_8) hK hP hD hS hA rfl df_Mo (Nat.le_of_ble_eq_true rfl) (Nat.le_of_ble_eq_true rfl) d_law_8 (fun g H hP hD hS => ?_)
  refine lv_dup (pc := 11) hx hb d_law_11 rfl ?_
  refine tl_callW (E := (fun _ => 0, D, cI, cZ, cF)) (pc := 12) (As := []) (rest := [.ref g]) (wr := ((h, .inr (0, [.ref a1, .ref a15, .ref a20, .ref a21, .ref a25, .int (0 : Int32), .int (0 : Int32), .int (-1 : Int32)])) :: (a1, .inr (1, [.int 0, .int 0, .int 0, .ref a2, .ref a3, .ref a4, .ref a5, .ref a6, .ref a7, .ref a8, .ref a9, .ref a10, .ref a11, .ref a12, .ref a13, .ref a14])) :: (a2, .inl (cI, 8, .inl (fun _ => 0))) :: (a3, .inl (cI, 8, .inl (fun _ => 0))) :: (a4, .inl (cI, 12, .inl (fun _ => 0))) :: (a5, .inl (cI, 12, .inl (fun _ => 0))) :: (a6, .inl (cI, 12, .inl (fun _ => 0))) :: (a7, .inl (cI, 8, .inl (fun _ => 0))) :: (a8, .inl (cI, 8, .inl (fun _ => 0))) :: (a9, .inl (cI, 8, .inl (fun _ => 0))) :: (a10, .inl (cI, 8, .inl (fun _ => 0))) :: (a11, .inl (cI, 8, .inl (fun _ => 0))) :: (a12, .inl (cI, 8, .inl (fun _ => 0))) :: (a13, .inl (cI, 96, .inl (fun _ => 0))) :: (a14, .inl (cI, 96, .inl (fun _ => 0))) :: (a15, .inr (2, [.ref a16, .ref a1, .ref a17, .ref a18, .ref a19, .int 0, .int 0, .int 0, .int 0])) :: (a16, .inl (cI, 96, .inl (fun _ => 0))) :: (a17, .inl (cI, 4, .inl (fun _ => 0))) :: (a18, .inl (cI, 3, .inl (fun _ => 0))) :: (a19, .inl (cI, 12, .inl (fun _ => 0))) :: (a20, .inr (3, [.ref a1, .ref a15])) :: (a21, .inr (4, [.ref a22, .ref a23, .ref a24, .int 0, .int 0])) :: (a22, .inl (cI, 321, .inl (upd (fun _ => 0) 0 (-1 : Int32)))) :: (a23, .inl (cI, 1284, .inl (fun _ => 0))) :: (a24, .inl (cI, 16, .inl (fun _ => 0))) :: (a25, .inr (5, [.int 0, .int 0, .ref a1, .ref a21, .ref a26, .int 0, .int 0])) :: (a26, .inl (cF, 6, .inr (.inr (.inr (.inr (va_up (va_up (va_up (va_up (va_up (va_up (fun _ => none) 0 (some a27)) 1 (some a30)) 2 (some a33)) 3 (some a36)) 4 (some a39)) 5 (some a42))))))) :: (a27, .inr (6, [.int 0, .int 0, .ref a28, .ref a29, .int 0])) :: (a28, .inl (cI, 3, .inl (fun _ => 0))) :: (a29, .inl (cI, 4, .inl (fun _ => 0))) :: (a30, .inr (6, [.int 0, .int 0, .ref a31, .ref a32, .int 0])) :: (a31, .inl (cI, 3, .inl (fun _ => 0))) :: (a32, .inl (cI, 4, .inl (fun _ => 0))) :: (a33, .inr (6, [.int 0, .int 0, .ref a34, .ref a35, .int 0])) :: (a34, .inl (cI, 3, .inl (fun _ => 0))) :: (a35, .inl (cI, 4, .inl (fun _ => 0))) :: (a36, .inr (6, [.int 0, .int 0, .ref a37, .ref a38, .int 0])) :: (a37, .inl (cI, 3, .inl (fun _ => 0))) :: (a38, .inl (cI, 4, .inl (fun _ => 0))) :: (a39, .inr (6, [.int 0, .int 0, .ref a40, .ref a41, .int 0])) :: (a40, .inl (cI, 3, .inl (fun _ => 0))) :: (a41, .inl (cI, 4, .inl (fun _ => 0))) :: (a42, .inr (6, [.int 0, .int 0, .ref a43, .ref a44, .int 0])) :: (a43, .inl (cI, 3, .inl (fun _ => 0))) :: (a44, .inl (cI, 4, .inl (fun _ => 0))) :: [] : va_W)) hx hb hml hown hts hK hXX cm_Mo_init tw_3_157 (ic_Mo_init l (fun _ => 0, D, cI, cZ, cF) g) hP hD hS hA rfl rfl rfl (Nat.le_of_ble_eq_true rfl) (Nat.le_of_ble_eq_true rfl) (Nat.le_of_ble_eq_true rfl) (Nat.le_of_ble_eq_true rfl) (Nat.le_of_ble_eq_true rfl) hl.1 d_law_12 (fun w1 H locs hw1 hP hD hS => ?_)
  obtain ⟨b1, b2, b3, b4, b5, b6, b7, b8, b9, b10, b11, b12, b13, b14, b15, b16, b17, b18, b19, b20, b21, b22, b23, rfl⟩ := hw1
  change va_P D tx_cl (((h, .inr (0, [.ref a1, .ref a15, .ref a20, .ref a21, .ref a25, .int (0 : Int32), .int (0 : Int32), .int (-1 : Int32)])) :: (a1, .inr (1, [.int 0, .int 0, .int 0, .ref a2, .ref a3, .ref a4, .ref a5, .ref a6, .ref a7, .ref a8, .ref a9, .ref a10, .ref a11, .ref a12, .ref a13, .ref a14])) :: (a2, .inl (cI, 8, .inl (fun _ => 0))) :: (a3, .inl (cI, 8, .inl (fun _ => 0))) :: (a4, .inl (cI, 12, .inl (fun _ => 0))) :: (a5, .inl (cI, 12, .inl (fun _ => 0))) :: (a6, .inl (cI, 12, .inl (fun _ => 0))) :: (a7, .inl (cI, 8, .inl (fun _ => 0))) :: (a8, .inl (cI, 8, .inl (fun _ => 0))) :: (a9, .inl (cI, 8, .inl (fun _ => 0))) :: (a10, .inl (cI, 8, .inl (fun _ => 0))) :: (a11, .inl (cI, 8, .inl (fun _ => 0))) :: (a12, .inl (cI, 8, .inl (fun _ => 0))) :: (a13, .inl (cI, 96, .inl (fun _ => 0))) :: (a14, .inl (cI, 96, .inl (fun _ => 0))) :: (a15, .inr (2, [.ref a16, .ref a1, .ref a17, .ref a18, .ref a19, .int 0, .int 0, .int 0, .int 0])) :: (a16, .inl (cI, 96, .inl (fun _ => 0))) :: (a17, .inl (cI, 4, .inl (fun _ => 0))) :: (a18, .inl (cI, 3, .inl (fun _ => 0))) :: (a19, .inl (cI, 12, .inl (fun _ => 0))) :: (a20, .inr (3, [.ref a1, .ref a15])) :: (a21, .inr (4, [.ref a22, .ref a23, .ref a24, .int 0, .int 0])) :: (a22, .inl (cI, 321, .inl (upd (fun _ => 0) 0 (-1 : Int32)))) :: (a23, .inl (cI, 1284, .inl (fun _ => 0))) :: (a24, .inl (cI, 16, .inl (fun _ => 0))) :: (a25, .inr (5, [.int 0, .int 0, .ref a1, .ref a21, .ref a26, .int 0, .int 0])) :: (a26, .inl (cF, 6, .inr (.inr (.inr (.inr (va_up (va_up (va_up (va_up (va_up (va_up (fun _ => none) 0 (some a27)) 1 (some a30)) 2 (some a33)) 3 (some a36)) 4 (some a39)) 5 (some a42))))))) :: (a27, .inr (6, [.int 0, .int 0, .ref a28, .ref a29, .int 0])) :: (a28, .inl (cI, 3, .inl (fun _ => 0))) :: (a29, .inl (cI, 4, .inl (fun _ => 0))) :: (a30, .inr (6, [.int 0, .int 0, .ref a31, .ref a32, .int 0])) :: (a31, .inl (cI, 3, .inl (fun _ => 0))) :: (a32, .inl (cI, 4, .inl (fun _ => 0))) :: (a33, .inr (6, [.int 0, .int 0, .ref a34, .ref a35, .int 0])) :: (a34, .inl (cI, 3, .inl (fun _ => 0))) :: (a35, .inl (cI, 4, .inl (fun _ => 0))) :: (a36, .inr (6, [.int 0, .int 0, .ref a37, .ref a38, .int 0])) :: (a37, .inl (cI, 3, .inl (fun _ => 0))) :: (a38, .inl (cI, 4, .inl (fun _ => 0))) :: (a39, .inr (6, [.int 0, .int 0, .ref a40, .ref a41, .int 0])) :: (a40, .inl (cI, 3, .inl (fun _ => 0))) :: (a41, .inl (cI, 4, .inl (fun _ => 0))) :: (a42, .inr (6, [.int 0, .int 0, .ref a43, .ref a44, .int 0])) :: (a43, .inl (cI, 3, .inl (fun _ => 0))) :: (a44, .inl (cI, 4, .inl (fun _ => 0))) :: [] : va_W) ++ ((g, .inr (7, (.int 0 :: .ref b1 :: .ref b2 :: .int 0 :: .ref b3 :: .ref b4 :: .ref b5 :: .int 0 :: .ref b6 :: .ref b7 :: .ref b8 :: .ref b9 :: .ref b10 :: .ref b11 :: .ref b12 :: .ref b13 :: .int 0 :: .ref b14 :: .ref b15 :: .int 0 :: .int 0 :: .ref b16 :: .ref b17 :: .int 0 :: .ref b18 :: .int 0 :: .int (-1 : Int32) :: .int 0 :: .int 0 :: .ref b19 :: .ref b20 :: .ref b21 :: .ref b22 :: .ref b23 :: .int 0 :: []))) :: (b1, .inl (cI, 8, .inl (fun _ => 0))) :: (b2, .inl (cI, 8, .inl (fun _ => 0))) :: (b3, .inl (cI, 12, .inl (fun _ => 0))) :: (b4, .inl (cI, 12, .inl (fun _ => 0))) :: (b5, .inl (cI, 12, .inl (fun _ => 0))) :: (b6, .inl (cI, 8, .inl (fun _ => 0))) :: (b7, .inl (cI, 8, .inl (fun _ => 0))) :: (b8, .inl (cI, 8, .inl (fun _ => 0))) :: (b9, .inl (cI, 8, .inl (fun _ => 0))) :: (b10, .inl (cI, 8, .inl (fun _ => 0))) :: (b11, .inl (cI, 8, .inl (fun _ => 0))) :: (b12, .inl (cI, 96, .inl (fun _ => 0))) :: (b13, .inl (cI, 96, .inl (fun _ => 0))) :: (b14, .inl (cI, 96, .inl (fun _ => 0))) :: (b15, .inl (cZ, 96, .inl (fun _ => 0))) :: (b16, .inl (cI, 320, .inl (fun _ => 0))) :: (b17, .inl (cI, 3840, .inl (fun _ => 0))) :: (b18, .inl (cI, 16, .inl (fun _ => 0))) :: (b19, .inl (cI, 6, .inl (fun _ => 0))) :: (b20, .inl (cI, 6, .inl (fun _ => 0))) :: (b21, .inl (cI, 6, .inl (fun _ => 0))) :: (b22, .inl (cI, 24, .inl (fun _ => 0))) :: (b23, .inl (cI, 18, .inl (fun _ => 0))) :: [] : va_W)) H at hP
  change va_D _ (((h, .inr (0, [.ref a1, .ref a15, .ref a20, .ref a21, .ref a25, .int (0 : Int32), .int (0 : Int32), .int (-1 : Int32)])) :: (a1, .inr (1, [.int 0, .int 0, .int 0, .ref a2, .ref a3, .ref a4, .ref a5, .ref a6, .ref a7, .ref a8, .ref a9, .ref a10, .ref a11, .ref a12, .ref a13, .ref a14])) :: (a2, .inl (cI, 8, .inl (fun _ => 0))) :: (a3, .inl (cI, 8, .inl (fun _ => 0))) :: (a4, .inl (cI, 12, .inl (fun _ => 0))) :: (a5, .inl (cI, 12, .inl (fun _ => 0))) :: (a6, .inl (cI, 12, .inl (fun _ => 0))) :: (a7, .inl (cI, 8, .inl (fun _ => 0))) :: (a8, .inl (cI, 8, .inl (fun _ => 0))) :: (a9, .inl (cI, 8, .inl (fun _ => 0))) :: (a10, .inl (cI, 8, .inl (fun _ => 0))) :: (a11, .inl (cI, 8, .inl (fun _ => 0))) :: (a12, .inl (cI, 8, .inl (fun _ => 0))) :: (a13, .inl (cI, 96, .inl (fun _ => 0))) :: (a14, .inl (cI, 96, .inl (fun _ => 0))) :: (a15, .inr (2, [.ref a16, .ref a1, .ref a17, .ref a18, .ref a19, .int 0, .int 0, .int 0, .int 0])) :: (a16, .inl (cI, 96, .inl (fun _ => 0))) :: (a17, .inl (cI, 4, .inl (fun _ => 0))) :: (a18, .inl (cI, 3, .inl (fun _ => 0))) :: (a19, .inl (cI, 12, .inl (fun _ => 0))) :: (a20, .inr (3, [.ref a1, .ref a15])) :: (a21, .inr (4, [.ref a22, .ref a23, .ref a24, .int 0, .int 0])) :: (a22, .inl (cI, 321, .inl (upd (fun _ => 0) 0 (-1 : Int32)))) :: (a23, .inl (cI, 1284, .inl (fun _ => 0))) :: (a24, .inl (cI, 16, .inl (fun _ => 0))) :: (a25, .inr (5, [.int 0, .int 0, .ref a1, .ref a21, .ref a26, .int 0, .int 0])) :: (a26, .inl (cF, 6, .inr (.inr (.inr (.inr (va_up (va_up (va_up (va_up (va_up (va_up (fun _ => none) 0 (some a27)) 1 (some a30)) 2 (some a33)) 3 (some a36)) 4 (some a39)) 5 (some a42))))))) :: (a27, .inr (6, [.int 0, .int 0, .ref a28, .ref a29, .int 0])) :: (a28, .inl (cI, 3, .inl (fun _ => 0))) :: (a29, .inl (cI, 4, .inl (fun _ => 0))) :: (a30, .inr (6, [.int 0, .int 0, .ref a31, .ref a32, .int 0])) :: (a31, .inl (cI, 3, .inl (fun _ => 0))) :: (a32, .inl (cI, 4, .inl (fun _ => 0))) :: (a33, .inr (6, [.int 0, .int 0, .ref a34, .ref a35, .int 0])) :: (a34, .inl (cI, 3, .inl (fun _ => 0))) :: (a35, .inl (cI, 4, .inl (fun _ => 0))) :: (a36, .inr (6, [.int 0, .int 0, .ref a37, .ref a38, .int 0])) :: (a37, .inl (cI, 3, .inl (fun _ => 0))) :: (a38, .inl (cI, 4, .inl (fun _ => 0))) :: (a39, .inr (6, [.int 0, .int 0, .ref a40, .ref a41, .int 0])) :: (a40, .inl (cI, 3, .inl (fun _ => 0))) :: (a41, .inl (cI, 4, .inl (fun _ => 0))) :: (a42, .inr (6, [.int 0, .int 0, .ref a43, .ref a44, .int 0])) :: (a43, .inl (cI, 3, .inl (fun _ => 0))) :: (a44, .inl (cI, 4, .inl (fun _ => 0))) :: [] : va_W) ++ ((g, .inr (7, (.int 0 :: .ref b1 :: .ref b2 :: .int 0 :: .ref b3 :: .ref b4 :: .ref b5 :: .int 0 :: .ref b6 :: .ref b7 :: .ref b8 :: .ref b9 :: .ref b10 :: .ref b11 :: .ref b12 :: .ref b13 :: .int 0 :: .ref b14 :: .ref b15 :: .int 0 :: .int 0 :: .ref b16 :: .ref b17 :: .int 0 :: .ref b18 :: .int 0 :: .int (-1 : Int32) :: .int 0 :: .int 0 :: .ref b19 :: .ref b20 :: .ref b21 :: .ref b22 :: .ref b23 :: .int 0 :: []))) :: (b1, .inl (cI, 8, .inl (fun _ => 0))) :: (b2, .inl (cI, 8, .inl (fun _ => 0))) :: (b3, .inl (cI, 12, .inl (fun _ => 0))) :: (b4, .inl (cI, 12, .inl (fun _ => 0))) :: (b5, .inl (cI, 12, .inl (fun _ => 0))) :: (b6, .inl (cI, 8, .inl (fun _ => 0))) :: (b7, .inl (cI, 8, .inl (fun _ => 0))) :: (b8, .inl (cI, 8, .inl (fun _ => 0))) :: (b9, .inl (cI, 8, .inl (fun _ => 0))) :: (b10, .inl (cI, 8, .inl (fun _ => 0))) :: (b11, .inl (cI, 8, .inl (fun _ => 0))) :: (b12, .inl (cI, 96, .inl (fun _ => 0))) :: (b13, .inl (cI, 96, .inl (fun _ => 0))) :: (b14, .inl (cI, 96, .inl (fun _ => 0))) :: (b15, .inl (cZ, 96, .inl (fun _ => 0))) :: (b16, .inl (cI, 320, .inl (fun _ => 0))) :: (b17, .inl (cI, 3840, .inl (fun _ => 0))) :: (b18, .inl (cI, 16, .inl (fun _ => 0))) :: (b19, .inl (cI, 6, .inl (fun _ => 0))) :: (b20, .inl (cI, 6, .inl (fun _ => 0))) :: (b21, .inl (cI, 6, .inl (fun _ => 0))) :: (b22, .inl (cI, 24, .inl (fun _ => 0))) :: (b23, .inl (cI, 18, .inl (fun _ => 0))) :: [] : va_W)) at hD
  refine lv_astore_n (pc := 15) (lv' := [(2, .ref g), (1, .ref h), (0, .ref b)]) hx hb d_law_15 rfl hl (Nat.le_of_ble_eq_true rfl) rfl (fun ls hl => ?_)
  obtain ⟨ad, e0, e1, e2, e3, e4, e5, e6, e7, e8, e9, e10, e11, e12, e13, e14, e15, e16, e17, e18, e19, e20, e21, e22, e23, e24, e25, e26, e27, e28, e29, e30, e31, e32, e33, e34, e35, e36, e37, e38, e39, e40, e41, e42, e43, e44, e45, e46, e47, e48, e49, e50, e51, e52, e53, e54, e55, e56, e57, e58, e59, e60, e61, e62, e63, e64, e65, e66, e67, e68⟩ : ∃ ad : Nat → Nat, ad 0 = h ∧ ad 1 = a1 ∧ ad 2 = a2 ∧ ad 3 = a3 ∧ ad 4 = a4 ∧ ad 5 = a5 ∧ ad 6 = a6 ∧ ad 7 = a7 ∧ ad 8 = a8 ∧ ad 9 = a9 ∧ ad 10 = a10 ∧ ad 11 = a11 ∧ ad 12 = a12 ∧ ad 13 = a13 ∧ ad 14 = a14 ∧ ad 15 = a15 ∧ ad 16 = a16 ∧ ad 17 = a17 ∧ ad 18 = a18 ∧ ad 19 = a19 ∧ ad 20 = a20 ∧ ad 21 = a21 ∧ ad 22 = a22 ∧ ad 23 = a23 ∧ ad 24 = a24 ∧ ad 25 = a25 ∧ ad 26 = a26 ∧ ad 27 = a27 ∧ ad 28 = a28 ∧ ad 29 = a29 ∧ ad 30 = a30 ∧ ad 31 = a31 ∧ ad 32 = a32 ∧ ad 33 = a33 ∧ ad 34 = a34 ∧ ad 35 = a35 ∧ ad 36 = a36 ∧ ad 37 = a37 ∧ ad 38 = a38 ∧ ad 39 = a39 ∧ ad 40 = a40 ∧ ad 41 = a41 ∧ ad 42 = a42 ∧ ad 43 = a43 ∧ ad 44 = a44 ∧ ad 45 = g ∧ ad 46 = b1 ∧ ad 47 = b2 ∧ ad 48 = b3 ∧ ad 49 = b4 ∧ ad 50 = b5 ∧ ad 51 = b6 ∧ ad 52 = b7 ∧ ad 53 = b8 ∧ ad 54 = b9 ∧ ad 55 = b10 ∧ ad 56 = b11 ∧ ad 57 = b12 ∧ ad 58 = b13 ∧ ad 59 = b14 ∧ ad 60 = b15 ∧ ad 61 = b16 ∧ ad 62 = b17 ∧ ad 63 = b18 ∧ ad 64 = b19 ∧ ad 65 = b20 ∧ ad 66 = b21 ∧ ad 67 = b22 ∧ ad 68 = b23 := ⟨fun k => (h :: a1 :: a2 :: a3 :: a4 :: a5 :: a6 :: a7 :: a8 :: a9 :: a10 :: a11 :: a12 :: a13 :: a14 :: a15 :: a16 :: a17 :: a18 :: a19 :: a20 :: a21 :: a22 :: a23 :: a24 :: a25 :: a26 :: a27 :: a28 :: a29 :: a30 :: a31 :: a32 :: a33 :: a34 :: a35 :: a36 :: a37 :: a38 :: a39 :: a40 :: a41 :: a42 :: a43 :: a44 :: g :: b1 :: b2 :: b3 :: b4 :: b5 :: b6 :: b7 :: b8 :: b9 :: b10 :: b11 :: b12 :: b13 :: b14 :: b15 :: b16 :: b17 :: b18 :: b19 :: b20 :: b21 :: b22 :: b23 :: [] : List Nat).getD k 0, rfl, rfl, rfl, rfl, rfl, rfl, rfl, rfl, rfl, rfl, rfl, rfl, rfl, rfl, rfl, rfl, rfl, rfl, rfl, rfl, rfl, rfl, rfl, rfl, rfl, rfl, rfl, rfl, rfl, rfl, rfl, rfl, rfl, rfl, rfl, rfl, rfl, rfl, rfl, rfl, rfl, rfl, rfl, rfl, rfl, rfl, rfl, rfl, rfl, rfl, rfl, rfl, rfl, rfl, rfl, rfl, rfl, rfl, rfl, rfl, rfl, rfl, rfl, rfl, rfl, rfl, rfl, rfl, rfl⟩
  subst e0
  subst e1
  subst e2
  subst e3
  subst e4
  subst e5
  subst e6
  subst e7
  subst e8
  subst e9
  subst e10
  subst e11
  subst e12
  subst e13
  subst e14
  subst e15
  subst e16
  subst e17
  subst e18
  subst e19
  subst e20
  subst e21
  subst e22
  subst e23
  subst e24
  subst e25
  subst e26
  subst e27
  subst e28
  subst e29
  subst e30
  subst e31
  subst e32
  subst e33
  subst e34
  subst e35
  subst e36
  subst e37
  subst e38
  subst e39
  subst e40
  subst e41
  subst e42
  subst e43
  subst e44
  subst e45
  subst e46
  subst e47
  subst e48
  subst e49
  subst e50
  subst e51
  subst e52
  subst e53
  subst e54
  subst e55
  subst e56
  subst e57
  subst e58
  subst e59
  subst e60
  subst e61
  subst e62
  subst e63
  subst e64
  subst e65
  subst e66
  subst e67
  subst e68
  rw [tl_world ad D cI cZ cF] at hP hD
  refine W.widen (k := 600000) (n := 7302250) (Nat.le_of_ble_eq_true rfl) (Nat.le_of_ble_eq_true rfl) ?_
  refine va_forget (fun q hq => hS.2.2 q hq) ?_
  have hJ : tx_J (ad, D, cI, cZ, cF) := fun i j hi hj hij => hD.1 i j _ _ (tx_w_at _ _ hi) (tx_w_at _ _ hj) hij
  have hN : ∀ k, k < 69 → s.heap.size ≤ ad k := fun k hk => hD.2 k _ (tx_w_at _ _ hk)
  have hS2 : va_S (tx_A (ad, D, cI, cZ, cF)) s.heap H [] := ⟨hS.1, fun q h1 _ => hS.2.1 q h1 (by omega), fun _ hq => by cases hq⟩
  have G := fx_law_w (l := l) (E := (ad, D, cI, cZ, cF)) (b := b) L xs sg0 t ht
  refine G p e s m below meth c C0 (hKf ad) hJ hN H [] ls hP hS2 ?_
  show lv_has ls 4 [(2, .ref (ad 45)), (1, .ref (ad 0)), (0, .ref b)]
  exact hl
