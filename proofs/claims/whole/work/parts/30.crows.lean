/-! Constructors: the world is a list that grows; gc says that the constructor returns and that its world is then one of Tw. -/
/-- what constructors lean on beside the words: the array class of frames, two private constructors of nest mates -/
def tc_X (s : State) : Prop := va_AO R_Frame s ∧ va_Nw (.methodLinkNest "TamedClassSet" 9 ⟨"TamedClassSet$Plan", "<init>", "()V"⟩ "TamedClassSet") s ∧ va_Nw (.methodLinkNest "TamedClassSet$Machine" 25 ⟨"TamedClassSet$Frame", "<init>", "()V"⟩ "TamedClassSet") s
theorem tc_X.warm {s U : State} (hW : s.WarmedH U.vm) (h : tc_X s) : tc_X U := ⟨va_AO.moved hW.alike h.1, va_Nw.warmM hW h.2.1, va_Nw.warmM hW h.2.2⟩
theorem tc_X.same {s U : State} (hW : s.vm = U.vm) (h : tc_X s) : tc_X U := ⟨va_AO.moved (by rw [hW]; exact Vm.Alike.refl _) h.1, va_Nw.same rfl hW h.2.1, va_Nw.same rfl hW h.2.2⟩
theorem tc_in {i : Int32} {n : Nat} (h : ¬ (i < 0 ∨ n ≤ i.toNatClampNeg)) : vp_in i n := h
def tc_LK (own : String) (idx : Nat) (y : MethodName) : Prop := Cond.methodLink own idx y ∈ tx_ws ∨ ∃ host, ∀ s : State, tc_X s → va_Nw (.methodLinkNest own idx y host) s
def tc_Cc (E : tx_E) (M : tx_M) (p : Program) (s : State) (m : MethodId) (args : Array Value) (meth : Method) (c : Code) : Prop :=
  p.tables.exec = Jvm.exec ∧ c.code = M.2.1 ∧ c.maxLocals = M.2.2.1 ∧ s.vm.findClass M.1 = some m.cls ∧ (∀ w ∈ tx_ws, w.before args s = true) ∧ va_K E.2.1 tx_cl (tx_ty E) s ∧ meth.sig.returnType = M.2.2.2.1 ∧ meth.locks = false ∧ tc_X s
def tc_Q (E : tx_E) (Tw : va_W → Prop) (A : Nat → Prop) : Array Value → State → Outcome → State → Prop := fun _ st oc t =>
  oc = .returned none ∧ (∃ w1, Tw w1 ∧ va_P E.2.1 tx_cl w1 t.heap ∧ va_D A w1) ∧ va_F A st t
def gc (l : Launch) (E : tx_E) (M : tx_M) (mc ms : Nat) (Tw : va_W → Prop) (ws : va_W) (cells slots : Nat) (L : List (Nat × Value)) (pc : Nat) (st : List Value) : Prop :=
  ∀ (p : Program) (e : Env) (s : State) (m : MethodId) (args : Array Value) (below : List Frame) (meth : Method) (c : Code), tc_Cc E M p s m args meth c → meth.name = "<init>" →
    ∀ (A : Nat → Prop), (∀ q, s.heap.size ≤ q → A q) → ∀ (H : Heap) (locs : List Loc) (ls : Array Slot), va_P E.2.1 tx_cl ws H → va_D A ws → va_S A s.heap H locs → lv_has ls M.2.2.1 L →
      W p l e M.2.2.2.2 s m args below meth c H locs cells slots (MQ below (tc_Q E Tw A) args s mc ms A) (F0 m pc ls st)
/-- a constructor's contract: on the new object h0 (fields e0) -/
def tc_MC (l : Launch) (E : tx_E) (y : MethodName) (M : tx_M) (av : List Value) (h0 : Nat) (e0 : va_E) (mc ms : Nat) (Tw : va_W → Prop) : Prop := ∀ sz : Nat,
  Met l y (Cond.code y M.2.1 M.2.2.1 M.2.2.2.1 :: tx_ws) M.2.2.2.2 (va_Pc (.ref h0 :: av) (fun U => U.heap.size = sz ∧ va_P E.2.1 tx_cl [(h0, e0)] U.heap ∧ va_K E.2.1 tx_cl (tx_ty E) U ∧ tc_X U)) (tc_Q E Tw (va_A [(h0, e0)] sz)) mc ms (va_A [(h0, e0)] sz)
theorem tc_MC_of {l : Launch} {E : tx_E} {y : MethodName} {M : tx_M} {av : List Value} {h0 : Nat} {e0 : va_E} {mc ms : Nat} {Tw : va_W → Prop} (hy : plainName y.cls = true) (ho : M.1 = y.cls) (hin : y.name = "<init>") (hlen : (lg_sl (.ref h0 :: av)).length ≤ M.2.2.1) (h : gc l E M mc ms Tw [(h0, e0)] 0 0 (lv_args 0 (.ref h0 :: av)) 0 []) : tc_MC l E y M av h0 e0 mc ms Tw := by
  intro sz
  refine Met.ofW (cc := M.2.1) (maxL := M.2.2.1) (ret := M.2.2.2.1) hy rfl ?_
  intro p e s m args below meth c s₁ B hml hv
  obtain ⟨rfl, rfl, hP, hK, hO⟩ := hv
  rw [lg_entry_eq]
  have hD : va_D (va_A [(h0, e0)] s.heap.size) [(h0, e0)] := by
    refine ⟨fun i j x y hi hj _ => ?_, fun k q hk => va_A.in hk⟩
    have h1 := (List.getElem?_eq_some_iff.mp hi).1
    have h2 := (List.getElem?_eq_some_iff.mp hj).1
    simp only [List.length_cons, List.length_nil] at h1 h2
    omega
  exact h p e s m _ below meth c ⟨B.exec, B.bytes, hml, by rw [ho]; exact findClass_of_methodNamed B.named, fun w hw => atoms_spec B.pre w (List.mem_cons_of_mem _ hw), hK, B.returns, B.notSynchronized, hO⟩ ((name_of_methodNamed B.named B.method).1.trans hin) _ (fun q hq => Or.inr hq) s.heap [] _ hP hD va_S.rf (lv_entry (.ref h0 :: av) hlen)
theorem tc_join {A0 : Nat → Prop} {D : va_G} {cl : List vw_C} {wr w1 : va_W} {q : Nat} {e0 : va_E} {H H1 : Heap} (hP : va_P D cl (wr ++ [(q, e0)]) H) (hD : va_D A0 (wr ++ [(q, e0)]))
    (hk : ∀ x : Nat, x < H.size → ¬ va_A [(q, e0)] H.size x → H1[x]? = H[x]?) (hF : ∀ x, va_A [(q, e0)] H.size x → A0 x) (hP1 : va_P D cl w1 H1) (hD1 : va_D (va_A [(q, e0)] H.size) w1) : va_P D cl (wr ++ w1) H1 ∧ va_D A0 (wr ++ w1) := by
  have left : ∀ (k : Nat) (x : Nat × va_E), wr[k]? = some x → (wr ++ [(q, e0)])[k]? = some x := fun k x hx => by
    rw [List.getElem?_append_left (List.getElem?_eq_some_iff.mp hx).1]
    exact hx
  have last : (wr ++ [(q, e0)])[wr.length]? = some (q, e0) := by simp
  have apart : ∀ (k : Nat) (x : Nat × va_E), wr[k]? = some x → x.1 < H.size ∧ ¬ va_A [(q, e0)] H.size x.1 := by
    intro k x hx
    have hlt := (hP k x (left k x hx)).lt
    refine ⟨hlt, fun h => ?_⟩
    rcases h with ⟨k2, e, h⟩ | h
    · have h2 := (List.getElem?_eq_some_iff.mp h).1
      simp only [List.length_cons, List.length_nil] at h2
      have : k2 = 0 := by omega
      subst this
      simp only [List.getElem?_cons_zero, Option.some.injEq, Prod.mk.injEq] at h
      have h3 := hD.1 k wr.length x (q, e0) (left k x hx) last h.1.symm
      have h4 := (List.getElem?_eq_some_iff.mp hx).1
      omega
    · omega
  have hDr : va_D A0 wr := ⟨fun i j x y hi hj hxy => hD.1 i j x y (left i x hi) (left j y hj) hxy, fun k x hx => hD.2 k x (left k x hx)⟩
  refine ⟨va_P.app (fun k x hx => ?_) hP1, va_D.app hDr (hD1.weaken (fun k x _ h => hF x.1 h)) (fun i j x y hx hy hxy => ?_)⟩
  · obtain ⟨g1, g2⟩ := apart k x hx
    exact (hP k x (left k x hx)).kept (hk x.1 g1 g2)
  · exact (apart i x hx).2 (by rw [hxy]; exact hD1.2 j y hy)
section GC
variable {l : Launch} {E : tx_E} {M : tx_M} {mc ms : Nat} {Tw : va_W → Prop} {ws : va_W} {cells slots : Nat} {L : List (Nat × Value)} {pc : Nat} {st : List Value}
theorem gc_dup {v : Value} (hd : decode M.2.1 pc = .ok (.dup, 1)) (hv : v.category = 1) (k : gc l E M mc ms Tw ws cells slots L (pc + 1) (v :: v :: st)) : gc l E M mc ms Tw ws cells slots L pc (v :: st) := fun p e s m args below meth c hC hin A hA H locs ls hP hD hS hL => lv_dup hC.1 hC.2.1 hd hv (k p e s m args below meth c hC hin A hA H locs ls hP hD hS hL)
theorem gc_iconst {n : Int} (v : Int32) (hd : decode M.2.1 pc = .ok (.iconst n, 1)) (hv : Int32.ofInt n = v) (k : gc l E M mc ms Tw ws cells slots L (pc + 1) (.int v :: st)) : gc l E M mc ms Tw ws cells slots L pc st := fun p e s m args below meth c hC hin A hA H locs ls hP hD hS hL => lv_iconst hC.1 hC.2.1 hd hv (k p e s m args below meth c hC hin A hA H locs ls hP hD hS hL)
theorem gc_bipush {n : Int} (v : Int32) (hd : decode M.2.1 pc = .ok (.bipush n, 2)) (hv : (Int8.ofInt n).toInt32 = v) (k : gc l E M mc ms Tw ws cells slots L (pc + 2) (.int v :: st)) : gc l E M mc ms Tw ws cells slots L pc st := fun p e s m args below meth c hC hin A hA H locs ls hP hD hS hL => lv_bipush hC.1 hC.2.1 hd hv (k p e s m args below meth c hC hin A hA H locs ls hP hD hS hL)
theorem gc_sipush {n : Int} (v : Int32) (hd : decode M.2.1 pc = .ok (.sipush n, 3)) (hv : (Int16.ofInt n).toInt32 = v) (k : gc l E M mc ms Tw ws cells slots L (pc + 3) (.int v :: st)) : gc l E M mc ms Tw ws cells slots L pc st := fun p e s m args below meth c hC hin A hA H locs ls hP hD hS hL => lv_sipush hC.1 hC.2.1 hd hv (k p e s m args below meth c hC hin A hA H locs ls hP hD hS hL)
theorem gc_iload_n {k : Fin 4} {i : Nat} {x : Int32} (q : Nat) (hd : decode M.2.1 pc = .ok (.iload_n k, 1)) (hi : (k : Nat) = i) (hq : L[q]? = some (i, .int x)) (kk : gc l E M mc ms Tw ws cells slots L (pc + 1) (.int x :: st)) : gc l E M mc ms Tw ws cells slots L pc st := fun p e s m args below meth c hC hin A hA H locs ls hP hD hS hL => lv_iload_n hC.1 hC.2.1 hd hi (lv_at hL q hq) (kk p e s m args below meth c hC hin A hA H locs ls hP hD hS hL)
theorem gc_aload_n {k : Fin 4} {i : Nat} {x : Nat} (q : Nat) (hd : decode M.2.1 pc = .ok (.aload_n k, 1)) (hi : (k : Nat) = i) (hq : L[q]? = some (i, .ref x)) (kk : gc l E M mc ms Tw ws cells slots L (pc + 1) (.ref x :: st)) : gc l E M mc ms Tw ws cells slots L pc st := fun p e s m args below meth c hC hin A hA H locs ls hP hD hS hL => lv_aload_n hC.1 hC.2.1 hd hi (lv_at hL q hq) (kk p e s m args below meth c hC hin A hA H locs ls hP hD hS hL)
theorem gc_istore_n {k : Fin 4} {i : Nat} {x : Int32} (L2 : List (Nat × Value)) (hd : decode M.2.1 pc = .ok (.istore_n k, 1)) (hi : (k : Nat) = i) (hn : i < M.2.2.1) (hl : (i, Value.int x) :: L.filter (fun q => !(q.1 == i) && !(q.1 + 1 == i && q.2.category == 2)) = L2) (kk : gc l E M mc ms Tw ws cells slots L2 (pc + 1) st) : gc l E M mc ms Tw ws cells slots L pc (.int x :: st) := fun p e s m args below meth c hC hin A hA H locs ls hP hD hS hL => lv_istore_n hC.1 hC.2.1 hd hi hL hn hl (fun ls2 hL2 => kk p e s m args below meth c hC hin A hA H locs ls2 hP hD hS hL2)
theorem gc_iinc {i : Nat} {n : Int} {x : Int32} (v : Int32) (q : Nat) (L2 : List (Nat × Value)) (hd : decode M.2.1 pc = .ok (.iinc i n, 3)) (hq : L[q]? = some (i, .int x)) (hv : x + Int32.ofInt n = v) (hn : i < M.2.2.1) (hl : (i, Value.int v) :: L.filter (fun q => !(q.1 == i) && !(q.1 + 1 == i && q.2.category == 2)) = L2) (kk : gc l E M mc ms Tw ws cells slots L2 (pc + 3) st) : gc l E M mc ms Tw ws cells slots L pc st := fun p e s m args below meth c hC hin A hA H locs ls hP hD hS hL => lv_iinc hC.1 hC.2.1 hd hL hq hv hn hl (fun ls2 hL2 => kk p e s m args below meth c hC hin A hA H locs ls2 hP hD hS hL2)
theorem gc_icmp_ge_t {x y : Int32} {off : Int} (tgt : Nat) (hd : decode M.2.1 pc = .ok (.if_icmp .ge off, 3)) (ht : (pc : Int) + off = (tgt : Int)) (h : y ≤ x) (kt : gc l E M mc ms Tw ws cells slots L tgt st) : gc l E M mc ms Tw ws cells slots L pc (.int y :: .int x :: st) := fun p e s m args below meth c hC hin A hA H locs ls hP hD hS hL => lv_icmp_ge hC.1 hC.2.1 hd ht (fun _ => kt p e s m args below meth c hC hin A hA H locs ls hP hD hS hL) (fun h2 => absurd h h2)
theorem gc_icmp_ge_f {x y : Int32} {off : Int} (tgt : Nat) (hd : decode M.2.1 pc = .ok (.if_icmp .ge off, 3)) (ht : (pc : Int) + off = (tgt : Int)) (h : ¬ y ≤ x) (kf : gc l E M mc ms Tw ws cells slots L (pc + 3) st) : gc l E M mc ms Tw ws cells slots L pc (.int y :: .int x :: st) := fun p e s m args below meth c hC hin A hA H locs ls hP hD hS hL => lv_icmp_ge hC.1 hC.2.1 hd ht (fun h2 => absurd h2 h) (fun _ => kf p e s m args below meth c hC hin A hA H locs ls hP hD hS hL)
theorem gc_goto {off : Int} (tgt : Nat) (hd : decode M.2.1 pc = .ok (.goto off, 3)) (ht : (pc : Int) + off = (tgt : Int)) (k : gc l E M mc ms Tw ws cells slots L tgt st) : gc l E M mc ms Tw ws cells slots L pc st := fun p e s m args below meth c hC hin A hA H locs ls hP hD hS hL => lv_goto hC.1 hC.2.1 hd ht (k p e s m args below meth c hC hin A hA H locs ls hP hD hS hL)
theorem gc_obj {idx a : Nat} (hl : Cond.methodLink M.1 idx objectInit ∈ tx_ws) (hi : Cond.instanceMethod objectInit ∈ tx_ws) (hc : Cond.code objectInit ⟨#[0xb1]⟩ 1 none ∈ tx_ws) (hd : decode M.2.1 pc = .ok (.invokespecial idx, 3)) (hf : 1 ≤ M.2.2.2.2.frames) (hlo : (st.map fun v => v.category).sum + 12 ≤ M.2.2.2.2.locals) (kk : gc l E M mc ms Tw ws cells slots L (pc + 3) st) : gc l E M mc ms Tw ws cells slots L pc (.ref a :: st) := fun p e s m args below meth c hC hin A hA H locs ls hP hD hS hL =>
  W.objInit hC.1 hC.2.1 hC.2.2.2.1 (hC.2.2.2.2.1 _ hl) (hC.2.2.2.2.1 _ hi) (hC.2.2.2.2.1 _ hc) rfl (by rw [hC.2.2.1]; exact hL.1) rfl hd hf (by show 2 * 0 + _ + 12 ≤ _; omega) (kk p e s m args below meth c hC hin A hA H locs ls hP hD hS hL)
/-- the fields of a class as its new object has them -/
theorem gc_new {idx ci N : Nat} {C : String} {F : u_T} (fs : List Value) (ty : Nat → FieldType) (hin0 : ∀ w ∈ u_ws C F N, w ∈ tx_ws) (hty : ∀ k, k < N → parseFieldDescriptor (F k).2.2.1 = some (ty k)) (hl : Cond.classLink M.1 idx C ∈ tx_ws) (hi : Cond.instantiable C N ∈ tx_ws) (hini : Cond.initialized C ∈ tx_ws) (hc : tx_cl[ci]? = some (C, F, N)) (hfs : ∀ j, j < N → defaultValue (ty j) = vp_V fs j) (hcells : cells + 1 ≤ M.2.2.2.2.cells) (hslots : slots + N ≤ M.2.2.2.2.slots) (hd : decode M.2.1 pc = .ok (.new idx, 3)) (kk : ∀ q : Nat, gc l E M mc ms Tw (ws ++ [(q, .inr (ci, fs))]) (cells + 1) (slots + N) L (pc + 3) (.ref q :: st)) : gc l E M mc ms Tw ws cells slots L pc st := fun p e s m args below meth c hC hin A hA H locs ls hP hD hS hL =>
  va_new hC.1 hC.2.1 hC.2.2.2.2.1 hin0 ty hty hC.2.2.2.1 (hC.2.2.2.2.1 _ hl) (hC.2.2.2.2.1 _ hi) (hC.2.2.2.2.1 _ hini) hC.2.2.2.2.2.1 hP hD hS hA hc hfs hcells hslots hd (fun q H1 hP1 hD1 hS1 => kk q p e s m args below meth c hC hin A hA H1 locs ls hP1 hD1 hS1 hL)
theorem gc_newI {n : Int32} {N : Nat} (hw : Cond.arrayClass .int ∈ tx_ws) (hn : ¬ n < 0) (hN : n.toNatClampNeg = N) (hb : N * componentBytes .int ≤ 536870912) (hcells : cells + 1 ≤ M.2.2.2.2.cells) (hslots : slots + N ≤ M.2.2.2.2.slots) (hd : decode M.2.1 pc = .ok (.newarray .int, 2)) (kk : ∀ q : Nat, gc l E M mc ms Tw (ws ++ [(q, .inl (E.2.2.1, N, .inl (fun _ => 0)))]) (cells + 1) (slots + N) L (pc + 2) (.ref q :: st)) : gc l E M mc ms Tw ws cells slots L pc (.int n :: st) := fun p e s m args below meth c hC hin A hA H locs ls hP hD hS hL => by
  refine va_newa (atype := .int) (ty := .int) (a0 := (N, .inl (fun _ => 0))) hC.1 hC.2.1 (hC.2.2.2.2.1 _ hw) rfl hC.2.2.2.2.2.1 hP hD hS hA (fun cA => rfl) hn hN hb hcells hslots hd (fun q cA H1 hK1 hP1 hD1 hS1 => ?_)
  have h1 := va_nm_int (hK1.2 3 (cA, .int) rfl).2
  have h2 := va_nm_int (hK1.2 0 (E.2.2.1, .int) rfl).2
  obtain rfl : cA = E.2.2.1 := Option.some.inj (h1.symm.trans h2)
  exact kk q p e s m args below meth c hC hin A hA H1 locs ls hP1 hD1 hS1 hL
theorem gc_newZ {n : Int32} {N : Nat} (hw : Cond.arrayClass .boolean ∈ tx_ws) (hn : ¬ n < 0) (hN : n.toNatClampNeg = N) (hb : N * componentBytes .boolean ≤ 536870912) (hcells : cells + 1 ≤ M.2.2.2.2.cells) (hslots : slots + N ≤ M.2.2.2.2.slots) (hd : decode M.2.1 pc = .ok (.newarray .boolean, 2)) (kk : ∀ q : Nat, gc l E M mc ms Tw (ws ++ [(q, .inl (E.2.2.2.1, N, .inl (fun _ => 0)))]) (cells + 1) (slots + N) L (pc + 2) (.ref q :: st)) : gc l E M mc ms Tw ws cells slots L pc (.int n :: st) := fun p e s m args below meth c hC hin A hA H locs ls hP hD hS hL => by
  refine va_newa (atype := .boolean) (ty := .boolean) (a0 := (N, .inl (fun _ => 0))) hC.1 hC.2.1 (hC.2.2.2.2.1 _ hw) rfl hC.2.2.2.2.2.1 hP hD hS hA (fun cA => rfl) hn hN hb hcells hslots hd (fun q cA H1 hK1 hP1 hD1 hS1 => ?_)
  have h1 := va_nm_boolean (hK1.2 3 (cA, .boolean) rfl).2
  have h2 := va_nm_boolean (hK1.2 1 (E.2.2.2.1, .boolean) rfl).2
  obtain rfl : cA = E.2.2.2.1 := Option.some.inj (h1.symm.trans h2)
  exact kk q p e s m args below meth c hC hin A hA H1 locs ls hP1 hD1 hS1 hL
theorem gc_newF {idx : Nat} {n : Int32} {N : Nat} (hl : Cond.classLink M.1 idx R_Frame ∈ tx_ws) (hn : ¬ n < 0) (hN : n.toNatClampNeg = N) (hb : N * 4 ≤ 536870912) (hcells : cells + 1 ≤ M.2.2.2.2.cells) (hslots : slots + N ≤ M.2.2.2.2.slots) (hd : decode M.2.1 pc = .ok (.anewarray idx, 3)) (kk : ∀ q : Nat, gc l E M mc ms Tw (ws ++ [(q, .inl (E.2.2.2.2, N, .inr (.inr (.inr (.inr (fun _ => none))))))]) (cells + 1) (slots + N) L (pc + 3) (.ref q :: st)) : gc l E M mc ms Tw ws cells slots L pc (.int n :: st) := fun p e s m args below meth c hC hin A hA H locs ls hP hD hS hL => by
  refine va_newq hC.1 hC.2.1 hC.2.2.2.1 (hC.2.2.2.2.1 _ hl) hC.2.2.2.2.2.2.2.2.1 hC.2.2.2.2.2.1 hP hD hS hA hn hN hb hcells hslots hd (fun q cA H1 hK1 hP1 hD1 hS1 => ?_)
  obtain ⟨_, _, _, _, _, h1⟩ := (hK1.2 3 (cA, .object R_Frame) rfl).2
  obtain ⟨_, _, _, _, _, h2⟩ := (hK1.2 2 (E.2.2.2.2, .object R_Frame) rfl).2
  obtain rfl : cA = E.2.2.2.2 := Option.some.inj (h1.symm.trans h2)
  exact kk q p e s m args below meth c hC hin A hA H1 locs ls hP1 hD1 hS1 hL
theorem gc_putF {idx ci N a : Nat} {C : String} {F : u_T} (ty0 : Nat → FieldType) {fs : List Value} {v : Value} {ty : FieldType} (q0 k : Nat) (hin0 : ∀ w ∈ u_ws C F N, w ∈ tx_ws) (hty : ∀ k, k < N → parseFieldDescriptor (F k).2.2.1 = some (ty0 k)) (hnm : ∀ a, a < N → ∀ b, b < N → a ≠ b → (F a).2.1 ≠ (F b).2.1) (he : ws[q0]? = some (a, .inr (ci, fs))) (hc : tx_cl[ci]? = some (C, F, N)) (hk : k < N) (hl : Cond.fieldLink M.1 idx C (F k).2.1 (F k).2.2.1 ∈ tx_ws) (ho : (F k).1 = C) (hf : (F k).2.2.2 = true) (hM : C = M.1) (hd0 : parseFieldDescriptor (F k).2.2.1 = some ty) (hn : narrow ty v = v) (hfit : fits ty v = true) (hlen : k < fs.length) (hd : decode M.2.1 pc = .ok (.putfield idx, 3)) (kk : gc l E M mc ms Tw (ws.set q0 (a, .inr (ci, fs.set k v))) cells slots L (pc + 3) st) : gc l E M mc ms Tw ws cells slots L pc (v :: .ref a :: st) := fun p e s m args below meth c hC hin A hA H locs ls hP hD hS hL =>
  va_putF hC.1 hC.2.1 hC.2.2.2.2.1 hin0 ty0 hty hnm hC.2.2.2.1 hC.2.2.2.2.2.1 hP hD hS q0 he hc k hk (hC.2.2.2.2.1 _ hl) (fun x h => ho ▸ h) hf hin (ho.trans hM) hd0 hn hfit hlen hd (fun H1 locs1 hP1 hD1 hS1 => kk p e s m args below meth c hC hin A hA H1 locs1 ls hP1 hD1 hS1 hL)
theorem gc_put {idx ci N a : Nat} {C : String} {F : u_T} (ty0 : Nat → FieldType) {fs : List Value} {v : Value} {ty : FieldType} (q0 k : Nat) (hin0 : ∀ w ∈ u_ws C F N, w ∈ tx_ws) (hty : ∀ k, k < N → parseFieldDescriptor (F k).2.2.1 = some (ty0 k)) (hnm : ∀ a, a < N → ∀ b, b < N → a ≠ b → (F a).2.1 ≠ (F b).2.1) (he : ws[q0]? = some (a, .inr (ci, fs))) (hc : tx_cl[ci]? = some (C, F, N)) (hk : k < N) (hl : Cond.fieldLink M.1 idx C (F k).2.1 (F k).2.2.1 ∈ tx_ws) (ho : (F k).1 = C) (hf : (F k).2.2.2 = false) (hd0 : parseFieldDescriptor (F k).2.2.1 = some ty) (hn : narrow ty v = v) (hfit : fits ty v = true) (hlen : k < fs.length) (hd : decode M.2.1 pc = .ok (.putfield idx, 3)) (kk : gc l E M mc ms Tw (ws.set q0 (a, .inr (ci, fs.set k v))) cells slots L (pc + 3) st) : gc l E M mc ms Tw ws cells slots L pc (v :: .ref a :: st) := fun p e s m args below meth c hC hin A hA H locs ls hP hD hS hL =>
  va_put hC.1 hC.2.1 hC.2.2.2.2.1 hin0 ty0 hty hnm hC.2.2.2.1 hC.2.2.2.2.2.1 hP hD hS q0 he hc k hk (hC.2.2.2.2.1 _ hl) (fun x h => ho ▸ h) hf hd0 hn hfit hlen hd (fun H1 locs1 hP1 hD1 hS1 => kk p e s m args below meth c hC hin A hA H1 locs1 ls hP1 hD1 hS1 hL)
theorem gc_get {idx ci N a : Nat} {C : String} {F : u_T} {fs : List Value} {v : Value} (q0 k : Nat) (hin0 : ∀ w ∈ u_ws C F N, w ∈ tx_ws) (he : ws[q0]? = some (a, .inr (ci, fs))) (hc : tx_cl[ci]? = some (C, F, N)) (hk : k < N) (hl : Cond.fieldLink M.1 idx C (F k).2.1 (F k).2.2.1 ∈ tx_ws) (ho : (F k).1 = C) (hv : fs[k]? = some v) (hd : decode M.2.1 pc = .ok (.getfield idx, 3)) (kk : gc l E M mc ms Tw ws cells slots L (pc + 3) (v :: st)) : gc l E M mc ms Tw ws cells slots L pc (.ref a :: st) := fun p e s m args below meth c hC hin A hA H locs ls hP hD hS hL =>
  va_get hC.1 hC.2.1 hC.2.2.2.2.1 hin0 hC.2.2.2.1 hC.2.2.2.2.2.1 hP q0 he hc k hk (hC.2.2.2.2.1 _ hl) (fun x h => ho ▸ h) hv hd (kk p e s m args below meth c hC hin A hA H locs ls hP hD hS hL)
theorem gc_iast {a n : Nat} {f : Nat → Int32} {i x : Int32} (q0 : Nat) (he : ws[q0]? = some (a, .inl (E.2.2.1, n, .inl f))) (hv : vp_in i n) (hd : decode M.2.1 pc = .ok (.iastore, 1)) (kk : gc l E M mc ms Tw (ws.set q0 (a, .inl (E.2.2.1, n, .inl (upd f i.toNatClampNeg x)))) cells slots L (pc + 1) st) : gc l E M mc ms Tw ws cells slots L pc (.int x :: .int i :: .ref a :: st) := fun p e s m args below meth c hC hin A hA H locs ls hP hD hS hL =>
  va_iast hC.1 hC.2.1 hC.2.2.2.2.2.1 hP hD hS q0 0 he rfl hv hd (fun H1 locs1 hP1 hD1 hS1 => kk p e s m args below meth c hC hin A hA H1 locs1 ls hP1 hD1 hS1 hL)
theorem gc_aast {a n v : Nat} {vs : List Value} {f : Nat → Option Nat} {i : Int32} (q0 qk : Nat) (he : ws[q0]? = some (a, .inl (E.2.2.2.2, n, .inr (.inr (.inr (.inr f)))))) (hk : ws[qk]? = some (v, .inr (6, vs))) (hv : vp_in i n) (hd : decode M.2.1 pc = .ok (.aastore, 1)) (kk : gc l E M mc ms Tw (ws.set q0 (a, .inl (E.2.2.2.2, n, .inr (.inr (.inr (.inr (va_up f i.toNatClampNeg (some v)))))))) cells slots L (pc + 1) st) : gc l E M mc ms Tw ws cells slots L pc (.ref v :: .int i :: .ref a :: st) := fun p e s m args below meth c hC hin A hA H locs ls hP hD hS hL =>
  va_astq hC.1 hC.2.1 hC.2.2.2.2.2.1 hP hD hS q0 2 qk 6 (r := (R_Frame, F_Frame, 5)) he rfl hk rfl hv hd (fun H1 locs1 hP1 hD1 hS1 => kk p e s m args below meth c hC hin A hA H1 locs1 ls hP1 hD1 hS1 hL)
theorem gc_vret (hd : decode M.2.1 pc = .ok (.return_, 1)) (hr : M.2.2.2.1 = none) (hT : Tw ws) (hc : cells = mc) (hs : slots = ms) : gc l E M mc ms Tw ws cells slots L pc [] := fun p e s m args below meth c hC hin A hA H locs ls hP hD hS hL => by
  subst hc hs
  exact W.vret hC.1 hC.2.1 (hC.2.2.2.2.2.2.1.trans hr) (fun t ht hW => ⟨rfl, ⟨ws, hT, by rw [ht]; exact hP, hD⟩, hS.F ht⟩) hS.2.2 hd hC.2.2.2.2.2.2.2.1
theorem tc_blind {E : tx_E} {w0 : va_W} {av : List Value} {sz : Nat} : FrameBlind (va_Pc av (fun U => U.heap.size = sz ∧ va_P E.2.1 tx_cl w0 U.heap ∧ va_K E.2.1 tx_cl (tx_ty E) U ∧ tc_X U)) := fun a U g mk q => by
  obtain ⟨q0, q1, q2, q3, q4⟩ := q
  exact ⟨q0, q1, q2, va_K.moved (u := U) (U := U.calling g mk a) (Vm.Alike.refl U.vm) q3, tc_X.same (s := U) (U := U.calling g mk a) rfl q4⟩
/-- what the tables say of a constructor -/
def tc_CM (y : MethodName) (My : tx_M) (n : Nat) : Prop := tx_CM y My n ∧ Cond.instanceMethod y ∈ tx_ws ∧ y.name = "<init>" ∧ My.2.2.2.1 = none
theorem gc_call {idx n q mc1 ms1 : Nat} {y : MethodName} {My : tx_M} {As st0 : List Value} {wr : va_W} {e0 : va_E} {Ty : va_W → Prop} (cm : tc_CM y My n) (lk : tc_LK M.1 idx y) (hM : tc_MC l E y My As q e0 mc1 ms1 Ty) (hws : ws = wr ++ [(q, e0)]) (hn : As.length = n) (hst : st0 = As.reverse ++ .ref q :: st) (f1 : My.2.2.2.2.cells = mc1) (f2 : My.2.2.2.2.slots = ms1) (f3 : My.2.2.2.2.frames + 1 ≤ M.2.2.2.2.frames) (f4 : 8 + (My.2.2.1 + 11) + My.2.2.2.2.locals ≤ M.2.2.2.2.locals) (hW : (st.map fun v => v.category).sum ≤ 8) (hcells : cells + mc1 ≤ M.2.2.2.2.cells) (hslots : slots + ms1 ≤ M.2.2.2.2.slots) (hd : decode M.2.1 pc = .ok (.invokespecial idx, 3))
    (kk : ∀ w1 : va_W, Ty w1 → gc l E M mc ms Tw (wr ++ w1) (cells + mc1) (slots + ms1) L (pc + 3) st) : gc l E M mc ms Tw ws cells slots L pc st0 := by
  intro p e s m args below meth c hC hin A hA H locs ls hP hD hS hL
  subst hst hws
  obtain ⟨⟨hcl, hcode, hini, hd1, hd2, hpn⟩, hinst, hnm, hr0⟩ := cm
  have hts := hC.2.2.2.2.1
  have last : (wr ++ [(q, e0)])[wr.length]? = some (q, e0) := by simp
  have hFc : ∀ x, va_A [(q, e0)] H.size x → A x := by
    intro x h
    rcases h with ⟨k2, e1, h⟩ | h
    · have h2 := (List.getElem?_eq_some_iff.mp h).1
      simp only [List.length_cons, List.length_nil] at h2
      have : k2 = 0 := by omega
      subst this
      simp only [List.getElem?_cons_zero, Option.some.injEq, Prod.mk.injEq] at h
      rw [← h.1]
      exact hD.2 wr.length (q, e0) last
    · exact hA x (Nat.le_trans hS.1 h)
  have hPc : va_P E.2.1 tx_cl [(q, e0)] H := by
    intro k x hx
    have h2 := (List.getElem?_eq_some_iff.mp hx).1
    simp only [List.length_cons, List.length_nil] at h2
    have : k = 0 := by omega
    subst this
    simp only [List.getElem?_cons_zero, Option.some.injEq] at hx
    exact hx ▸ hP wr.length (q, e0) last
  have hpre : PreS s H (va_Pc (.ref q :: As) (fun U => U.heap.size = H.size ∧ va_P E.2.1 tx_cl [(q, e0)] U.heap ∧ va_K E.2.1 tx_cl (tx_ty E) U ∧ tc_X U)) (.ref q :: As) :=
    ⟨tc_blind, fun U hU hW => ⟨rfl, by rw [hU], by rw [hU]; exact hPc, va_K.moved hW.alike hC.2.2.2.2.2.1, hC.2.2.2.2.2.2.2.2.warm hW⟩⟩
  have go : ∀ hr : va_Run p l e M.2.2.2.2 s m args below meth c H locs cells slots mc1 ms1 (F0 m pc ls (As.reverse ++ .ref q :: st)) st (tc_Q E Ty (va_A [(q, e0)] H.size) (Value.ref q :: As).toArray) (va_A [(q, e0)] H.size), W p l e M.2.2.2.2 s m args below meth c H locs cells slots (MQ below (tc_Q E Tw A) args s mc ms A) (F0 m pc ls (As.reverse ++ .ref q :: st)) := by
    intro hr T hT X
    obtain ⟨v, st₀, t, T', L1, h0, X', hL1, e1, e2, ⟨hv, ⟨w1, hw1, hP1, hD1⟩, hz, hk⟩, sp⟩ := hr T hT X
    cases hv
    rw [h0] at hz hk
    rw [← e1] at hP1 hz
    have hk' : ∀ x : Nat, x < H.size → ¬ va_A [(q, e0)] H.size x → T'.heap[x]? = H[x]? := fun x h1 h2 => by rw [e1]; exact hk x h1 h2
    obtain ⟨hP2, hD2⟩ := tc_join hP hD hk' hFc hP1 hD1
    obtain ⟨t2, a1, b1⟩ := kk w1 hw1 p e s m args below meth c hC hin A hA T'.heap (locs ++ L1) ls hP2 hD2
      ⟨Nat.le_trans hS.1 hz, fun x h1 h2 => (hk' x (Nat.lt_of_lt_of_le h1 hS.1) (fun z => h2 (hFc x z))).trans (hS.2.1 x h1 h2), fun x hx => by
        rcases List.mem_append.mp hx with h | h
        · exact hS.2.2 x h
        · exact hFc _ (hL1 x h)⟩ hL T' rfl X'
    exact ⟨t2, sp t2 a1, b1⟩
  obtain ⟨Mo, Mb, Mn, Mr, MR⟩ := My
  dsimp only at *
  subst hr0
  rcases lk with lk | ⟨host, lk⟩
  · exact go (va_runI (As := As) (rest := st) ⟨hC.1, hC.2.1, hC.2.2.1, hC.2.2.2.1, hts⟩ (hM H.size) ⟨callB_of n hts (tx_good tx_ws_good hcode) rfl f1 f2 (hts _ hini) (hts _ lk) ⟨hd1, hd2, hpn⟩ ⟨f3, f4⟩, hnm, hts _ hinst⟩ hpre rfl hn hL.1 rfl (lv_room hW) hd ⟨hcells, hslots⟩)
  · exact go (va_runIN (As := As) (rest := st) ⟨hC.1, hC.2.1, hC.2.2.1, hC.2.2.2.1, hts⟩ (hM H.size) ⟨va_cnB n hts (tx_good tx_ws_good hcode) rfl f1 f2 (lk s hC.2.2.2.2.2.2.2.2) (hts _ hini) ⟨hd1, hd2, hpn⟩ ⟨f3, f4⟩, hnm, hts _ hinst⟩ hpre rfl hn hL.1 rfl (lv_room hW) hd ⟨hcells, hslots⟩)
end GC
