/-! The law's own walk: gl, the world at σ, the script xs of na ints at the cell b; its end is the claim's. -/
def R_law : String := "TamedClassSetLaw"
def lw_Q (_ : Array Value) (s : State) (o : Outcome) (t : State) : Prop := o = .returned (some (.int 1)) ∧ Framed s o t [] 600000 7302250
def lw_Z (below : List Frame) (a : Array Value) (s : State) : State → Prop := fun t => ∃ o, t.status = .running ∧ Ended t below o ∧ lw_Q a s o t
theorem lw_ret {p : Program} {l : Launch} {e : Env} {s : State} {m : MethodId} {below : List Frame} {meth : Method} {c : Code} {b : Nat} (hx : p.tables.exec = Jvm.exec) (hb : c.code = code) (hr : meth.sig.returnType = ret) (hlocks : meth.locks = false) {pc : Nat} {H : Heap} {ls : Array Slot} (hdg : decode code pc = .ok (.ireturn, 1)) : W p l e room_1 s m #[Value.ref b] below meth c H [] 600000 7302250 (lw_Z below #[Value.ref b] s) (F0 m pc ls [.int 1]) := by
  intro T hT X
  obtain ⟨fs, hret, hrun, hended, hW, hframe⟩ := X.leave (v := some (.int 1)) (hlocks := hlocks) (fun h => by rw [hr] at h; cases h)
  have hmeth' : T.vm.method? m = some meth := X.method'
  refine ⟨T.setFrames fs, ?_, .returned (some (.int 1)), hrun, hended, rfl, ⟨_, rfl⟩, hW, hframe⟩
  jvm_step X.here [X.here.top, hx, hb, hdg, hmeth', hr, ret, narrow_b1]
  (try refine ⟨rfl, ?_⟩); (try refine ⟨rfl, ?_⟩)
  first | (intro acts; rw [hret _ acts rfl rfl rfl]) | rw [hret _ _ rfl rfl rfl]
  exact Steps.refl _
def lw_At (p : Program) (s : State) (m : MethodId) (meth : Method) (c : Code) (b L : Nat) (xs : Nat → Int32) : Prop :=
  p.tables.exec = Jvm.exec ∧ c.code = code ∧ meth.sig.returnType = ret ∧ c.maxLocals = 4 ∧ s.vm.findClass R_law = some m.cls ∧ (∀ w ∈ lw_tbl, w.before #[Value.ref b] s = true) ∧ va_X b L xs s s.heap ∧ b < s.heap.size ∧ meth.locks = false ∧ (Jvm.Cond.and given_1 narrow_1).before #[Value.ref b] s = true
def gl (l : Launch) (E : tx_E) (b na : Nat) (xs : Nat → Int32) (σ : tx_St) (L : List (Nat × Value)) (pc : Nat) (st : List Value) : Prop :=
  ∀ (p : Program) (e : Env) (s : State) (m : MethodId) (below : List Frame) (meth : Method) (c : Code), lw_At p s m meth c b na xs → va_K E.2.1 tx_cl (tx_ty E) s → tx_J E → (∀ k, k < 69 → s.heap.size ≤ E.1 k) →
    ∀ (H : Heap) (locs : List Loc) (ls : Array Slot), va_P E.2.1 tx_cl (tx_w E σ) H → va_S (tx_A E) s.heap H locs → lv_has ls 4 L →
      W p l e room_1 s m #[Value.ref b] below meth c H locs 600000 7302250 (lw_Z below #[Value.ref b] s) (F0 m pc ls st)
def tx_rs {β : Type} (xs : Nat → Int32) (n : Nat) (i : Int32) (k : Int32 → Option β) : Option β := if i < 0 ∨ n ≤ i.toNatClampNeg then none else k (xs i.toNatClampNeg)
theorem tx_rs_some {β : Type} {xs : Nat → Int32} {n : Nat} {i : Int32} {k : Int32 → Option β} {t : β} (h : tx_rs xs n i k = some t) : ∃ v, xs i.toNatClampNeg = v ∧ vp_in i n ∧ k v = some t := by
  unfold tx_rs at h
  split at h
  · cases h
  · rename_i hn
    exact ⟨_, rfl, hn, h⟩
section GL
variable {l : Launch} {E : tx_E} {b na : Nat} {xs : Nat → Int32} {σ : tx_St} {L : List (Nat × Value)} {pc : Nat} {st : List Value}
theorem gl_iadd {x y : Int32} (hd : decode code pc = .ok (.iadd, 1))  (k : gl l E b na xs σ L (pc + 1) (.int (x + y) :: st)) : gl l E b na xs σ L pc (.int y :: .int x :: st) := fun p e s m below meth c hC hK hJ hN H locs ls hP hS hL => lv_iadd hC.1 hC.2.1 hd (k p e s m below meth c hC hK hJ hN H locs ls hP hS hL)
theorem gl_isub {x y : Int32} (hd : decode code pc = .ok (.isub, 1))  (k : gl l E b na xs σ L (pc + 1) (.int (x - y) :: st)) : gl l E b na xs σ L pc (.int y :: .int x :: st) := fun p e s m below meth c hC hK hJ hN H locs ls hP hS hL => lv_isub hC.1 hC.2.1 hd (k p e s m below meth c hC hK hJ hN H locs ls hP hS hL)
theorem gl_iand {x y : Int32} (hd : decode code pc = .ok (.iand, 1))  (k : gl l E b na xs σ L (pc + 1) (.int (x &&& y) :: st)) : gl l E b na xs σ L pc (.int y :: .int x :: st) := fun p e s m below meth c hC hK hJ hN H locs ls hP hS hL => lv_iand hC.1 hC.2.1 hd (k p e s m below meth c hC hK hJ hN H locs ls hP hS hL)
theorem gl_lcmp {x y : Int64} (hd : decode code pc = .ok (.lcmp, 1))  (k : gl l E b na xs σ L (pc + 1) (.int (lg_cmp x y) :: st)) : gl l E b na xs σ L pc (.long y :: .long x :: st) := fun p e s m below meth c hC hK hJ hN H locs ls hP hS hL => W.lcmp hC.1 hC.2.1 hd (k p e s m below meth c hC hK hJ hN H locs ls hP hS hL)
theorem gl_iconst {n : Int} (v : Int32) (hd : decode code pc = .ok (.iconst n, 1)) (hv : Int32.ofInt n = v) (k : gl l E b na xs σ L (pc + 1) (.int v :: st)) : gl l E b na xs σ L pc st := fun p e s m below meth c hC hK hJ hN H locs ls hP hS hL => lv_iconst hC.1 hC.2.1 hd hv (k p e s m below meth c hC hK hJ hN H locs ls hP hS hL)
theorem gl_bipush {n : Int} (v : Int32) (hd : decode code pc = .ok (.bipush n, 2)) (hv : (Int8.ofInt n).toInt32 = v) (k : gl l E b na xs σ L (pc + 2) (.int v :: st)) : gl l E b na xs σ L pc st := fun p e s m below meth c hC hK hJ hN H locs ls hP hS hL => lv_bipush hC.1 hC.2.1 hd hv (k p e s m below meth c hC hK hJ hN H locs ls hP hS hL)
theorem gl_iload_n {k : Fin 4} {i : Nat} {x : Int32} (q : Nat) (hd : decode code pc = .ok (.iload_n k, 1)) (hi : (k : Nat) = i) (hq : L[q]? = some (i, .int x)) (kk : gl l E b na xs σ L (pc + 1) (.int x :: st)) : gl l E b na xs σ L pc st := fun p e s m below meth c hC hK hJ hN H locs ls hP hS hL => lv_iload_n hC.1 hC.2.1 hd hi (lv_at hL q hq) (kk p e s m below meth c hC hK hJ hN H locs ls hP hS hL)
theorem gl_aload_n {k : Fin 4} {i : Nat} {x : Nat} (q : Nat) (hd : decode code pc = .ok (.aload_n k, 1)) (hi : (k : Nat) = i) (hq : L[q]? = some (i, .ref x)) (kk : gl l E b na xs σ L (pc + 1) (.ref x :: st)) : gl l E b na xs σ L pc st := fun p e s m below meth c hC hK hJ hN H locs ls hP hS hL => lv_aload_n hC.1 hC.2.1 hd hi (lv_at hL q hq) (kk p e s m below meth c hC hK hJ hN H locs ls hP hS hL)
theorem gl_istore_n {k : Fin 4} {i : Nat} {x : Int32} (L2 : List (Nat × Value)) (hd : decode code pc = .ok (.istore_n k, 1)) (hi : (k : Nat) = i) (hn : i < 4) (hl : (i, Value.int x) :: L.filter (fun q => !(q.1 == i) && !(q.1 + 1 == i && q.2.category == 2)) = L2) (kk : gl l E b na xs σ L2 (pc + 1) st) : gl l E b na xs σ L pc (.int x :: st) := fun p e s m below meth c hC hK hJ hN H locs ls hP hS hL => lv_istore_n hC.1 hC.2.1 hd hi hL hn hl (fun ls2 hL2 => kk p e s m below meth c hC hK hJ hN H locs ls2 hP hS hL2)
theorem gl_iinc {i : Nat} {n : Int} {x : Int32} (v : Int32) (q : Nat) (L2 : List (Nat × Value)) (hd : decode code pc = .ok (.iinc i n, 3)) (hq : L[q]? = some (i, .int x)) (hv : x + Int32.ofInt n = v) (hn : i < 4) (hl : (i, Value.int v) :: L.filter (fun q => !(q.1 == i) && !(q.1 + 1 == i && q.2.category == 2)) = L2) (kk : gl l E b na xs σ L2 (pc + 3) st) : gl l E b na xs σ L pc st := fun p e s m below meth c hC hK hJ hN H locs ls hP hS hL => lv_iinc hC.1 hC.2.1 hd hL hq hv hn hl (fun ls2 hL2 => kk p e s m below meth c hC hK hJ hN H locs ls2 hP hS hL2)
theorem gl_sub {L2 : List (Nat × Value)} (ks : List Nat) (hl : lv_pick L ks = L2) (k : gl l E b na xs σ L2 pc st) : gl l E b na xs σ L pc st := fun p e s m below meth c hC hK hJ hN H locs ls hP hS hL => k p e s m below meth c hC hK hJ hN H locs ls hP hS (lv_sub hL ks hl)
theorem gl_if_eq {x : Int32} {off : Int} (tgt : Nat) (hd : decode code pc = .ok (.ifCond .eq off, 3)) (ht : (pc : Int) + off = (tgt : Int)) (kt : x = 0 → gl l E b na xs σ L tgt st) (kf : ¬ x = 0 → gl l E b na xs σ L (pc + 3) st) : gl l E b na xs σ L pc (.int x :: st) := fun p e s m below meth c hC hK hJ hN H locs ls hP hS hL => lv_if_eq hC.1 hC.2.1 hd ht (fun h => kt h p e s m below meth c hC hK hJ hN H locs ls hP hS hL) (fun h => kf h p e s m below meth c hC hK hJ hN H locs ls hP hS hL)
theorem gl_icmp_eq {x y : Int32} {off : Int} (tgt : Nat) (hd : decode code pc = .ok (.if_icmp .eq off, 3)) (ht : (pc : Int) + off = (tgt : Int)) (kt : x = y → gl l E b na xs σ L tgt st) (kf : ¬ x = y → gl l E b na xs σ L (pc + 3) st) : gl l E b na xs σ L pc (.int y :: .int x :: st) := fun p e s m below meth c hC hK hJ hN H locs ls hP hS hL => lv_icmp_eq hC.1 hC.2.1 hd ht (fun h => kt h p e s m below meth c hC hK hJ hN H locs ls hP hS hL) (fun h => kf h p e s m below meth c hC hK hJ hN H locs ls hP hS hL)
theorem gl_icmp_gt {x y : Int32} {off : Int} (tgt : Nat) (hd : decode code pc = .ok (.if_icmp .gt off, 3)) (ht : (pc : Int) + off = (tgt : Int)) (kt : y < x → gl l E b na xs σ L tgt st) (kf : ¬ y < x → gl l E b na xs σ L (pc + 3) st) : gl l E b na xs σ L pc (.int y :: .int x :: st) := fun p e s m below meth c hC hK hJ hN H locs ls hP hS hL => lv_icmp_gt hC.1 hC.2.1 hd ht (fun h => kt h p e s m below meth c hC hK hJ hN H locs ls hP hS hL) (fun h => kf h p e s m below meth c hC hK hJ hN H locs ls hP hS hL)
theorem gl_goto {off : Int} (tgt : Nat) (hd : decode code pc = .ok (.goto off, 3)) (ht : (pc : Int) + off = (tgt : Int)) (k : gl l E b na xs σ L tgt st) : gl l E b na xs σ L pc st := fun p e s m below meth c hC hK hJ hN H locs ls hP hS hL => lv_goto hC.1 hC.2.1 hd ht (k p e s m below meth c hC hK hJ hN H locs ls hP hS hL)
theorem gl_tabIn {dflt lo hi : Int} {offs : Array Int} {len : Nat} {x : Int32} {off : Int} (tgt : Nat) (hd : decode code pc = .ok (.tableswitch dflt lo hi offs, len)) (h1 : ¬ x.toInt < lo) (h2 : ¬ hi < x.toInt) (ho : offs[(x.toInt - lo).toNat]? = some off) (ht : (pc : Int) + off = (tgt : Int)) (k : gl l E b na xs σ L tgt st) : gl l E b na xs σ L pc (.int x :: st) := fun p e s m below meth c hC hK hJ hN H locs ls hP hS hL => lv_tableIn hC.1 hC.2.1 hd h1 h2 ho ht (k p e s m below meth c hC hK hJ hN H locs ls hP hS hL)
theorem gl_tabOut {dflt lo hi : Int} {offs : Array Int} {len : Nat} {x : Int32} (tgt : Nat) (hd : decode code pc = .ok (.tableswitch dflt lo hi offs, len)) (h : x.toInt < lo ∨ hi < x.toInt) (ht : (pc : Int) + dflt = (tgt : Int)) (k : gl l E b na xs σ L tgt st) : gl l E b na xs σ L pc (.int x :: st) := fun p e s m below meth c hC hK hJ hN H locs ls hP hS hL => lv_tableOut hC.1 hC.2.1 hd h ht (k p e s m below meth c hC hK hJ hN H locs ls hP hS hL)
theorem gl_nb {E : tx_E} {s : State} {b : Nat} (hN : ∀ k, k < 69 → s.heap.size ≤ E.1 k) (hb : b < s.heap.size) : ¬ tx_A E b := fun ⟨k, hk, h⟩ => by
  have := hN k hk
  omega
theorem gl_slen (hd : decode code pc = .ok (.arraylength, 1)) (kk : gl l E b na xs σ L (pc + 1) (.int (Int32.ofNat na) :: st)) : gl l E b na xs σ L pc (.ref b :: st) := fun p e s m below meth c hC hK hJ hN H locs ls hP hS hL =>
  va_slen hC.1 hC.2.1 hC.2.2.2.2.2.2.1 hC.2.2.2.2.2.2.2.1 (gl_nb hN hC.2.2.2.2.2.2.2.1) hS hd (kk p e s m below meth c hC hK hJ hN H locs ls hP hS hL)
theorem gl_sld {i : Int32} (v : Int32) (hd : decode code pc = .ok (.iaload, 1)) (hi : vp_in i na) (hv : xs i.toNatClampNeg = v) (kk : gl l E b na xs σ L (pc + 1) (.int v :: st)) : gl l E b na xs σ L pc (.int i :: .ref b :: st) := fun p e s m below meth c hC hK hJ hN H locs ls hP hS hL => by
  subst hv
  exact va_sld hC.1 hC.2.1 hC.2.2.2.2.2.2.1 hC.2.2.2.2.2.2.2.1 (gl_nb hN hC.2.2.2.2.2.2.2.1) hS hi hd (kk p e s m below meth c hC hK hJ hN H locs ls hP hS hL)
theorem gl_ret1 (hd : decode code pc = .ok (.ireturn, 1)) : gl l E b na xs σ L pc [.int (1 : Int32)] := fun p e s m below meth c hC hK hJ hN H locs ls hP hS hL =>
  va_forget (fun q hq => by
    obtain ⟨k, hk, h⟩ := hS.2.2 q hq
    rw [h]
    exact hN k hk) (lw_ret hC.1 hC.2.1 hC.2.2.1 hC.2.2.2.2.2.2.2.2.1 hd)
def tl_fit (My : tx_M) : Prop := My.2.2.2.2.cells = 0 ∧ My.2.2.2.2.slots = 0 ∧ My.2.2.2.2.frames + 1 ≤ room_1.frames ∧ 8 + (My.2.2.1 + 11) + My.2.2.2.2.locals ≤ room_1.locals
theorem tl_run {p : Program} {e : Env} {R : Room} {s : State} {m : MethodId} {args : Array Value} {below : List Frame} {meth : Method} {c : Code} {H : Heap} {locs : List Loc} {Q : State → Prop} {l : Launch} {E : tx_E} {Ty : tx_R} {pc cells slots : Nat} {ls : Array Slot} {rest st0 : List Value} {a : Array Value}
    (hr : va_Run p l e R s m args below meth c H locs cells slots 0 0 (F0 m pc ls st0) rest (tx_Q E Ty a) (tx_A E)) (hS : va_S (tx_A E) s.heap H locs)
    (kk : ∀ (H1 : Heap) (locs1 : List Loc), va_P E.2.1 tx_cl (tx_w E Ty.2) H1 → va_S (tx_A E) s.heap H1 locs1 → W p l e R s m args below meth c H1 locs1 cells slots Q (F0 m (pc + 3) ls (Ty.1.toList ++ rest))) : W p l e R s m args below meth c H locs cells slots Q (F0 m pc ls st0) := by
  intro T hT X
  obtain ⟨v, st₀, t, T', L, h0, X', hL, e1, e2, ⟨hv, hp, hb, hz, hk⟩, st⟩ := hr T hT X
  cases hv
  rw [h0] at hz hk
  obtain ⟨t2, a1, b1⟩ := kk T'.heap (locs ++ L) (by rw [e1]; exact hp)
    ⟨Nat.le_trans hS.1 (by rw [e1]; exact hz), fun q h1 h2 => by rw [e1, hk q (Nat.lt_of_lt_of_le h1 hS.1) h2]; exact hS.2.1 q h1 h2, fun q hq => by
      rcases List.mem_append.mp hq with h | h
      · exact hS.2.2 q h
      · exact hL q h⟩ T' rfl X'
  exact ⟨t2, st t2 a1, b1⟩
theorem gl_callV {idx n ci k N : Nat} {y : MethodName} {My : tx_M} {Ty : tx_R} {As rest st0 : List Value} {fs : List (Option Nat)} (cm : tx_CV y My n ci) (lk : tx_LK R_law idx y) (hM : tx_MX l E y My Ty (.ref (E.1 k) :: As) σ) (hs : tx_sh k = (ci + 3, N, fs)) (hN0 : N ≠ 0) (hn : As.length = n) (hst : st0 = As.reverse ++ .ref (E.1 k) :: rest) (hfit : tl_fit My) (hW : (rest.map fun v => v.category).sum ≤ 8) (hd : decode code pc = .ok (.invokevirtual idx, 3)) (kk : gl l E b na xs Ty.2 L (pc + 3) (Ty.1.toList ++ rest)) : gl l E b na xs σ L pc st0 := by
  intro p e s m below meth c hC hK hJ hN H locs ls hP hS hL
  subst hst
  obtain ⟨⟨hcl, hcode, hini, hd1, hd2, hpn⟩, hinst, hsel, F, N2, hci⟩ := cm
  obtain ⟨f1, f2, f3, f4⟩ := hfit
  have hts : ∀ w ∈ tx_ws, w.before #[Value.ref b] s = true := fun w hw => hC.2.2.2.2.2.1 w (List.mem_filter.mp hw).1
  have hpre : PreV s H y.cls (E.1 k) (va_Pc (.ref (E.1 k) :: As) (fun U => tx_J E ∧ va_P E.2.1 tx_cl (tx_w E σ) U.heap ∧ va_K E.2.1 tx_cl (tx_ty E) U)) As :=
    ⟨tx_blind, va_recv hK hP hci (tx_w_o hs hN0), fun U hU hW => ⟨rfl, hJ, by rw [hU]; exact hP, va_K.moved hW.alike hK⟩⟩
  rcases lk with lk | ⟨host, lk⟩
  · exact tl_run (va_runV (As := As) (rest := rest) ⟨hC.1, hC.2.1, hC.2.2.2.1, hC.2.2.2.2.1, hts⟩ hM ⟨callB_of n hts (tx_good tx_ws_good hcode) rfl f1 f2 (hts _ hini) (hts _ lk) ⟨hd1, hd2, hpn⟩ ⟨f3, f4⟩, hts _ hinst, hts _ hsel⟩ hpre rfl hn hL.1 rfl (lv_room hW) hd ⟨Nat.le_of_ble_eq_true rfl, Nat.le_of_ble_eq_true rfl⟩) hS (fun H1 locs1 hP1 hS1 => kk p e s m below meth c hC hK hJ hN H1 locs1 ls hP1 hS1 hL)
  · have hg := tx_ws_good _ lk
    cases hg
end GL
