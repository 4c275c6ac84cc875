section GX
variable {l : Launch} {E : tx_E} {M : tx_M} {T : tx_R} {σ : tx_St} {L : List (Nat × Value)} {pc : Nat} {st : List Value}
theorem gx_iadd {x y : Int32} (hd : decode M.2.1 pc = .ok (.iadd, 1))  (k : gx l E M T σ L (pc + 1) (.int (x + y) :: st)) : gx l E M T σ L pc (.int y :: .int x :: st) := fun p e s m args below meth c hC H locs ls hP hS hL => lv_iadd hC.1 hC.2.1 hd (k p e s m args below meth c hC H locs ls hP hS hL)
theorem gx_isub {x y : Int32} (hd : decode M.2.1 pc = .ok (.isub, 1))  (k : gx l E M T σ L (pc + 1) (.int (x - y) :: st)) : gx l E M T σ L pc (.int y :: .int x :: st) := fun p e s m args below meth c hC H locs ls hP hS hL => lv_isub hC.1 hC.2.1 hd (k p e s m args below meth c hC H locs ls hP hS hL)
theorem gx_imul {x y : Int32} (hd : decode M.2.1 pc = .ok (.imul, 1))  (k : gx l E M T σ L (pc + 1) (.int (x * y) :: st)) : gx l E M T σ L pc (.int y :: .int x :: st) := fun p e s m args below meth c hC H locs ls hP hS hL => lv_imul hC.1 hC.2.1 hd (k p e s m args below meth c hC H locs ls hP hS hL)
theorem gx_iand {x y : Int32} (hd : decode M.2.1 pc = .ok (.iand, 1))  (k : gx l E M T σ L (pc + 1) (.int (x &&& y) :: st)) : gx l E M T σ L pc (.int y :: .int x :: st) := fun p e s m args below meth c hC H locs ls hP hS hL => lv_iand hC.1 hC.2.1 hd (k p e s m args below meth c hC H locs ls hP hS hL)
theorem gx_ior {x y : Int32} (hd : decode M.2.1 pc = .ok (.ior, 1))  (k : gx l E M T σ L (pc + 1) (.int (x ||| y) :: st)) : gx l E M T σ L pc (.int y :: .int x :: st) := fun p e s m args below meth c hC H locs ls hP hS hL => lv_ior hC.1 hC.2.1 hd (k p e s m args below meth c hC H locs ls hP hS hL)
theorem gx_ixor {x y : Int32} (hd : decode M.2.1 pc = .ok (.ixor, 1))  (k : gx l E M T σ L (pc + 1) (.int (x ^^^ y) :: st)) : gx l E M T σ L pc (.int y :: .int x :: st) := fun p e s m args below meth c hC H locs ls hP hS hL => lv_ixor hC.1 hC.2.1 hd (k p e s m args below meth c hC H locs ls hP hS hL)
theorem gx_ishl {x y : Int32} (hd : decode M.2.1 pc = .ok (.ishl, 1))  (k : gx l E M T σ L (pc + 1) (.int (x <<< (y &&& 31)) :: st)) : gx l E M T σ L pc (.int y :: .int x :: st) := fun p e s m args below meth c hC H locs ls hP hS hL => lv_ishl hC.1 hC.2.1 hd (k p e s m args below meth c hC H locs ls hP hS hL)
theorem gx_ishr {x y : Int32} (hd : decode M.2.1 pc = .ok (.ishr, 1))  (k : gx l E M T σ L (pc + 1) (.int (x >>> (y &&& 31)) :: st)) : gx l E M T σ L pc (.int y :: .int x :: st) := fun p e s m args below meth c hC H locs ls hP hS hL => lv_ishr hC.1 hC.2.1 hd (k p e s m args below meth c hC H locs ls hP hS hL)
theorem gx_iushr {x y : Int32} (hd : decode M.2.1 pc = .ok (.iushr, 1))  (k : gx l E M T σ L (pc + 1) (.int ((x.toUInt32 >>> (y.toUInt32 &&& Int32.toUInt32 31)).toInt32) :: st)) : gx l E M T σ L pc (.int y :: .int x :: st) := fun p e s m args below meth c hC H locs ls hP hS hL => lv_iushr hC.1 hC.2.1 hd rfl (k p e s m args below meth c hC H locs ls hP hS hL)
theorem gx_ineg {x : Int32} (hd : decode M.2.1 pc = .ok (.ineg, 1))  (k : gx l E M T σ L (pc + 1) (.int (-x) :: st)) : gx l E M T σ L pc (.int x :: st) := fun p e s m args below meth c hC H locs ls hP hS hL => lv_ineg hC.1 hC.2.1 hd (k p e s m args below meth c hC H locs ls hP hS hL)
theorem gx_ladd {x y : Int64} (hd : decode M.2.1 pc = .ok (.ladd, 1))  (k : gx l E M T σ L (pc + 1) (.long (x + y) :: st)) : gx l E M T σ L pc (.long y :: .long x :: st) := fun p e s m args below meth c hC H locs ls hP hS hL => lv_ladd hC.1 hC.2.1 hd (k p e s m args below meth c hC H locs ls hP hS hL)
theorem gx_i2l {x : Int32} (hd : decode M.2.1 pc = .ok (.i2l, 1))  (k : gx l E M T σ L (pc + 1) (.long x.toInt64 :: st)) : gx l E M T σ L pc (.int x :: st) := fun p e s m args below meth c hC H locs ls hP hS hL => lv_i2l hC.1 hC.2.1 hd rfl (k p e s m args below meth c hC H locs ls hP hS hL)
theorem gx_lcmp {x y : Int64} (hd : decode M.2.1 pc = .ok (.lcmp, 1))  (k : gx l E M T σ L (pc + 1) (.int (lg_cmp x y) :: st)) : gx l E M T σ L pc (.long y :: .long x :: st) := fun p e s m args below meth c hC H locs ls hP hS hL => W.lcmp hC.1 hC.2.1 hd (k p e s m args below meth c hC H locs ls hP hS hL)
theorem gx_dup {v : Value} (hd : decode M.2.1 pc = .ok (.dup, 1)) (hv : v.category = 1) (k : gx l E M T σ L (pc + 1) (v :: v :: st)) : gx l E M T σ L pc (v :: st) := fun p e s m args below meth c hC H locs ls hP hS hL => lv_dup hC.1 hC.2.1 hd hv (k p e s m args below meth c hC H locs ls hP hS hL)
theorem gx_pop {v : Value} (hd : decode M.2.1 pc = .ok (.pop, 1)) (hv : v.category = 1) (k : gx l E M T σ L (pc + 1) st) : gx l E M T σ L pc (v :: st) := fun p e s m args below meth c hC H locs ls hP hS hL => lv_pop hC.1 hC.2.1 hd hv (k p e s m args below meth c hC H locs ls hP hS hL)
theorem gx_dup_x1 {v u : Value} (hd : decode M.2.1 pc = .ok (.dup_x1, 1)) (hv : v.category = 1) (hu : u.category = 1) (k : gx l E M T σ L (pc + 1) (v :: u :: v :: st)) : gx l E M T σ L pc (v :: u :: st) := fun p e s m args below meth c hC H locs ls hP hS hL => lv_dup_x1 hC.1 hC.2.1 hd hv hu (k p e s m args below meth c hC H locs ls hP hS hL)
theorem gx_dup_x2 {v u w : Value} (hd : decode M.2.1 pc = .ok (.dup_x2, 1)) (hv : v.category = 1) (hu : u.category = 1) (hw : w.category = 1) (k : gx l E M T σ L (pc + 1) (v :: u :: w :: v :: st)) : gx l E M T σ L pc (v :: u :: w :: st) := fun p e s m args below meth c hC H locs ls hP hS hL => lv_dup_x2 hC.1 hC.2.1 hd hv hu hw (k p e s m args below meth c hC H locs ls hP hS hL)
theorem gx_dup2 {v u : Value} (hd : decode M.2.1 pc = .ok (.dup2, 1)) (hv : v.category = 1) (hu : u.category = 1) (k : gx l E M T σ L (pc + 1) (v :: u :: v :: u :: st)) : gx l E M T σ L pc (v :: u :: st) := fun p e s m args below meth c hC H locs ls hP hS hL => lv_dup2_11 hC.1 hC.2.1 hd hv hu (k p e s m args below meth c hC H locs ls hP hS hL)
theorem gx_iconst {n : Int} (v : Int32) (hd : decode M.2.1 pc = .ok (.iconst n, 1)) (hv : Int32.ofInt n = v) (k : gx l E M T σ L (pc + 1) (.int v :: st)) : gx l E M T σ L pc st := fun p e s m args below meth c hC H locs ls hP hS hL => lv_iconst hC.1 hC.2.1 hd hv (k p e s m args below meth c hC H locs ls hP hS hL)
theorem gx_bipush {n : Int} (v : Int32) (hd : decode M.2.1 pc = .ok (.bipush n, 2)) (hv : (Int8.ofInt n).toInt32 = v) (k : gx l E M T σ L (pc + 2) (.int v :: st)) : gx l E M T σ L pc st := fun p e s m args below meth c hC H locs ls hP hS hL => lv_bipush hC.1 hC.2.1 hd hv (k p e s m args below meth c hC H locs ls hP hS hL)
theorem gx_sipush {n : Int} (v : Int32) (hd : decode M.2.1 pc = .ok (.sipush n, 3)) (hv : (Int16.ofInt n).toInt32 = v) (k : gx l E M T σ L (pc + 3) (.int v :: st)) : gx l E M T σ L pc st := fun p e s m args below meth c hC H locs ls hP hS hL => lv_sipush hC.1 hC.2.1 hd hv (k p e s m args below meth c hC H locs ls hP hS hL)
theorem gx_lconst {n : Fin 2} (v : Int64) (hd : decode M.2.1 pc = .ok (.lconst n, 1)) (hv : Int64.ofNat (n : Nat) = v) (k : gx l E M T σ L (pc + 1) (.long v :: st)) : gx l E M T σ L pc st := fun p e s m args below meth c hC H locs ls hP hS hL => lv_lconst hC.1 hC.2.1 hd hv (k p e s m args below meth c hC H locs ls hP hS hL)
theorem gx_ldc {i : Nat} {v : Int32} (hd : decode M.2.1 pc = .ok (.ldc i, 2)) (hw : Cond.constant M.1 i v ∈ tx_ws) (k : gx l E M T σ L (pc + 2) (.int v :: st)) : gx l E M T σ L pc st := fun p e s m args below meth c hC H locs ls hP hS hL => lv_ldc hC.1 hC.2.1 hC.2.2.2.1 (hC.2.2.2.2.1 _ hw) hd (k p e s m args below meth c hC H locs ls hP hS hL)
theorem gx_ldcw {i : Nat} {v : Int32} (hd : decode M.2.1 pc = .ok (.ldc_w i, 3)) (hw : Cond.constant M.1 i v ∈ tx_ws) (k : gx l E M T σ L (pc + 3) (.int v :: st)) : gx l E M T σ L pc st := fun p e s m args below meth c hC H locs ls hP hS hL => lv_ldcw hC.1 hC.2.1 hC.2.2.2.1 (hC.2.2.2.2.1 _ hw) hd (k p e s m args below meth c hC H locs ls hP hS hL)
theorem gx_ldc2 {i : Nat} {v : Int64} (hd : decode M.2.1 pc = .ok (.ldc2_w i, 3)) (hw : Cond.constantLong M.1 i v ∈ tx_ws) (k : gx l E M T σ L (pc + 3) (.long v :: st)) : gx l E M T σ L pc st := fun p e s m args below meth c hC H locs ls hP hS hL => lv_ldc2 hC.1 hC.2.1 hC.2.2.2.1 (hC.2.2.2.2.1 _ hw) hd (k p e s m args below meth c hC H locs ls hP hS hL)
theorem gx_iload_n {k : Fin 4} {i : Nat} {x : Int32} (q : Nat) (hd : decode M.2.1 pc = .ok (.iload_n k, 1)) (hi : (k : Nat) = i) (hq : L[q]? = some (i, .int x)) (kk : gx l E M T σ L (pc + 1) (.int x :: st)) : gx l E M T σ L pc st := fun p e s m args below meth c hC H locs ls hP hS hL => lv_iload_n hC.1 hC.2.1 hd hi (lv_at hL q hq) (kk p e s m args below meth c hC H locs ls hP hS hL)
theorem gx_iload {i : Nat} {x : Int32} (q : Nat) (hd : decode M.2.1 pc = .ok (.iload i, 2)) (hq : L[q]? = some (i, .int x)) (kk : gx l E M T σ L (pc + 2) (.int x :: st)) : gx l E M T σ L pc st := fun p e s m args below meth c hC H locs ls hP hS hL => lv_iload hC.1 hC.2.1 hd (lv_at hL q hq) (kk p e s m args below meth c hC H locs ls hP hS hL)
theorem gx_istore_n {k : Fin 4} {i : Nat} {x : Int32} (L2 : List (Nat × Value)) (hd : decode M.2.1 pc = .ok (.istore_n k, 1)) (hi : (k : Nat) = i) (hn : i < M.2.2.1) (hl : (i, Value.int x) :: L.filter (fun q => !(q.1 == i) && !(q.1 + 1 == i && q.2.category == 2)) = L2) (kk : gx l E M T σ L2 (pc + 1) st) : gx l E M T σ L pc (.int x :: st) := fun p e s m args below meth c hC H locs ls hP hS hL => lv_istore_n hC.1 hC.2.1 hd hi hL hn hl (fun ls2 hL2 => kk p e s m args below meth c hC H locs ls2 hP hS hL2)
theorem gx_istore {i : Nat} {x : Int32} (L2 : List (Nat × Value)) (hd : decode M.2.1 pc = .ok (.istore i, 2)) (hn : i < M.2.2.1) (hl : (i, Value.int x) :: L.filter (fun q => !(q.1 == i) && !(q.1 + 1 == i && q.2.category == 2)) = L2) (kk : gx l E M T σ L2 (pc + 2) st) : gx l E M T σ L pc (.int x :: st) := fun p e s m args below meth c hC H locs ls hP hS hL => lv_istore hC.1 hC.2.1 hd hL hn hl (fun ls2 hL2 => kk p e s m args below meth c hC H locs ls2 hP hS hL2)
theorem gx_lload_n {k : Fin 4} {i : Nat} {x : Int64} (q : Nat) (hd : decode M.2.1 pc = .ok (.lload_n k, 1)) (hi : (k : Nat) = i) (hq : L[q]? = some (i, .long x)) (kk : gx l E M T σ L (pc + 1) (.long x :: st)) : gx l E M T σ L pc st := fun p e s m args below meth c hC H locs ls hP hS hL => lv_lload_n hC.1 hC.2.1 hd hi (lv_at hL q hq) (kk p e s m args below meth c hC H locs ls hP hS hL)
theorem gx_lload {i : Nat} {x : Int64} (q : Nat) (hd : decode M.2.1 pc = .ok (.lload i, 2)) (hq : L[q]? = some (i, .long x)) (kk : gx l E M T σ L (pc + 2) (.long x :: st)) : gx l E M T σ L pc st := fun p e s m args below meth c hC H locs ls hP hS hL => lv_lload hC.1 hC.2.1 hd (lv_at hL q hq) (kk p e s m args below meth c hC H locs ls hP hS hL)
theorem gx_lstore_n {k : Fin 4} {i : Nat} {x : Int64} (L2 : List (Nat × Value)) (hd : decode M.2.1 pc = .ok (.lstore_n k, 1)) (hi : (k : Nat) = i) (hn : i + 1 < M.2.2.1) (hl : (i, Value.long x) :: L.filter (fun q => !(q.1 == i) && (!(q.1 == i + 1) && !(q.1 + 1 == i && q.2.category == 2))) = L2) (kk : gx l E M T σ L2 (pc + 1) st) : gx l E M T σ L pc (.long x :: st) := fun p e s m args below meth c hC H locs ls hP hS hL => lv_lstore_n hC.1 hC.2.1 hd hi hL hn hl (fun ls2 hL2 => kk p e s m args below meth c hC H locs ls2 hP hS hL2)
theorem gx_lstore {i : Nat} {x : Int64} (L2 : List (Nat × Value)) (hd : decode M.2.1 pc = .ok (.lstore i, 2)) (hn : i + 1 < M.2.2.1) (hl : (i, Value.long x) :: L.filter (fun q => !(q.1 == i) && (!(q.1 == i + 1) && !(q.1 + 1 == i && q.2.category == 2))) = L2) (kk : gx l E M T σ L2 (pc + 2) st) : gx l E M T σ L pc (.long x :: st) := fun p e s m args below meth c hC H locs ls hP hS hL => lv_lstore hC.1 hC.2.1 hd hL hn hl (fun ls2 hL2 => kk p e s m args below meth c hC H locs ls2 hP hS hL2)
theorem gx_aload_n {k : Fin 4} {i : Nat} {x : Nat} (q : Nat) (hd : decode M.2.1 pc = .ok (.aload_n k, 1)) (hi : (k : Nat) = i) (hq : L[q]? = some (i, .ref x)) (kk : gx l E M T σ L (pc + 1) (.ref x :: st)) : gx l E M T σ L pc st := fun p e s m args below meth c hC H locs ls hP hS hL => lv_aload_n hC.1 hC.2.1 hd hi (lv_at hL q hq) (kk p e s m args below meth c hC H locs ls hP hS hL)
theorem gx_aload {i : Nat} {x : Nat} (q : Nat) (hd : decode M.2.1 pc = .ok (.aload i, 2)) (hq : L[q]? = some (i, .ref x)) (kk : gx l E M T σ L (pc + 2) (.ref x :: st)) : gx l E M T σ L pc st := fun p e s m args below meth c hC H locs ls hP hS hL => lv_aload hC.1 hC.2.1 hd (lv_at hL q hq) (kk p e s m args below meth c hC H locs ls hP hS hL)
theorem gx_astore_n {k : Fin 4} {i : Nat} {x : Nat} (L2 : List (Nat × Value)) (hd : decode M.2.1 pc = .ok (.astore_n k, 1)) (hi : (k : Nat) = i) (hn : i < M.2.2.1) (hl : (i, Value.ref x) :: L.filter (fun q => !(q.1 == i) && !(q.1 + 1 == i && q.2.category == 2)) = L2) (kk : gx l E M T σ L2 (pc + 1) st) : gx l E M T σ L pc (.ref x :: st) := fun p e s m args below meth c hC H locs ls hP hS hL => lv_astore_n hC.1 hC.2.1 hd hi hL hn hl (fun ls2 hL2 => kk p e s m args below meth c hC H locs ls2 hP hS hL2)
theorem gx_astore {i : Nat} {x : Nat} (L2 : List (Nat × Value)) (hd : decode M.2.1 pc = .ok (.astore i, 2)) (hn : i < M.2.2.1) (hl : (i, Value.ref x) :: L.filter (fun q => !(q.1 == i) && !(q.1 + 1 == i && q.2.category == 2)) = L2) (kk : gx l E M T σ L2 (pc + 2) st) : gx l E M T σ L pc (.ref x :: st) := fun p e s m args below meth c hC H locs ls hP hS hL => lv_astore hC.1 hC.2.1 hd hL hn hl (fun ls2 hL2 => kk p e s m args below meth c hC H locs ls2 hP hS hL2)
theorem gx_iinc {i : Nat} {n : Int} {x : Int32} (v : Int32) (q : Nat) (L2 : List (Nat × Value)) (hd : decode M.2.1 pc = .ok (.iinc i n, 3)) (hq : L[q]? = some (i, .int x)) (hv : x + Int32.ofInt n = v) (hn : i < M.2.2.1) (hl : (i, Value.int v) :: L.filter (fun q => !(q.1 == i) && !(q.1 + 1 == i && q.2.category == 2)) = L2) (kk : gx l E M T σ L2 (pc + 3) st) : gx l E M T σ L pc st := fun p e s m args below meth c hC H locs ls hP hS hL => lv_iinc hC.1 hC.2.1 hd hL hq hv hn hl (fun ls2 hL2 => kk p e s m args below meth c hC H locs ls2 hP hS hL2)
theorem gx_sub {L2 : List (Nat × Value)} (ks : List Nat) (hl : lv_pick L ks = L2) (k : gx l E M T σ L2 pc st) : gx l E M T σ L pc st := fun p e s m args below meth c hC H locs ls hP hS hL => k p e s m args below meth c hC H locs ls hP hS (lv_sub hL ks hl)
theorem gx_topi {x : Int32} (y : Int32) (h : x = y) (k : gx l E M T σ L pc (.int y :: st)) : gx l E M T σ L pc (.int x :: st) := h ▸ k
theorem gx_if_eq {x : Int32} {off : Int} (tgt : Nat) (hd : decode M.2.1 pc = .ok (.ifCond .eq off, 3)) (ht : (pc : Int) + off = (tgt : Int)) (kt : x = 0 → gx l E M T σ L tgt st) (kf : ¬ x = 0 → gx l E M T σ L (pc + 3) st) : gx l E M T σ L pc (.int x :: st) := fun p e s m args below meth c hC H locs ls hP hS hL => lv_if_eq hC.1 hC.2.1 hd ht (fun h => kt h p e s m args below meth c hC H locs ls hP hS hL) (fun h => kf h p e s m args below meth c hC H locs ls hP hS hL)
theorem gx_if_ne {x : Int32} {off : Int} (tgt : Nat) (hd : decode M.2.1 pc = .ok (.ifCond .ne off, 3)) (ht : (pc : Int) + off = (tgt : Int)) (kt : ¬ x = 0 → gx l E M T σ L tgt st) (kf : x = 0 → gx l E M T σ L (pc + 3) st) : gx l E M T σ L pc (.int x :: st) := fun p e s m args below meth c hC H locs ls hP hS hL => lv_if_ne hC.1 hC.2.1 hd ht (fun h => kt h p e s m args below meth c hC H locs ls hP hS hL) (fun h => kf h p e s m args below meth c hC H locs ls hP hS hL)
theorem gx_if_lt {x : Int32} {off : Int} (tgt : Nat) (hd : decode M.2.1 pc = .ok (.ifCond .lt off, 3)) (ht : (pc : Int) + off = (tgt : Int)) (kt : x < 0 → gx l E M T σ L tgt st) (kf : ¬ x < 0 → gx l E M T σ L (pc + 3) st) : gx l E M T σ L pc (.int x :: st) := fun p e s m args below meth c hC H locs ls hP hS hL => lv_if_lt hC.1 hC.2.1 hd ht (fun h => kt h p e s m args below meth c hC H locs ls hP hS hL) (fun h => kf h p e s m args below meth c hC H locs ls hP hS hL)
theorem gx_if_ge {x : Int32} {off : Int} (tgt : Nat) (hd : decode M.2.1 pc = .ok (.ifCond .ge off, 3)) (ht : (pc : Int) + off = (tgt : Int)) (kt : 0 ≤ x → gx l E M T σ L tgt st) (kf : ¬ 0 ≤ x → gx l E M T σ L (pc + 3) st) : gx l E M T σ L pc (.int x :: st) := fun p e s m args below meth c hC H locs ls hP hS hL => lv_if_ge hC.1 hC.2.1 hd ht (fun h => kt h p e s m args below meth c hC H locs ls hP hS hL) (fun h => kf h p e s m args below meth c hC H locs ls hP hS hL)
theorem gx_if_gt {x : Int32} {off : Int} (tgt : Nat) (hd : decode M.2.1 pc = .ok (.ifCond .gt off, 3)) (ht : (pc : Int) + off = (tgt : Int)) (kt : 0 < x → gx l E M T σ L tgt st) (kf : ¬ 0 < x → gx l E M T σ L (pc + 3) st) : gx l E M T σ L pc (.int x :: st) := fun p e s m args below meth c hC H locs ls hP hS hL => lv_if_gt hC.1 hC.2.1 hd ht (fun h => kt h p e s m args below meth c hC H locs ls hP hS hL) (fun h => kf h p e s m args below meth c hC H locs ls hP hS hL)
theorem gx_if_le {x : Int32} {off : Int} (tgt : Nat) (hd : decode M.2.1 pc = .ok (.ifCond .le off, 3)) (ht : (pc : Int) + off = (tgt : Int)) (kt : x ≤ 0 → gx l E M T σ L tgt st) (kf : ¬ x ≤ 0 → gx l E M T σ L (pc + 3) st) : gx l E M T σ L pc (.int x :: st) := fun p e s m args below meth c hC H locs ls hP hS hL => lv_if_le hC.1 hC.2.1 hd ht (fun h => kt h p e s m args below meth c hC H locs ls hP hS hL) (fun h => kf h p e s m args below meth c hC H locs ls hP hS hL)
theorem gx_icmp_eq {x y : Int32} {off : Int} (tgt : Nat) (hd : decode M.2.1 pc = .ok (.if_icmp .eq off, 3)) (ht : (pc : Int) + off = (tgt : Int)) (kt : x = y → gx l E M T σ L tgt st) (kf : ¬ x = y → gx l E M T σ L (pc + 3) st) : gx l E M T σ L pc (.int y :: .int x :: st) := fun p e s m args below meth c hC H locs ls hP hS hL => lv_icmp_eq hC.1 hC.2.1 hd ht (fun h => kt h p e s m args below meth c hC H locs ls hP hS hL) (fun h => kf h p e s m args below meth c hC H locs ls hP hS hL)
theorem gx_icmp_ne {x y : Int32} {off : Int} (tgt : Nat) (hd : decode M.2.1 pc = .ok (.if_icmp .ne off, 3)) (ht : (pc : Int) + off = (tgt : Int)) (kt : ¬ x = y → gx l E M T σ L tgt st) (kf : x = y → gx l E M T σ L (pc + 3) st) : gx l E M T σ L pc (.int y :: .int x :: st) := fun p e s m args below meth c hC H locs ls hP hS hL => lv_icmp_ne hC.1 hC.2.1 hd ht (fun h => kt h p e s m args below meth c hC H locs ls hP hS hL) (fun h => kf h p e s m args below meth c hC H locs ls hP hS hL)
theorem gx_icmp_lt {x y : Int32} {off : Int} (tgt : Nat) (hd : decode M.2.1 pc = .ok (.if_icmp .lt off, 3)) (ht : (pc : Int) + off = (tgt : Int)) (kt : x < y → gx l E M T σ L tgt st) (kf : ¬ x < y → gx l E M T σ L (pc + 3) st) : gx l E M T σ L pc (.int y :: .int x :: st) := fun p e s m args below meth c hC H locs ls hP hS hL => lv_icmp_lt hC.1 hC.2.1 hd ht (fun h => kt h p e s m args below meth c hC H locs ls hP hS hL) (fun h => kf h p e s m args below meth c hC H locs ls hP hS hL)
theorem gx_icmp_ge {x y : Int32} {off : Int} (tgt : Nat) (hd : decode M.2.1 pc = .ok (.if_icmp .ge off, 3)) (ht : (pc : Int) + off = (tgt : Int)) (kt : y ≤ x → gx l E M T σ L tgt st) (kf : ¬ y ≤ x → gx l E M T σ L (pc + 3) st) : gx l E M T σ L pc (.int y :: .int x :: st) := fun p e s m args below meth c hC H locs ls hP hS hL => lv_icmp_ge hC.1 hC.2.1 hd ht (fun h => kt h p e s m args below meth c hC H locs ls hP hS hL) (fun h => kf h p e s m args below meth c hC H locs ls hP hS hL)
theorem gx_icmp_gt {x y : Int32} {off : Int} (tgt : Nat) (hd : decode M.2.1 pc = .ok (.if_icmp .gt off, 3)) (ht : (pc : Int) + off = (tgt : Int)) (kt : y < x → gx l E M T σ L tgt st) (kf : ¬ y < x → gx l E M T σ L (pc + 3) st) : gx l E M T σ L pc (.int y :: .int x :: st) := fun p e s m args below meth c hC H locs ls hP hS hL => lv_icmp_gt hC.1 hC.2.1 hd ht (fun h => kt h p e s m args below meth c hC H locs ls hP hS hL) (fun h => kf h p e s m args below meth c hC H locs ls hP hS hL)
theorem gx_icmp_le {x y : Int32} {off : Int} (tgt : Nat) (hd : decode M.2.1 pc = .ok (.if_icmp .le off, 3)) (ht : (pc : Int) + off = (tgt : Int)) (kt : x ≤ y → gx l E M T σ L tgt st) (kf : ¬ x ≤ y → gx l E M T σ L (pc + 3) st) : gx l E M T σ L pc (.int y :: .int x :: st) := fun p e s m args below meth c hC H locs ls hP hS hL => lv_icmp_le hC.1 hC.2.1 hd ht (fun h => kt h p e s m args below meth c hC H locs ls hP hS hL) (fun h => kf h p e s m args below meth c hC H locs ls hP hS hL)
theorem gx_goto {off : Int} (tgt : Nat) (hd : decode M.2.1 pc = .ok (.goto off, 3)) (ht : (pc : Int) + off = (tgt : Int)) (k : gx l E M T σ L tgt st) : gx l E M T σ L pc st := fun p e s m args below meth c hC H locs ls hP hS hL => lv_goto hC.1 hC.2.1 hd ht (k p e s m args below meth c hC H locs ls hP hS hL)
theorem gx_tabIn {dflt lo hi : Int} {offs : Array Int} {len : Nat} {x : Int32} {off : Int} (tgt : Nat) (hd : decode M.2.1 pc = .ok (.tableswitch dflt lo hi offs, len)) (h1 : ¬ x.toInt < lo) (h2 : ¬ hi < x.toInt) (ho : offs[(x.toInt - lo).toNat]? = some off) (ht : (pc : Int) + off = (tgt : Int)) (k : gx l E M T σ L tgt st) : gx l E M T σ L pc (.int x :: st) := fun p e s m args below meth c hC H locs ls hP hS hL => lv_tableIn hC.1 hC.2.1 hd h1 h2 ho ht (k p e s m args below meth c hC H locs ls hP hS hL)
theorem gx_tabOut {dflt lo hi : Int} {offs : Array Int} {len : Nat} {x : Int32} (tgt : Nat) (hd : decode M.2.1 pc = .ok (.tableswitch dflt lo hi offs, len)) (h : x.toInt < lo ∨ hi < x.toInt) (ht : (pc : Int) + dflt = (tgt : Int)) (k : gx l E M T σ L tgt st) : gx l E M T σ L pc (.int x :: st) := fun p e s m args below meth c hC H locs ls hP hS hL => lv_tableOut hC.1 hC.2.1 hd h ht (k p e s m args below meth c hC H locs ls hP hS hL)
theorem gx_iret {v : Int32} (hd : decode M.2.1 pc = .ok (.ireturn, 1)) (hr : M.2.2.2.1 = some .int) (hT : T = (some (.int v), σ)) : gx l E M T σ L pc [.int v] := fun p e s m args below meth c hC H locs ls hP hS hL => W.iret hC.1 hC.2.1 (hC.2.2.2.2.2.2.1.trans hr) (fun t ht hW => ⟨by rw [hT], by rw [ht, hT]; exact hP, va_K.moved hW.alike hC.2.2.2.2.2.1, hS.F ht⟩) hS.2.2 hd hC.2.2.2.2.2.2.2.1
theorem gx_zret {v : Int32} (hd : decode M.2.1 pc = .ok (.ireturn, 1)) (hr : M.2.2.2.1 = some .boolean) (hv : v = 0 ∨ v = 1) (hT : T = (some (.int v), σ)) : gx l E M T σ L pc [.int v] := fun p e s m args below meth c hC H locs ls hP hS hL => W.zret hC.1 hC.2.1 (hC.2.2.2.2.2.2.1.trans hr) (by rcases hv with rfl | rfl <;> rfl) (fun t ht hW => ⟨by rw [hT], by rw [ht, hT]; exact hP, va_K.moved hW.alike hC.2.2.2.2.2.1, hS.F ht⟩) hS.2.2 hd hC.2.2.2.2.2.2.2.1
theorem gx_lret {v : Int64} (hd : decode M.2.1 pc = .ok (.lreturn, 1)) (hr : M.2.2.2.1 = some .long) (hT : T = (some (.long v), σ)) : gx l E M T σ L pc [.long v] := fun p e s m args below meth c hC H locs ls hP hS hL => W.lret hC.1 hC.2.1 (hC.2.2.2.2.2.2.1.trans hr) (fun t ht hW => ⟨by rw [hT], by rw [ht, hT]; exact hP, va_K.moved hW.alike hC.2.2.2.2.2.1, hS.F ht⟩) hS.2.2 hd hC.2.2.2.2.2.2.2.1
theorem gx_vret (hd : decode M.2.1 pc = .ok (.return_, 1)) (hr : M.2.2.2.1 = none) (hT : T = (none, σ)) : gx l E M T σ L pc [] := fun p e s m args below meth c hC H locs ls hP hS hL => W.vret hC.1 hC.2.1 (hC.2.2.2.2.2.2.1.trans hr) (fun t ht hW => ⟨by rw [hT], by rw [ht, hT]; exact hP, va_K.moved hW.alike hC.2.2.2.2.2.1, hS.F ht⟩) hS.2.2 hd hC.2.2.2.2.2.2.2.1
/-- the field that a link names: class ci of tx_cl, its j'th field -/
def tx_FL (own : String) (idx ci j : Nat) : Prop := ∃ (C : String) (F : u_T) (N : Nat), tx_cl[ci]? = some (C, F, N) ∧ j < N ∧ (∀ w ∈ u_ws C F N, w ∈ tx_ws) ∧ (F j).1 = C ∧ (Cond.fieldLink own idx C (F j).2.1 (F j).2.2.1 ∈ tx_ws ∨ ∃ host, Cond.fieldLinkNest own idx C (F j).2.1 (F j).2.2.1 host ∈ tx_ws)
def tx_FP (own : String) (idx ci j : Nat) (ty : FieldType) : Prop := ∃ (C : String) (F : u_T) (N : Nat) (ty0 : Nat → FieldType), tx_cl[ci]? = some (C, F, N) ∧ j < N ∧ (∀ w ∈ u_ws C F N, w ∈ tx_ws) ∧ (F j).1 = C ∧ (Cond.fieldLink own idx C (F j).2.1 (F j).2.2.1 ∈ tx_ws ∨ ∃ host, Cond.fieldLinkNest own idx C (F j).2.1 (F j).2.2.1 host ∈ tx_ws) ∧
  (∀ k, k < N → parseFieldDescriptor (F k).2.2.1 = some (ty0 k)) ∧ (∀ a, a < N → ∀ b, b < N → a ≠ b → (F a).2.1 ≠ (F b).2.1) ∧ (F j).2.2.2 = false ∧ parseFieldDescriptor (F j).2.2.1 = some ty
theorem tx_cell_o {E : tx_E} {σ : tx_St} {k ci N : Nat} {fs : List (Option Nat)} (h : tx_sh k = (ci + 3, N, fs)) : tx_cell E σ k = .inr (ci, tx_fs E σ k fs) := by
  unfold tx_cell
  rw [h]
theorem tx_cell_i {E : tx_E} {σ : tx_St} {k n : Nat} {fs : List (Option Nat)} (h : tx_sh k = (0, n, fs)) : tx_cell E σ k = .inl (E.2.2.1, n, .inl (σ k)) := by
  unfold tx_cell
  rw [h]
theorem tx_cell_z {E : tx_E} {σ : tx_St} {k n : Nat} {fs : List (Option Nat)} (h : tx_sh k = (1, n, fs)) : tx_cell E σ k = .inl (E.2.2.2.1, n, .inl (σ k)) := by
  unfold tx_cell
  rw [h]
theorem tx_cell_f {E : tx_E} {σ : tx_St} {k n : Nat} {fs : List (Option Nat)} (h : tx_sh k = (2, n, fs)) : tx_cell E σ k = .inl (E.2.2.2.2, n, .inr (.inr (.inr (.inr (fun j => (fs.getD j none).map E.1))))) := by
  unfold tx_cell
  rw [h]
theorem tx_sh_lt {k : Nat} {c N : Nat} {fs : List (Option Nat)} (h : tx_sh k = (c, N, fs)) (hN : N ≠ 0) : k < 69 := by
  by_cases hk : k < 69
  · exact hk
  · exfalso
    have : tx_sh k = (0, 0, []) := by
      unfold tx_sh
      have h2 : tx_shl.length = 69 := rfl
      rw [List.getD_eq_getElem?_getD, List.getElem?_eq_none (by omega)]
      rfl
    rw [this] at h
    cases h
    exact hN rfl
theorem tx_w_o {E : tx_E} {σ : tx_St} {k ci N : Nat} {fs : List (Option Nat)} (h : tx_sh k = (ci + 3, N, fs)) (hN : N ≠ 0) : (tx_w E σ)[k]? = some (E.1 k, .inr (ci, tx_fs E σ k fs)) := by rw [tx_w_at E σ (tx_sh_lt h hN), tx_cell_o h]
theorem tx_w_i {E : tx_E} {σ : tx_St} {k n : Nat} {fs : List (Option Nat)} (h : tx_sh k = (0, n, fs)) (hN : n ≠ 0) : (tx_w E σ)[k]? = some (E.1 k, .inl (E.2.2.1, n, .inl (σ k))) := by rw [tx_w_at E σ (tx_sh_lt h hN), tx_cell_i h]
theorem tx_w_z {E : tx_E} {σ : tx_St} {k n : Nat} {fs : List (Option Nat)} (h : tx_sh k = (1, n, fs)) (hN : n ≠ 0) : (tx_w E σ)[k]? = some (E.1 k, .inl (E.2.2.2.1, n, .inl (σ k))) := by rw [tx_w_at E σ (tx_sh_lt h hN), tx_cell_z h]
theorem tx_w_f {E : tx_E} {σ : tx_St} {k n : Nat} {fs : List (Option Nat)} (h : tx_sh k = (2, n, fs)) (hN : n ≠ 0) : (tx_w E σ)[k]? = some (E.1 k, .inl (E.2.2.2.2, n, .inr (.inr (.inr (.inr (fun j => (fs.getD j none).map E.1)))))) := by rw [tx_w_at E σ (tx_sh_lt h hN), tx_cell_f h]
theorem gx_get0 {idx ci j k N : Nat} {fs : List (Option Nat)} {v : Value} (fl : tx_FL M.1 idx ci j) (hd : decode M.2.1 pc = .ok (.getfield idx, 3)) (hs : tx_sh k = (ci + 3, N, fs)) (hN : N ≠ 0) (hv : (tx_fs E σ k fs)[j]? = some v) (kk : gx l E M T σ L (pc + 3) (v :: st)) : gx l E M T σ L pc (.ref (E.1 k) :: st) := by
  intro p e s m args below meth c hC H locs ls hP hS hL
  obtain ⟨C, F, N2, hc, hj, hin, hown, hl⟩ := fl
  rcases hl with hl | ⟨host, hl⟩
  · exact va_get hC.1 hC.2.1 hC.2.2.2.2.1 hin hC.2.2.2.1 hC.2.2.2.2.2.1 hP k (tx_w_o hs hN) hc j hj (hC.2.2.2.2.1 _ hl) (fun x h => hown ▸ h) hv hd (kk p e s m args below meth c hC H locs ls hP hS hL)
  · exact va_getN hC.1 hC.2.1 hC.2.2.2.2.1 hin hC.2.2.2.1 hC.2.2.2.2.2.1 hP k (tx_w_o hs hN) hc j hj (hC.2.2.2.2.1 _ hl) (fun x h => hown ▸ h) hv hd (kk p e s m args below meth c hC H locs ls hP hS hL)
theorem gx_getI {idx ci j k N : Nat} {fs : List (Option Nat)} (v : Int32) (fl : tx_FL M.1 idx ci j) (hd : decode M.2.1 pc = .ok (.getfield idx, 3)) (hs : tx_sh k = (ci + 3, N, fs)) (hN : N ≠ 0) (hf : fs[j]? = some none) (hv : σ k j = v) (kk : gx l E M T σ L (pc + 3) (.int v :: st)) : gx l E M T σ L pc (.ref (E.1 k) :: st) :=
  gx_get0 (v := .int v) fl hd hs hN (by rw [tx_fs_get hf, ← hv]; rfl) kk
theorem gx_getR {idx ci j k N : Nat} {fs : List (Option Nat)} (q : Nat) (fl : tx_FL M.1 idx ci j) (hd : decode M.2.1 pc = .ok (.getfield idx, 3)) (hs : tx_sh k = (ci + 3, N, fs)) (hN : N ≠ 0) (hf : fs[j]? = some (some q)) (kk : gx l E M T σ L (pc + 3) (.ref (E.1 q) :: st)) : gx l E M T σ L pc (.ref (E.1 k) :: st) :=
  gx_get0 fl hd hs hN (tx_fs_get hf) kk
theorem gx_put {idx ci j k N : Nat} {fs : List (Option Nat)} {x : Int32} {ty : FieldType} (fl : tx_FP M.1 idx ci j ty) (hd : decode M.2.1 pc = .ok (.putfield idx, 3)) (hs : tx_sh k = (ci + 3, N, fs)) (hN : N ≠ 0) (hf : fs[j]? = some none) (hx : narrow ty (.int x) = .int x) (hx2 : fits ty (.int x) = true) (kk : gx l E M T (tx_up σ k j x) L (pc + 3) st) : gx l E M T σ L pc (.int x :: .ref (E.1 k) :: st) := by
  intro p e s m args below meth c hC H locs ls hP hS hL
  obtain ⟨C, F, N2, ty0, hc, hj, hin, hown, hl, ht0, hnm, hfin, hty⟩ := fl
  have hlen : j < (tx_fs E σ k fs).length := by
    have := (List.getElem?_eq_some_iff.mp hf).1
    simpa [tx_fs] using this
  have hset : (tx_w E σ).set k (E.1 k, .inr (ci, (tx_fs E σ k fs).set j (.int x))) = tx_w E (tx_up σ k j x) :=
    tx_w_set (tx_sh_lt hs hN) (fun c h => tx_up_ne σ j x h) (by rw [tx_cell_o hs, tx_fs_set hf])
  have go : ∀ (H1 : Heap) (locs1 : List Loc), va_P E.2.1 tx_cl ((tx_w E σ).set k (E.1 k, .inr (ci, (tx_fs E σ k fs).set j (.int x)))) H1 → va_D (tx_A E) ((tx_w E σ).set k (E.1 k, .inr (ci, (tx_fs E σ k fs).set j (.int x)))) → va_S (tx_A E) s.heap H1 locs1 → W p l e M.2.2.2.2 s m args below meth c H1 locs1 0 0 (MQ below (tx_Q E T) args s 0 0 (tx_A E)) (F0 m (pc + 3) ls st) := by
    intro H1 locs1 hP1 _ hS1
    rw [hset] at hP1
    exact kk p e s m args below meth c hC H1 locs1 ls hP1 hS1 hL
  rcases hl with hl | ⟨host, hl⟩
  · exact va_put hC.1 hC.2.1 hC.2.2.2.2.1 hin ty0 ht0 hnm hC.2.2.2.1 hC.2.2.2.2.2.1 hP (tx_D hC.2.2.2.2.2.2.2.2 σ) hS k (tx_w_o hs hN) hc j hj (hC.2.2.2.2.1 _ hl) (fun x h => hown ▸ h) hfin hty hx hx2 hlen hd go
  · exact va_putN hC.1 hC.2.1 hC.2.2.2.2.1 hin ty0 ht0 hnm hC.2.2.2.1 hC.2.2.2.2.2.1 hP (tx_D hC.2.2.2.2.2.2.2.2 σ) hS k (tx_w_o hs hN) hc j hj (hC.2.2.2.2.1 _ hl) (fun x h => hown ▸ h) hfin hty hx hx2 hlen hd go
theorem gx_putI {idx ci j k N : Nat} {fs : List (Option Nat)} {x : Int32} (fl : tx_FP M.1 idx ci j .int) (hd : decode M.2.1 pc = .ok (.putfield idx, 3)) (hs : tx_sh k = (ci + 3, N, fs)) (hN : N ≠ 0) (hf : fs[j]? = some none) (kk : gx l E M T (tx_up σ k j x) L (pc + 3) st) : gx l E M T σ L pc (.int x :: .ref (E.1 k) :: st) :=
  gx_put fl hd hs hN hf rfl rfl kk
theorem gx_putZ {idx ci j k N : Nat} {fs : List (Option Nat)} {x : Int32} (fl : tx_FP M.1 idx ci j .boolean) (hd : decode M.2.1 pc = .ok (.putfield idx, 3)) (hs : tx_sh k = (ci + 3, N, fs)) (hN : N ≠ 0) (hf : fs[j]? = some none) (hv : x = 0 ∨ x = 1) (kk : gx l E M T (tx_up σ k j x) L (pc + 3) st) : gx l E M T σ L pc (.int x :: .ref (E.1 k) :: st) :=
  gx_put fl hd hs hN hf (by rcases hv with rfl | rfl <;> rfl) (by rcases hv with rfl | rfl <;> rfl) kk
theorem gx_iald {k n : Nat} {fs : List (Option Nat)} {i : Int32} (v : Int32) (hd : decode M.2.1 pc = .ok (.iaload, 1)) (hs : tx_sh k = (0, n, fs)) (hin : vp_in i n) (hv : σ k i.toNatClampNeg = v) (kk : gx l E M T σ L (pc + 1) (.int v :: st)) : gx l E M T σ L pc (.int i :: .ref (E.1 k) :: st) := by
  intro p e s m args below meth c hC H locs ls hP hS hL
  have hN : n ≠ 0 := fun h => hin (Or.inr (by omega))
  refine va_iald hC.1 hC.2.1 hC.2.2.2.2.2.1 hP k 0 (tx_w_i hs hN) rfl hin hd ?_
  rw [hv]
  exact kk p e s m args below meth c hC H locs ls hP hS hL
theorem gx_zald {k n : Nat} {fs : List (Option Nat)} {i : Int32} (v : Int32) (hd : decode M.2.1 pc = .ok (.baload, 1)) (hs : tx_sh k = (1, n, fs)) (hin : vp_in i n) (hv : σ k i.toNatClampNeg = v) (kk : gx l E M T σ L (pc + 1) (.int v :: st)) : gx l E M T σ L pc (.int i :: .ref (E.1 k) :: st) := by
  intro p e s m args below meth c hC H locs ls hP hS hL
  have hN : n ≠ 0 := fun h => hin (Or.inr (by omega))
  refine va_zald hC.1 hC.2.1 hC.2.2.2.2.2.1 hP k 1 (tx_w_z hs hN) rfl hin hd ?_
  rw [hv]
  exact kk p e s m args below meth c hC H locs ls hP hS hL
theorem gx_iast {k n : Nat} {fs : List (Option Nat)} {i x : Int32} (hd : decode M.2.1 pc = .ok (.iastore, 1)) (hs : tx_sh k = (0, n, fs)) (hin : vp_in i n) (kk : gx l E M T (tx_up σ k i.toNatClampNeg x) L (pc + 1) st) : gx l E M T σ L pc (.int x :: .int i :: .ref (E.1 k) :: st) := by
  intro p e s m args below meth c hC H locs ls hP hS hL
  have hN : n ≠ 0 := fun h => hin (Or.inr (by omega))
  refine va_iast hC.1 hC.2.1 hC.2.2.2.2.2.1 hP (tx_D hC.2.2.2.2.2.2.2.2 σ) hS k 0 (tx_w_i hs hN) rfl hin hd (fun H1 locs1 hP1 _ hS1 => ?_)
  rw [tx_w_set (σ' := tx_up σ k i.toNatClampNeg x) (tx_sh_lt hs hN) (fun c h => tx_up_ne σ _ x h) (by rw [tx_cell_i hs, tx_up_at])] at hP1
  exact kk p e s m args below meth c hC H1 locs1 ls hP1 hS1 hL
theorem gx_zast {k n : Nat} {fs : List (Option Nat)} {i x : Int32} (hd : decode M.2.1 pc = .ok (.bastore, 1)) (hs : tx_sh k = (1, n, fs)) (hin : vp_in i n) (hv : x = 0 ∨ x = 1) (kk : gx l E M T (tx_up σ k i.toNatClampNeg x) L (pc + 1) st) : gx l E M T σ L pc (.int x :: .int i :: .ref (E.1 k) :: st) := by
  intro p e s m args below meth c hC H locs ls hP hS hL
  have hN : n ≠ 0 := fun h => hin (Or.inr (by omega))
  have hx : vp_nar .boolean x = x := by rcases hv with rfl | rfl <;> rfl
  refine va_zast hC.1 hC.2.1 hC.2.2.2.2.2.1 hP (tx_D hC.2.2.2.2.2.2.2.2 σ) hS k 1 (tx_w_z hs hN) rfl hin hd (fun H1 locs1 hP1 _ hS1 => ?_)
  rw [hx, tx_w_set (σ' := tx_up σ k i.toNatClampNeg x) (tx_sh_lt hs hN) (fun c h => tx_up_ne σ _ x h) (by rw [tx_cell_z hs, tx_up_at])] at hP1
  exact kk p e s m args below meth c hC H1 locs1 ls hP1 hS1 hL
theorem gx_aald {k n q : Nat} {fs : List (Option Nat)} {i : Int32} (hd : decode M.2.1 pc = .ok (.aaload, 1)) (hs : tx_sh k = (2, n, fs)) (hin : vp_in i n) (hq : fs.getD i.toNatClampNeg none = some q) (kk : gx l E M T σ L (pc + 1) (.ref (E.1 q) :: st)) : gx l E M T σ L pc (.int i :: .ref (E.1 k) :: st) := by
  intro p e s m args below meth c hC H locs ls hP hS hL
  have hN : n ≠ 0 := fun h => hin (Or.inr (by omega))
  refine va_aldq hC.1 hC.2.1 hC.2.2.2.2.2.1 hP k 2 (tx_w_f hs hN) rfl hin hd ?_
  rw [hq]
  exact kk p e s m args below meth c hC H locs ls hP hS hL
theorem gx_alen {k n : Nat} {fs : List (Option Nat)} (v : Int32) (hd : decode M.2.1 pc = .ok (.arraylength, 1)) (hs : tx_sh k = (0, n, fs)) (hN : n ≠ 0) (hv : Int32.ofNat n = v) (kk : gx l E M T σ L (pc + 1) (.int v :: st)) : gx l E M T σ L pc (.ref (E.1 k) :: st) := by
  intro p e s m args below meth c hC H locs ls hP hS hL
  exact va_alen hC.1 hC.2.1 hC.2.2.2.2.2.1 hP k 0 (tx_w_i hs hN) rfl hv hd (kk p e s m args below meth c hC H locs ls hP hS hL)
/-- a room by its height -/
def tx_fit (My M : tx_M) : Prop := My.2.2.2.2.cells = 0 ∧ My.2.2.2.2.slots = 0 ∧ My.2.2.2.2.frames + 1 ≤ M.2.2.2.2.frames ∧ 8 + (My.2.2.1 + 11) + My.2.2.2.2.locals ≤ M.2.2.2.2.locals
theorem tx_blind {E : tx_E} {σ : tx_St} {av : List Value} : FrameBlind (va_Pc av (fun U => tx_J E ∧ va_P E.2.1 tx_cl (tx_w E σ) U.heap ∧ va_K E.2.1 tx_cl (tx_ty E) U)) := fun a U g mk q => by
  obtain ⟨q0, q1, q2, q3⟩ := q
  exact ⟨q0, q1, q2, va_K.moved (u := U) (U := U.calling g mk a) (Vm.Alike.refl U.vm) q3⟩
theorem tx_good (h : ∀ w ∈ tx_ws, goodWord w = true) {y : MethodName} {b : ByteArray} {n : Nat} {r : Option FieldType} (hc : Cond.code y b n r ∈ tx_ws) : GoodIn tx_ws (Cond.code y b n r :: tx_ws) := by
  intro w hw
  rcases List.mem_cons.mp hw with rfl | hw
  · exact ⟨hc, Or.inl rfl⟩
  · exact ⟨hw, good_of_word (h w hw)⟩
/-- behind a call: the world as the callee left it -/
theorem tx_run {p : Program} {e : Env} {R : Room} {s : State} {m : MethodId} {args : Array Value} {below : List Frame} {meth : Method} {c : Code} {H : Heap} {locs : List Loc} {Q : State → Prop} {l : Launch} {E : tx_E} {Ty : tx_R} {pc : Nat} {ls : Array Slot} {rest st0 : List Value} {a : Array Value}
    (hr : va_Run p l e R s m args below meth c H locs 0 0 0 0 (F0 m pc ls st0) rest (tx_Q E Ty a) (tx_A E)) (hS : va_S (tx_A E) s.heap H locs)
    (kk : ∀ (H1 : Heap) (locs1 : List Loc), va_P E.2.1 tx_cl (tx_w E Ty.2) H1 → va_S (tx_A E) s.heap H1 locs1 → W p l e R s m args below meth c H1 locs1 0 0 Q (F0 m (pc + 3) ls (Ty.1.toList ++ rest))) : W p l e R s m args below meth c H locs 0 0 Q (F0 m pc ls st0) := by
  intro T hT X
  obtain ⟨v, st₀, t, T', L, h0, X', hL, e1, e2, ⟨hv, hp, hb, hz, hk⟩, st⟩ := hr T hT X
  cases hv
  rw [h0] at hz hk
  obtain ⟨t2, a1, b1⟩ := kk T'.heap (locs ++ L) (by rw [e1]; exact hp)
    ⟨Nat.le_trans hS.1 (by rw [e1]; exact hz), fun q h1 h2 => by rw [e1, hk q (Nat.lt_of_lt_of_le h1 hS.1) h2]; exact hS.2.1 q h1 h2, fun q hq => by
      rcases List.mem_append.mp hq with h | h
      · exact hS.2.2 q h
      · exact hL q h⟩ T' rfl X'
  exact ⟨t2, st t2 a1, b1⟩

/-- what the tables say of a method that is called -/
def tx_CM (y : MethodName) (My : tx_M) (n : Nat) : Prop := My.1 = y.cls ∧ Cond.code y My.2.1 My.2.2.1 My.2.2.2.1 ∈ tx_ws ∧ Cond.initialized y.cls ∈ tx_ws ∧ (y.cls ≠ "java/lang/invoke/MethodHandle" ∧ y.cls ≠ "java/lang/invoke/VarHandle" ∧ (parseMethodDescriptor y.desc).map (fun d => d.parameters.length) = some n)
def tx_CV (y : MethodName) (My : tx_M) (n ci : Nat) : Prop := tx_CM y My n ∧ Cond.instanceMethod y ∈ tx_ws ∧ Cond.selects y.cls y y ∈ tx_ws ∧ ∃ (F : u_T) (N : Nat), tx_cl[ci]? = some (y.cls, F, N)
def tx_CS (y : MethodName) (My : tx_M) (n : Nat) : Prop := tx_CM y My n ∧ Cond.static y ∈ tx_ws
def tx_LK (own : String) (idx : Nat) (y : MethodName) : Prop := Cond.methodLink own idx y ∈ tx_ws ∨ ∃ host, Cond.methodLinkNest own idx y host ∈ tx_ws
theorem tx_ws_good : ∀ w ∈ tx_ws, goodWord w = true := fun w hw => (List.mem_filter.mp hw).2
theorem gx_callV {idx n ci k N : Nat} {y : MethodName} {My : tx_M} {Ty : tx_R} {As rest st0 : List Value} {fs : List (Option Nat)} (cm : tx_CV y My n ci) (lk : tx_LK M.1 idx y) (hM : tx_MX l E y My Ty (.ref (E.1 k) :: As) σ) (hs : tx_sh k = (ci + 3, N, fs)) (hN : N ≠ 0) (hn : As.length = n) (hst : st0 = As.reverse ++ .ref (E.1 k) :: rest) (hfit : tx_fit My M) (hW : (rest.map fun v => v.category).sum ≤ 8) (hd : decode M.2.1 pc = .ok (.invokevirtual idx, 3)) (kk : gx l E M T Ty.2 L (pc + 3) (Ty.1.toList ++ rest)) : gx l E M T σ L pc st0 := by
  intro p e s m args below meth c hC H locs ls hP hS hL
  subst hst
  obtain ⟨⟨hcl, hcode, hini, hd1, hd2, hpn⟩, hinst, hsel, F, N2, hci⟩ := cm
  obtain ⟨f1, f2, f3, f4⟩ := hfit
  have hts := hC.2.2.2.2.1
  have hpre : PreV s H y.cls (E.1 k) (va_Pc (.ref (E.1 k) :: As) (fun U => tx_J E ∧ va_P E.2.1 tx_cl (tx_w E σ) U.heap ∧ va_K E.2.1 tx_cl (tx_ty E) U)) As :=
    ⟨tx_blind, va_recv hC.2.2.2.2.2.1 hP hci (tx_w_o hs hN), fun U hU hW => ⟨rfl, hC.2.2.2.2.2.2.2.2, by rw [hU]; exact hP, va_K.moved hW.alike hC.2.2.2.2.2.1⟩⟩
  rcases lk with lk | ⟨host, lk⟩
  · exact tx_run (va_runV (As := As) (rest := rest) ⟨hC.1, hC.2.1, hC.2.2.1, hC.2.2.2.1, hts⟩ hM ⟨callB_of n hts (tx_good tx_ws_good hcode) rfl f1 f2 (hts _ hini) (hts _ lk) ⟨hd1, hd2, hpn⟩ ⟨f3, f4⟩, hts _ hinst, hts _ hsel⟩ hpre rfl hn hL.1 rfl (lv_room hW) hd ⟨Nat.zero_le _, Nat.zero_le _⟩) hS (fun H1 locs1 hP1 hS1 => kk p e s m args below meth c hC H1 locs1 ls hP1 hS1 hL)
  · exact tx_run (va_runVN (As := As) (rest := rest) ⟨hC.1, hC.2.1, hC.2.2.1, hC.2.2.2.1, hts⟩ hM ⟨va_cnB n hts (tx_good tx_ws_good hcode) rfl f1 f2 (va_Nw.of rfl (hts _ lk)) (hts _ hini) ⟨hd1, hd2, hpn⟩ ⟨f3, f4⟩, hts _ hinst, hts _ hsel⟩ hpre rfl hn hL.1 rfl (lv_room hW) hd ⟨Nat.zero_le _, Nat.zero_le _⟩) hS (fun H1 locs1 hP1 hS1 => kk p e s m args below meth c hC H1 locs1 ls hP1 hS1 hL)
theorem gx_callS {idx n : Nat} {y : MethodName} {My : tx_M} {Ty : tx_R} {As rest st0 : List Value} (cm : tx_CS y My n) (lk : tx_LK M.1 idx y) (hM : tx_MX l E y My Ty As σ) (hn : As.length = n) (hst : st0 = As.reverse ++ rest) (hfit : tx_fit My M) (hW : (rest.map fun v => v.category).sum ≤ 8) (hd : decode M.2.1 pc = .ok (.invokestatic idx, 3)) (kk : gx l E M T Ty.2 L (pc + 3) (Ty.1.toList ++ rest)) : gx l E M T σ L pc st0 := by
  intro p e s m args below meth c hC H locs ls hP hS hL
  subst hst
  obtain ⟨⟨hcl, hcode, hini, hd1, hd2, hpn⟩, hstat⟩ := cm
  obtain ⟨f1, f2, f3, f4⟩ := hfit
  have hts := hC.2.2.2.2.1
  have hpre : PreS s H (va_Pc As (fun U => tx_J E ∧ va_P E.2.1 tx_cl (tx_w E σ) U.heap ∧ va_K E.2.1 tx_cl (tx_ty E) U)) As :=
    ⟨tx_blind, fun U hU hW => ⟨rfl, hC.2.2.2.2.2.2.2.2, by rw [hU]; exact hP, va_K.moved hW.alike hC.2.2.2.2.2.1⟩⟩
  rcases lk with lk | ⟨host, lk⟩
  · exact tx_run (va_runS (As := As) (rest := rest) ⟨hC.1, hC.2.1, hC.2.2.1, hC.2.2.2.1, hts⟩ hM ⟨callB_of n hts (tx_good tx_ws_good hcode) rfl f1 f2 (hts _ hini) (hts _ lk) ⟨hd1, hd2, hpn⟩ ⟨f3, f4⟩, hts _ hstat⟩ hpre rfl hn hL.1 rfl (lv_room hW) hd ⟨Nat.zero_le _, Nat.zero_le _⟩) hS (fun H1 locs1 hP1 hS1 => kk p e s m args below meth c hC H1 locs1 ls hP1 hS1 hL)
  · exact tx_run (va_runSN (As := As) (rest := rest) ⟨hC.1, hC.2.1, hC.2.2.1, hC.2.2.2.1, hts⟩ hM ⟨va_cnB n hts (tx_good tx_ws_good hcode) rfl f1 f2 (va_Nw.of rfl (hts _ lk)) (hts _ hini) ⟨hd1, hd2, hpn⟩ ⟨f3, f4⟩, hts _ hstat, trivial⟩ hpre rfl hn hL.1 rfl (lv_room hW) hd ⟨Nat.zero_le _, Nat.zero_le _⟩) hS (fun H1 locs1 hP1 hS1 => kk p e s m args below meth c hC H1 locs1 ls hP1 hS1 hL)
theorem gx_mabs {idx : Nat} {x : Int32} (lk : Cond.methodLink M.1 idx y_Math_abs ∈ tx_ws) (cm : tx_CS y_Math_abs mi_Math_abs 1) (hf : 1 ≤ M.2.2.2.2.frames) (hlo : (st.map fun v => v.category).sum + 13 ≤ M.2.2.2.2.locals) (hd : decode M.2.1 pc = .ok (.invokestatic idx, 3)) (kk : gx l E M T σ L (pc + 3) (.int (if 0 ≤ x then x else 0 - x) :: st)) : gx l E M T σ L pc (.int x :: st) := by
  intro p e s m args below meth c hC H locs ls hP hS hL
  obtain ⟨⟨hcl, hcode, hini, -⟩, hstat⟩ := cm
  have hts := hC.2.2.2.2.1
  exact va_mabs hC.1 hC.2.1 (hC.2.2.1.trans hL.1.symm) hC.2.2.2.1 (hts _ lk) (hts _ hstat) (hts _ hini) (hts _ hcode) hf hlo (Nat.zero_le _) (Nat.zero_le _) hd (kk p e s m args below meth c hC H locs ls hP hS hL)

end GX
