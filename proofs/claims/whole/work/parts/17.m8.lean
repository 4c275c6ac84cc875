theorem d_Heap_hold_0 : decode c_Heap_hold 0 = .ok (.iload_n 1, 1) := by decide +kernel
theorem d_Heap_hold_1 : decode c_Heap_hold 1 = .ok (.ifCond .eq (12), 3) := by decide +kernel
theorem d_Heap_hold_4 : decode c_Heap_hold 4 = .ok (.aload_n 0, 1) := by decide +kernel
theorem d_Heap_hold_5 : decode c_Heap_hold 5 = .ok (.iload_n 1, 1) := by decide +kernel
theorem d_Heap_hold_6 : decode c_Heap_hold 6 = .ok (.invokevirtual 28, 3) := by decide +kernel
theorem d_Heap_hold_9 : decode c_Heap_hold 9 = .ok (.iconst (-1), 1) := by decide +kernel
theorem d_Heap_hold_10 : decode c_Heap_hold 10 = .ok (.if_icmp .eq (7), 3) := by decide +kernel
theorem d_Heap_hold_13 : decode c_Heap_hold 13 = .ok (.iconst (1), 1) := by decide +kernel
theorem d_Heap_hold_14 : decode c_Heap_hold 14 = .ok (.goto (4), 3) := by decide +kernel
theorem d_Heap_hold_17 : decode c_Heap_hold 17 = .ok (.iconst (0), 1) := by decide +kernel
theorem d_Heap_hold_18 : decode c_Heap_hold 18 = .ok (.istore_n 2, 1) := by decide +kernel
theorem d_Heap_hold_19 : decode c_Heap_hold 19 = .ok (.iload_n 2, 1) := by decide +kernel
theorem d_Heap_hold_20 : decode c_Heap_hold 20 = .ok (.ifCond .ne (12), 3) := by decide +kernel
theorem d_Heap_hold_23 : decode c_Heap_hold 23 = .ok (.aload_n 0, 1) := by decide +kernel
theorem d_Heap_hold_24 : decode c_Heap_hold 24 = .ok (.getfield 25, 3) := by decide +kernel
theorem d_Heap_hold_27 : decode c_Heap_hold 27 = .ok (.bipush (16), 2) := by decide +kernel
theorem d_Heap_hold_29 : decode c_Heap_hold 29 = .ok (.if_icmp .ne (4), 3) := by decide +kernel
theorem d_Heap_hold_32 : decode c_Heap_hold 32 = .ok (.return_, 1) := by decide +kernel
theorem d_Heap_hold_33 : decode c_Heap_hold 33 = .ok (.aload_n 0, 1) := by decide +kernel
theorem d_Heap_hold_34 : decode c_Heap_hold 34 = .ok (.getfield 18, 3) := by decide +kernel
theorem d_Heap_hold_37 : decode c_Heap_hold 37 = .ok (.aload_n 0, 1) := by decide +kernel
theorem d_Heap_hold_38 : decode c_Heap_hold 38 = .ok (.getfield 25, 3) := by decide +kernel
theorem d_Heap_hold_41 : decode c_Heap_hold 41 = .ok (.iload_n 1, 1) := by decide +kernel
theorem d_Heap_hold_42 : decode c_Heap_hold 42 = .ok (.iastore, 1) := by decide +kernel
theorem d_Heap_hold_43 : decode c_Heap_hold 43 = .ok (.aload_n 0, 1) := by decide +kernel
theorem d_Heap_hold_44 : decode c_Heap_hold 44 = .ok (.dup, 1) := by decide +kernel
theorem d_Heap_hold_45 : decode c_Heap_hold 45 = .ok (.getfield 25, 3) := by decide +kernel
theorem d_Heap_hold_48 : decode c_Heap_hold 48 = .ok (.iconst (1), 1) := by decide +kernel
theorem d_Heap_hold_49 : decode c_Heap_hold 49 = .ok (.iadd, 1) := by decide +kernel
theorem d_Heap_hold_50 : decode c_Heap_hold 50 = .ok (.putfield 25, 3) := by decide +kernel
theorem d_Heap_hold_53 : decode c_Heap_hold 53 = .ok (.return_, 1) := by decide +kernel
def fx_Heap_hold_b32 (σ : tx_St) : Option tx_St := some σ
def fx_Heap_hold_b18 (σ : tx_St) (x1 : Int32) (s0 : Int32) : Option tx_St := (if s0 = 0 then (if (σ 21 4) = (16 : Int32) then fx_Heap_hold_b32  σ else tx_wr σ 24 16 (σ 21 4) x1 fun σ7 => tx_pt σ7 21 4 ((σ7 21 4) + (1 : Int32)) fun σ8 => some σ8) else fx_Heap_hold_b32  σ)
def fx_Heap_hold_b13 (σ : tx_St) (x1 : Int32) : Option tx_St := fx_Heap_hold_b18  σ x1 (1 : Int32)
def fx_Heap_hold (σ : tx_St) (x1 : Int32) : Option tx_St := (if x1 = 0 then fx_Heap_hold_b13  σ x1 else tx_ci (fx_Heap_handleOf σ x1) fun r3 σ2 => (if r3 = (-1 : Int32) then fx_Heap_hold_b18  σ2 x1 (0 : Int32) else fx_Heap_hold_b13  σ2 x1))
set_option maxRecDepth 100000 in
set_option maxHeartbeats 4000000 in
theorem fx_Heap_hold_b32_w {l : Launch} {E : tx_E} (σ : tx_St) (t : tx_St) (hT : fx_Heap_hold_b32 σ  = some t) : gx l E mi_Heap_hold (none, t) σ [] 32 [] := by
  unfold fx_Heap_hold_b32 at hT
  cases hT
  exact gx_vret (pc := 32) d_Heap_hold_32 rfl rfl
set_option maxRecDepth 100000 in
set_option maxHeartbeats 4000000 in
theorem fx_Heap_hold_b18_w {l : Launch} {E : tx_E} (σ : tx_St) (x1 : Int32) (s0 : Int32) (t : tx_St) (hT : fx_Heap_hold_b18 σ x1 s0 = some t) : gx l E mi_Heap_hold (none, t) σ [(0, .ref (E.1 21)), (1, .int x1)] 18 [.int s0] := by
  unfold fx_Heap_hold_b18 at hT
  refine gx_istore_n (pc := 18) [(2, .int s0), (0, .ref (E.1 21)), (1, .int x1)] d_Heap_hold_18 rfl (Nat.le_of_ble_eq_true rfl) rfl ?_
  refine gx_iload_n (pc := 19) 0 d_Heap_hold_19 rfl rfl ?_
  refine gx_if_ne (pc := 20) 32 d_Heap_hold_20 rfl (fun h5 => ?_) (fun h5 => ?_)
  · have hT := tx_ifn h5 hT
    refine gx_sub [] rfl ?_
    exact fx_Heap_hold_b32_w  σ _ hT
  · have hT := tx_ifp h5 hT
    refine gx_aload_n (pc := 23) 1 d_Heap_hold_23 rfl rfl ?_
    refine gx_getI (pc := 24) (σ 21 4) fl_Heap_25 d_Heap_hold_24 (rfl) (by decide) rfl rfl ?_
    refine gx_bipush (pc := 27) (16 : Int32) d_Heap_hold_27 (by decide) ?_
    refine gx_icmp_ne (pc := 29) 33 d_Heap_hold_29 rfl (fun h6 => ?_) (fun h6 => ?_)
    · have hT := tx_ifn h6 hT
      refine gx_aload_n (pc := 33) 1 d_Heap_hold_33 rfl rfl ?_
      refine gx_getR (pc := 34) 24 fl_Heap_18 d_Heap_hold_34 (rfl) (by decide) rfl ?_
      refine gx_aload_n (pc := 37) 1 d_Heap_hold_37 rfl rfl ?_
      refine gx_getI (pc := 38) (σ 21 4) fl_Heap_25 d_Heap_hold_38 (rfl) (by decide) rfl rfl ?_
      refine gx_iload_n (pc := 41) 2 d_Heap_hold_41 rfl rfl ?_
      obtain ⟨σ7, gσ7, iσ7, hT⟩ := tx_wr_some hT
      refine gx_iast (pc := 42) d_Heap_hold_42 (rfl) iσ7 ?_
      rw [gσ7]
      refine gx_aload_n (pc := 43) 1 d_Heap_hold_43 rfl rfl ?_
      refine gx_dup (pc := 44) d_Heap_hold_44 rfl ?_
      refine gx_getI (pc := 45) (σ7 21 4) fl_Heap_25 d_Heap_hold_45 (rfl) (by decide) rfl rfl ?_
      refine gx_iconst (pc := 48) (1 : Int32) d_Heap_hold_48 (by decide) ?_
      refine gx_iadd (pc := 49) d_Heap_hold_49 ?_
      obtain ⟨σ8, gσ8, hT⟩ := tx_pt_some hT
      refine gx_putI (pc := 50) fp_Heap_25 d_Heap_hold_50 (rfl) (by decide) rfl ?_
      rw [gσ8]
      cases hT
      exact gx_vret (pc := 53) d_Heap_hold_53 rfl rfl
    · have hT := tx_ifp h6 hT
      refine gx_sub [] rfl ?_
      exact fx_Heap_hold_b32_w  σ _ hT
set_option maxRecDepth 100000 in
set_option maxHeartbeats 4000000 in
theorem fx_Heap_hold_b13_w {l : Launch} {E : tx_E} (σ : tx_St) (x1 : Int32) (t : tx_St) (hT : fx_Heap_hold_b13 σ x1 = some t) : gx l E mi_Heap_hold (none, t) σ [(0, .ref (E.1 21)), (1, .int x1)] 13 [] := by
  unfold fx_Heap_hold_b13 at hT
  refine gx_iconst (pc := 13) (1 : Int32) d_Heap_hold_13 (by decide) ?_
  refine gx_goto (pc := 14) 18 d_Heap_hold_14 rfl ?_
  exact fx_Heap_hold_b18_w  σ x1 (1 : Int32) _ hT
set_option maxRecDepth 100000 in
set_option maxHeartbeats 4000000 in
theorem fx_Heap_hold_c (l : Launch) (E : tx_E) (σ : tx_St) (x1 : Int32) (t : tx_St) (hT : fx_Heap_hold σ x1 = some t) : tx_MX l E y_Heap_hold mi_Heap_hold (none, t) [.ref (E.1 21), .int x1] σ := by
  refine tx_MX_of (by decide) rfl (Nat.le_of_ble_eq_true rfl) ?_
  show gx l E mi_Heap_hold (none, t) σ [(0, .ref (E.1 21)), (1, .int x1)] 0 []
  unfold fx_Heap_hold at hT
  refine gx_iload_n (pc := 0) 1 d_Heap_hold_0 rfl rfl ?_
  refine gx_if_eq (pc := 1) 13 d_Heap_hold_1 rfl (fun h1 => ?_) (fun h1 => ?_)
  · have hT := tx_ifp h1 hT
    exact fx_Heap_hold_b13_w  σ x1 _ hT
  · have hT := tx_ifn h1 hT
    refine gx_aload_n (pc := 4) 0 d_Heap_hold_4 rfl rfl ?_
    refine gx_iload_n (pc := 5) 1 d_Heap_hold_5 rfl rfl ?_
    obtain ⟨r3, σ2, cσ2, hT⟩ := tx_ci_some hT
    refine gx_callV (pc := 6) (As := [.int x1]) (rest := []) cm_Heap_handleOf lk_Heap_28 (fx_Heap_handleOf_c l E σ x1 _ cσ2) (rfl) (by decide) rfl rfl tx_fi_Heap_hold_Heap_handleOf (Nat.le_of_ble_eq_true rfl) d_Heap_hold_6 ?_
    change gx l E mi_Heap_hold _ σ2 [(0, .ref (E.1 21)), (1, .int x1)] 9 [.int r3]
    refine gx_iconst (pc := 9) (-1 : Int32) d_Heap_hold_9 (by decide) ?_
    refine gx_icmp_eq (pc := 10) 17 d_Heap_hold_10 rfl (fun h4 => ?_) (fun h4 => ?_)
    · have hT := tx_ifp h4 hT
      refine gx_iconst (pc := 17) (0 : Int32) d_Heap_hold_17 (by decide) ?_
      exact fx_Heap_hold_b18_w  σ2 x1 (0 : Int32) _ hT
    · have hT := tx_ifn h4 hT
      exact fx_Heap_hold_b13_w  σ2 x1 _ hT
theorem d_X_answerOf_0 : decode c_X_answerOf 0 = .ok (.iload_n 1, 1) := by decide +kernel
theorem d_X_answerOf_1 : decode c_X_answerOf 1 = .ok (.ifCond .ne (6), 3) := by decide +kernel
theorem d_X_answerOf_4 : decode c_X_answerOf 4 = .ok (.iload_n 2, 1) := by decide +kernel
theorem d_X_answerOf_5 : decode c_X_answerOf 5 = .ok (.i2l, 1) := by decide +kernel
theorem d_X_answerOf_6 : decode c_X_answerOf 6 = .ok (.lreturn, 1) := by decide +kernel
theorem d_X_answerOf_7 : decode c_X_answerOf 7 = .ok (.iload_n 2, 1) := by decide +kernel
theorem d_X_answerOf_8 : decode c_X_answerOf 8 = .ok (.ifCond .ne (7), 3) := by decide +kernel
theorem d_X_answerOf_11 : decode c_X_answerOf 11 = .ok (.ldc2_w 180, 3) := by decide +kernel
theorem d_X_answerOf_14 : decode c_X_answerOf 14 = .ok (.lreturn, 1) := by decide +kernel
theorem d_X_answerOf_15 : decode c_X_answerOf 15 = .ok (.aload_n 0, 1) := by decide +kernel
theorem d_X_answerOf_16 : decode c_X_answerOf 16 = .ok (.getfield 37, 3) := by decide +kernel
theorem d_X_answerOf_19 : decode c_X_answerOf 19 = .ok (.iload_n 2, 1) := by decide +kernel
theorem d_X_answerOf_20 : decode c_X_answerOf 20 = .ok (.invokevirtual 182, 3) := by decide +kernel
theorem d_X_answerOf_23 : decode c_X_answerOf 23 = .ok (.istore_n 3, 1) := by decide +kernel
theorem d_X_answerOf_24 : decode c_X_answerOf 24 = .ok (.iload_n 3, 1) := by decide +kernel
theorem d_X_answerOf_25 : decode c_X_answerOf 25 = .ok (.iconst (-1), 1) := by decide +kernel
theorem d_X_answerOf_26 : decode c_X_answerOf 26 = .ok (.if_icmp .ne (9), 3) := by decide +kernel
theorem d_X_answerOf_29 : decode c_X_answerOf 29 = .ok (.ldc2_w 185, 3) := by decide +kernel
theorem d_X_answerOf_32 : decode c_X_answerOf 32 = .ok (.goto (9), 3) := by decide +kernel
theorem d_X_answerOf_35 : decode c_X_answerOf 35 = .ok (.ldc2_w 187, 3) := by decide +kernel
theorem d_X_answerOf_38 : decode c_X_answerOf 38 = .ok (.iload_n 3, 1) := by decide +kernel
theorem d_X_answerOf_39 : decode c_X_answerOf 39 = .ok (.i2l, 1) := by decide +kernel
theorem d_X_answerOf_40 : decode c_X_answerOf 40 = .ok (.ladd, 1) := by decide +kernel
theorem d_X_answerOf_41 : decode c_X_answerOf 41 = .ok (.lreturn, 1) := by decide +kernel
def fx_X_answerOf_b41 (σ : tx_St) (s0 : Int64) : Option (Int64 × tx_St) := some (s0, σ)
def fx_X_answerOf (σ : tx_St) (x1 : Int32) (x2 : Int32) : Option (Int64 × tx_St) := (if x1 = 0 then some (x2.toInt64, σ) else (if x2 = 0 then some ((4294967296 : Int64), σ) else tx_ci (fx_Heap_handleOf σ x2) fun r4 σ3 => (if r4 = (-1 : Int32) then fx_X_answerOf_b41  σ3 (34359738368 : Int64) else fx_X_answerOf_b41  σ3 ((8589934592 : Int64) + r4.toInt64))))
set_option maxRecDepth 100000 in
set_option maxHeartbeats 4000000 in
theorem fx_X_answerOf_b41_w {l : Launch} {E : tx_E} (σ : tx_St) (s0 : Int64) (t : Int64 × tx_St) (hT : fx_X_answerOf_b41 σ s0 = some t) : gx l E mi_X_answerOf (some (.long t.1), t.2) σ [] 41 [.long s0] := by
  unfold fx_X_answerOf_b41 at hT
  cases hT
  exact gx_lret (pc := 41) d_X_answerOf_41 rfl rfl
set_option maxRecDepth 100000 in
set_option maxHeartbeats 4000000 in
theorem fx_X_answerOf_c (l : Launch) (E : tx_E) (σ : tx_St) (x1 : Int32) (x2 : Int32) (t : Int64 × tx_St) (hT : fx_X_answerOf σ x1 x2 = some t) : tx_MX l E y_X_answerOf mi_X_answerOf (some (.long t.1), t.2) [.ref (E.1 0), .int x1, .int x2] σ := by
  refine tx_MX_of (by decide) rfl (Nat.le_of_ble_eq_true rfl) ?_
  show gx l E mi_X_answerOf (some (.long t.1), t.2) σ [(0, .ref (E.1 0)), (1, .int x1), (2, .int x2)] 0 []
  unfold fx_X_answerOf at hT
  refine gx_iload_n (pc := 0) 1 d_X_answerOf_0 rfl rfl ?_
  refine gx_if_ne (pc := 1) 7 d_X_answerOf_1 rfl (fun h1 => ?_) (fun h1 => ?_)
  · have hT := tx_ifn h1 hT
    refine gx_iload_n (pc := 7) 2 d_X_answerOf_7 rfl rfl ?_
    refine gx_if_ne (pc := 8) 15 d_X_answerOf_8 rfl (fun h2 => ?_) (fun h2 => ?_)
    · have hT := tx_ifn h2 hT
      refine gx_aload_n (pc := 15) 0 d_X_answerOf_15 rfl rfl ?_
      refine gx_getR (pc := 16) 21 fl_X_37 d_X_answerOf_16 (rfl) (by decide) rfl ?_
      refine gx_iload_n (pc := 19) 2 d_X_answerOf_19 rfl rfl ?_
      obtain ⟨r4, σ3, cσ3, hT⟩ := tx_ci_some hT
      refine gx_callV (pc := 20) (As := [.int x2]) (rest := []) cm_Heap_handleOf lk_X_182 (fx_Heap_handleOf_c l E σ x2 _ cσ3) (rfl) (by decide) rfl rfl tx_fi_X_answerOf_Heap_handleOf (Nat.le_of_ble_eq_true rfl) d_X_answerOf_20 ?_
      change gx l E mi_X_answerOf _ σ3 [(0, .ref (E.1 0)), (1, .int x1), (2, .int x2)] 23 [.int r4]
      refine gx_istore_n (pc := 23) [(3, .int r4), (0, .ref (E.1 0)), (1, .int x1), (2, .int x2)] d_X_answerOf_23 rfl (Nat.le_of_ble_eq_true rfl) rfl ?_
      refine gx_iload_n (pc := 24) 0 d_X_answerOf_24 rfl rfl ?_
      refine gx_iconst (pc := 25) (-1 : Int32) d_X_answerOf_25 (by decide) ?_
      refine gx_icmp_ne (pc := 26) 35 d_X_answerOf_26 rfl (fun h5 => ?_) (fun h5 => ?_)
      · have hT := tx_ifn h5 hT
        refine gx_ldc2 (pc := 35) (v := (8589934592 : Int64)) d_X_answerOf_35 tw_3_134 ?_
        refine gx_iload_n (pc := 38) 0 d_X_answerOf_38 rfl rfl ?_
        refine gx_i2l (pc := 39) d_X_answerOf_39 ?_
        refine gx_ladd (pc := 40) d_X_answerOf_40 ?_
        refine gx_sub [] rfl ?_
        exact fx_X_answerOf_b41_w  σ3 ((8589934592 : Int64) + r4.toInt64) _ hT
      · have hT := tx_ifp h5 hT
        refine gx_ldc2 (pc := 29) (v := (34359738368 : Int64)) d_X_answerOf_29 tw_3_133 ?_
        refine gx_goto (pc := 32) 41 d_X_answerOf_32 rfl ?_
        refine gx_sub [] rfl ?_
        exact fx_X_answerOf_b41_w  σ3 (34359738368 : Int64) _ hT
    · have hT := tx_ifp h2 hT
      refine gx_ldc2 (pc := 11) (v := (4294967296 : Int64)) d_X_answerOf_11 tw_3_131 ?_
      cases hT
      exact gx_lret (pc := 14) d_X_answerOf_14 rfl rfl
  · have hT := tx_ifp h1 hT
    refine gx_iload_n (pc := 4) 2 d_X_answerOf_4 rfl rfl ?_
    refine gx_i2l (pc := 5) d_X_answerOf_5 ?_
    cases hT
    exact gx_lret (pc := 6) d_X_answerOf_6 rfl rfl
theorem d_X_run_0 : decode c_X_run 0 = .ok (.aload_n 0, 1) := by decide +kernel
theorem d_X_run_1 : decode c_X_run 1 = .ok (.getfield 50, 3) := by decide +kernel
theorem d_X_run_4 : decode c_X_run 4 = .ok (.ifCond .eq (23), 3) := by decide +kernel
theorem d_X_run_7 : decode c_X_run 7 = .ok (.aload_n 0, 1) := by decide +kernel
theorem d_X_run_8 : decode c_X_run 8 = .ok (.getfield 54, 3) := by decide +kernel
theorem d_X_run_11 : decode c_X_run 11 = .ok (.bipush (40), 2) := by decide +kernel
theorem d_X_run_13 : decode c_X_run 13 = .ok (.if_icmp .ge (14), 3) := by decide +kernel
theorem d_X_run_16 : decode c_X_run 16 = .ok (.aload_n 0, 1) := by decide +kernel
theorem d_X_run_17 : decode c_X_run 17 = .ok (.getfield 10, 3) := by decide +kernel
theorem d_X_run_20 : decode c_X_run 20 = .ok (.iload_n 1, 1) := by decide +kernel
theorem d_X_run_21 : decode c_X_run 21 = .ok (.invokevirtual 92, 3) := by decide +kernel
theorem d_X_run_24 : decode c_X_run 24 = .ok (.ifCond .ne (7), 3) := by decide +kernel
theorem d_X_run_27 : decode c_X_run 27 = .ok (.ldc2_w 117, 3) := by decide +kernel
theorem d_X_run_30 : decode c_X_run 30 = .ok (.lreturn, 1) := by decide +kernel
theorem d_X_run_31 : decode c_X_run 31 = .ok (.aload_n 0, 1) := by decide +kernel
theorem d_X_run_32 : decode c_X_run 32 = .ok (.iload_n 1, 1) := by decide +kernel
theorem d_X_run_33 : decode c_X_run 33 = .ok (.iload_n 2, 1) := by decide +kernel
theorem d_X_run_34 : decode c_X_run 34 = .ok (.invokevirtual 119, 3) := by decide +kernel
theorem d_X_run_37 : decode c_X_run 37 = .ok (.ifCond .eq (12), 3) := by decide +kernel
theorem d_X_run_40 : decode c_X_run 40 = .ok (.aload_n 0, 1) := by decide +kernel
theorem d_X_run_41 : decode c_X_run 41 = .ok (.iload_n 1, 1) := by decide +kernel
theorem d_X_run_42 : decode c_X_run 42 = .ok (.iload_n 3, 1) := by decide +kernel
theorem d_X_run_43 : decode c_X_run 43 = .ok (.invokevirtual 122, 3) := by decide +kernel
theorem d_X_run_46 : decode c_X_run 46 = .ok (.ifCond .ne (7), 3) := by decide +kernel
theorem d_X_run_49 : decode c_X_run 49 = .ok (.ldc2_w 117, 3) := by decide +kernel
theorem d_X_run_52 : decode c_X_run 52 = .ok (.lreturn, 1) := by decide +kernel
theorem d_X_run_53 : decode c_X_run 53 = .ok (.aload_n 0, 1) := by decide +kernel
theorem d_X_run_54 : decode c_X_run 54 = .ok (.dup, 1) := by decide +kernel
theorem d_X_run_55 : decode c_X_run 55 = .ok (.getfield 54, 3) := by decide +kernel
theorem d_X_run_58 : decode c_X_run 58 = .ok (.iconst (1), 1) := by decide +kernel
theorem d_X_run_59 : decode c_X_run 59 = .ok (.iadd, 1) := by decide +kernel
theorem d_X_run_60 : decode c_X_run 60 = .ok (.putfield 54, 3) := by decide +kernel
theorem d_X_run_63 : decode c_X_run 63 = .ok (.aload_n 0, 1) := by decide +kernel
theorem d_X_run_64 : decode c_X_run 64 = .ok (.getfield 10, 3) := by decide +kernel
theorem d_X_run_67 : decode c_X_run 67 = .ok (.getfield 125, 3) := by decide +kernel
theorem d_X_run_70 : decode c_X_run 70 = .ok (.iload_n 1, 1) := by decide +kernel
theorem d_X_run_71 : decode c_X_run 71 = .ok (.iaload, 1) := by decide +kernel
theorem d_X_run_72 : decode c_X_run 72 = .ok (.ifCond .ne (7), 3) := by decide +kernel
theorem d_X_run_75 : decode c_X_run 75 = .ok (.iconst (1), 1) := by decide +kernel
theorem d_X_run_76 : decode c_X_run 76 = .ok (.goto (4), 3) := by decide +kernel
theorem d_X_run_79 : decode c_X_run 79 = .ok (.iconst (0), 1) := by decide +kernel
theorem d_X_run_80 : decode c_X_run 80 = .ok (.istore 4, 2) := by decide +kernel
theorem d_X_run_82 : decode c_X_run 82 = .ok (.iload 4, 2) := by decide +kernel
theorem d_X_run_84 : decode c_X_run 84 = .ok (.ifCond .eq (7), 3) := by decide +kernel
theorem d_X_run_87 : decode c_X_run 87 = .ok (.iload_n 3, 1) := by decide +kernel
theorem d_X_run_88 : decode c_X_run 88 = .ok (.goto (11), 3) := by decide +kernel
theorem d_X_run_91 : decode c_X_run 91 = .ok (.aload_n 0, 1) := by decide +kernel
theorem d_X_run_92 : decode c_X_run 92 = .ok (.getfield 37, 3) := by decide +kernel
theorem d_X_run_95 : decode c_X_run 95 = .ok (.iload_n 3, 1) := by decide +kernel
theorem d_X_run_96 : decode c_X_run 96 = .ok (.invokevirtual 128, 3) := by decide +kernel
theorem d_X_run_99 : decode c_X_run 99 = .ok (.istore 5, 2) := by decide +kernel
theorem d_X_run_101 : decode c_X_run 101 = .ok (.aload_n 0, 1) := by decide +kernel
theorem d_X_run_102 : decode c_X_run 102 = .ok (.getfield 46, 3) := by decide +kernel
theorem d_X_run_105 : decode c_X_run 105 = .ok (.iload_n 1, 1) := by decide +kernel
theorem d_X_run_106 : decode c_X_run 106 = .ok (.aload_n 0, 1) := by decide +kernel
theorem d_X_run_107 : decode c_X_run 107 = .ok (.getfield 37, 3) := by decide +kernel
theorem d_X_run_110 : decode c_X_run 110 = .ok (.iload_n 2, 1) := by decide +kernel
theorem d_X_run_111 : decode c_X_run 111 = .ok (.invokevirtual 128, 3) := by decide +kernel
theorem d_X_run_114 : decode c_X_run 114 = .ok (.iload 5, 2) := by decide +kernel
theorem d_X_run_116 : decode c_X_run 116 = .ok (.invokevirtual 131, 3) := by decide +kernel
theorem d_X_run_119 : decode c_X_run 119 = .ok (.istore 6, 2) := by decide +kernel
theorem d_X_run_121 : decode c_X_run 121 = .ok (.aload_n 0, 1) := by decide +kernel
theorem d_X_run_122 : decode c_X_run 122 = .ok (.aload_n 0, 1) := by decide +kernel
theorem d_X_run_123 : decode c_X_run 123 = .ok (.getfield 46, 3) := by decide +kernel
theorem d_X_run_126 : decode c_X_run 126 = .ok (.getfield 134, 3) := by decide +kernel
theorem d_X_run_129 : decode c_X_run 129 = .ok (.putfield 58, 3) := by decide +kernel
theorem d_X_run_132 : decode c_X_run 132 = .ok (.iload 6, 2) := by decide +kernel
theorem d_X_run_134 : decode c_X_run 134 = .ok (.ifCond .eq (11), 3) := by decide +kernel
theorem d_X_run_137 : decode c_X_run 137 = .ok (.ldc2_w 137, 3) := by decide +kernel
theorem d_X_run_140 : decode c_X_run 140 = .ok (.iload 6, 2) := by decide +kernel
theorem d_X_run_142 : decode c_X_run 142 = .ok (.i2l, 1) := by decide +kernel
theorem d_X_run_143 : decode c_X_run 143 = .ok (.ladd, 1) := by decide +kernel
theorem d_X_run_144 : decode c_X_run 144 = .ok (.lreturn, 1) := by decide +kernel
theorem d_X_run_145 : decode c_X_run 145 = .ok (.aload_n 0, 1) := by decide +kernel
theorem d_X_run_146 : decode c_X_run 146 = .ok (.getfield 10, 3) := by decide +kernel
theorem d_X_run_149 : decode c_X_run 149 = .ok (.getfield 139, 3) := by decide +kernel
theorem d_X_run_152 : decode c_X_run 152 = .ok (.iload_n 1, 1) := by decide +kernel
theorem d_X_run_153 : decode c_X_run 153 = .ok (.iaload, 1) := by decide +kernel
theorem d_X_run_154 : decode c_X_run 154 = .ok (.istore 7, 2) := by decide +kernel
theorem d_X_run_156 : decode c_X_run 156 = .ok (.iload 7, 2) := by decide +kernel
theorem d_X_run_158 : decode c_X_run 158 = .ok (.ifCond .eq (17), 3) := by decide +kernel
theorem d_X_run_161 : decode c_X_run 161 = .ok (.aload_n 0, 1) := by decide +kernel
theorem d_X_run_162 : decode c_X_run 162 = .ok (.getfield 37, 3) := by decide +kernel
theorem d_X_run_165 : decode c_X_run 165 = .ok (.aload_n 0, 1) := by decide +kernel
theorem d_X_run_166 : decode c_X_run 166 = .ok (.getfield 46, 3) := by decide +kernel
theorem d_X_run_169 : decode c_X_run 169 = .ok (.getfield 142, 3) := by decide +kernel
theorem d_X_run_172 : decode c_X_run 172 = .ok (.invokevirtual 145, 3) := by decide +kernel
theorem d_X_run_175 : decode c_X_run 175 = .ok (.aload_n 0, 1) := by decide +kernel
theorem d_X_run_176 : decode c_X_run 176 = .ok (.iload 7, 2) := by decide +kernel
theorem d_X_run_178 : decode c_X_run 178 = .ok (.aload_n 0, 1) := by decide +kernel
theorem d_X_run_179 : decode c_X_run 179 = .ok (.getfield 46, 3) := by decide +kernel
theorem d_X_run_182 : decode c_X_run 182 = .ok (.getfield 142, 3) := by decide +kernel
theorem d_X_run_185 : decode c_X_run 185 = .ok (.invokevirtual 149, 3) := by decide +kernel
theorem d_X_run_188 : decode c_X_run 188 = .ok (.lreturn, 1) := by decide +kernel
def fx_X_run_b27 (σ : tx_St) : Option (Int64 × tx_St) := some ((68719476736 : Int64), σ)
def fx_X_run_b49 (σ : tx_St) : Option (Int64 × tx_St) := some ((68719476736 : Int64), σ)
def fx_X_run_b175 (σ : tx_St) (x7 : Int32) : Option (Int64 × tx_St) := tx_cl8 (fx_X_answerOf σ x7 (σ 25 1)) fun r28 σ27 => some (r28, σ27)
def fx_X_run_b99 (σ : tx_St) (x1 : Int32) (x2 : Int32) (s0 : Int32) : Option (Int64 × tx_St) := tx_ci (fx_Heap_inHandle σ x2) fun r19 σ18 => tx_ci (fx_Machine_execute σ18 x1 r19 s0) fun r21 σ20 => tx_pt σ20 0 7 (σ20 25 0) fun σ22 => (if r21 = 0 then tx_rd σ22 11 8 x1 fun v24 => (if v24 = 0 then fx_X_run_b175  σ22 v24 else tx_cv (fx_Heap_hold σ22 (σ22 25 1)) fun σ26 => fx_X_run_b175  σ26 v24) else some (((17179869184 : Int64) + r21.toInt64), σ22))
def fx_X_run_b80 (σ : tx_St) (x1 : Int32) (x2 : Int32) (x3 : Int32) (s0 : Int32) : Option (Int64 × tx_St) := (if s0 = 0 then tx_ci (fx_Heap_inHandle σ x3) fun r17 σ16 => fx_X_run_b99  σ16 x1 x2 r17 else fx_X_run_b99  σ x1 x2 x3)
def fx_X_run (σ : tx_St) (x1 : Int32) (x2 : Int32) (x3 : Int32) : Option (Int64 × tx_St) := (if (σ 0 5) = 0 then fx_X_run_b27  σ else (if (40 : Int32) ≤ (σ 0 6) then fx_X_run_b27  σ else tx_ci (fx_Plan_isMethod σ x1) fun r4 σ3 => (if r4 = 0 then fx_X_run_b27  σ3 else tx_ci (fx_X_receiverFits σ3 x1 x2) fun r7 σ6 => (if r7 = 0 then fx_X_run_b49  σ6 else tx_ci (fx_X_argumentFits σ6 x1 x3) fun r10 σ9 => (if r10 = 0 then fx_X_run_b49  σ9 else tx_pt σ9 0 6 ((σ9 0 6) + (1 : Int32)) fun σ12 => tx_rd σ12 10 8 x1 fun v13 => (if v13 = 0 then fx_X_run_b80  σ12 x1 x2 x3 (1 : Int32) else fx_X_run_b80  σ12 x1 x2 x3 (0 : Int32)))))))
set_option maxRecDepth 100000 in
set_option maxHeartbeats 4000000 in
theorem fx_X_run_b27_w {l : Launch} {E : tx_E} (σ : tx_St) (t : Int64 × tx_St) (hT : fx_X_run_b27 σ  = some t) : gx l E mi_X_run (some (.long t.1), t.2) σ [] 27 [] := by
  unfold fx_X_run_b27 at hT
  refine gx_ldc2 (pc := 27) (v := (68719476736 : Int64)) d_X_run_27 tw_3_15 ?_
  cases hT
  exact gx_lret (pc := 30) d_X_run_30 rfl rfl
set_option maxRecDepth 100000 in
set_option maxHeartbeats 4000000 in
theorem fx_X_run_b49_w {l : Launch} {E : tx_E} (σ : tx_St) (t : Int64 × tx_St) (hT : fx_X_run_b49 σ  = some t) : gx l E mi_X_run (some (.long t.1), t.2) σ [] 49 [] := by
  unfold fx_X_run_b49 at hT
  refine gx_ldc2 (pc := 49) (v := (68719476736 : Int64)) d_X_run_49 tw_3_15 ?_
  cases hT
  exact gx_lret (pc := 52) d_X_run_52 rfl rfl
set_option maxRecDepth 100000 in
set_option maxHeartbeats 4000000 in
theorem fx_X_run_b175_w {l : Launch} {E : tx_E} (σ : tx_St) (x7 : Int32) (t : Int64 × tx_St) (hT : fx_X_run_b175 σ x7 = some t) : gx l E mi_X_run (some (.long t.1), t.2) σ [(0, .ref (E.1 0)), (7, .int x7)] 175 [] := by
  unfold fx_X_run_b175 at hT
  refine gx_aload_n (pc := 175) 0 d_X_run_175 rfl rfl ?_
  refine gx_iload (pc := 176) 1 d_X_run_176 rfl ?_
  refine gx_aload_n (pc := 178) 0 d_X_run_178 rfl rfl ?_
  refine gx_getR (pc := 179) 25 fl_X_46 d_X_run_179 (rfl) (by decide) rfl ?_
  refine gx_getI (pc := 182) (σ 25 1) fl_X_142 d_X_run_182 (rfl) (by decide) rfl rfl ?_
  obtain ⟨r28, σ27, cσ27, hT⟩ := tx_cl_some hT
  refine gx_callV (pc := 185) (As := [.int x7, .int (σ 25 1)]) (rest := []) cm_X_answerOf lk_X_149 (fx_X_answerOf_c l E σ x7 (σ 25 1) _ cσ27) (rfl) (by decide) rfl rfl tx_fi_X_run_X_answerOf (Nat.le_of_ble_eq_true rfl) d_X_run_185 ?_
  change gx l E mi_X_run _ σ27 [(0, .ref (E.1 0)), (7, .int x7)] 188 [.long r28]
  cases hT
  exact gx_lret (pc := 188) d_X_run_188 rfl rfl
set_option maxRecDepth 100000 in
set_option maxHeartbeats 4000000 in
theorem fx_X_run_b99_w {l : Launch} {E : tx_E} (σ : tx_St) (x1 : Int32) (x2 : Int32) (s0 : Int32) (t : Int64 × tx_St) (hT : fx_X_run_b99 σ x1 x2 s0 = some t) : gx l E mi_X_run (some (.long t.1), t.2) σ [(0, .ref (E.1 0)), (1, .int x1), (2, .int x2)] 99 [.int s0] := by
  unfold fx_X_run_b99 at hT
  refine gx_istore (pc := 99) [(5, .int s0), (0, .ref (E.1 0)), (1, .int x1), (2, .int x2)] d_X_run_99 (Nat.le_of_ble_eq_true rfl) rfl ?_
  refine gx_aload_n (pc := 101) 1 d_X_run_101 rfl rfl ?_
  refine gx_getR (pc := 102) 25 fl_X_46 d_X_run_102 (rfl) (by decide) rfl ?_
  refine gx_iload_n (pc := 105) 2 d_X_run_105 rfl rfl ?_
  refine gx_aload_n (pc := 106) 1 d_X_run_106 rfl rfl ?_
  refine gx_getR (pc := 107) 21 fl_X_37 d_X_run_107 (rfl) (by decide) rfl ?_
  refine gx_iload_n (pc := 110) 3 d_X_run_110 rfl rfl ?_
  obtain ⟨r19, σ18, cσ18, hT⟩ := tx_ci_some hT
  refine gx_callV (pc := 111) (As := [.int x2]) (rest := [.int x1, .ref (E.1 25)]) cm_Heap_inHandle lk_X_128 (fx_Heap_inHandle_c l E σ x2 _ cσ18) (rfl) (by decide) rfl rfl tx_fi_X_run_Heap_inHandle (Nat.le_of_ble_eq_true rfl) d_X_run_111 ?_
  change gx l E mi_X_run _ σ18 [(5, .int s0), (0, .ref (E.1 0)), (1, .int x1), (2, .int x2)] 114 [.int r19, .int x1, .ref (E.1 25)]
  refine gx_iload (pc := 114) 0 d_X_run_114 rfl ?_
  obtain ⟨r21, σ20, cσ20, hT⟩ := tx_ci_some hT
  refine gx_callV (pc := 116) (As := [.int x1, .int r19, .int s0]) (rest := []) cm_Machine_execute lk_X_131 (fx_Machine_execute_c l E σ18 x1 r19 s0 _ cσ20) (rfl) (by decide) rfl rfl tx_fi_X_run_Machine_execute (Nat.le_of_ble_eq_true rfl) d_X_run_116 ?_
  change gx l E mi_X_run _ σ20 [(5, .int s0), (0, .ref (E.1 0)), (1, .int x1), (2, .int x2)] 119 [.int r21]
  refine gx_istore (pc := 119) [(6, .int r21), (5, .int s0), (0, .ref (E.1 0)), (1, .int x1), (2, .int x2)] d_X_run_119 (Nat.le_of_ble_eq_true rfl) rfl ?_
  refine gx_aload_n (pc := 121) 2 d_X_run_121 rfl rfl ?_
  refine gx_aload_n (pc := 122) 2 d_X_run_122 rfl rfl ?_
  refine gx_getR (pc := 123) 25 fl_X_46 d_X_run_123 (rfl) (by decide) rfl ?_
  refine gx_getI (pc := 126) (σ20 25 0) fl_X_134 d_X_run_126 (rfl) (by decide) rfl rfl ?_
  obtain ⟨σ22, gσ22, hT⟩ := tx_pt_some hT
  refine gx_putI (pc := 129) fp_X_58 d_X_run_129 (rfl) (by decide) rfl ?_
  rw [gσ22]
  refine gx_iload (pc := 132) 0 d_X_run_132 rfl ?_
  refine gx_if_eq (pc := 134) 145 d_X_run_134 rfl (fun h23 => ?_) (fun h23 => ?_)
  · have hT := tx_ifp h23 hT
    refine gx_aload_n (pc := 145) 2 d_X_run_145 rfl rfl ?_
    refine gx_getR (pc := 146) 1 fl_X_10 d_X_run_146 (rfl) (by decide) rfl ?_
    refine gx_getR (pc := 149) 11 fl_X_139 d_X_run_149 (rfl) (by decide) rfl ?_
    refine gx_iload_n (pc := 152) 3 d_X_run_152 rfl rfl ?_
    obtain ⟨v24, gv24, iv24, hT⟩ := tx_rd_some hT
    refine gx_iald (pc := 153) v24 d_X_run_153 (rfl) iv24 gv24 ?_
    refine gx_istore (pc := 154) [(7, .int v24), (6, .int r21), (5, .int s0), (0, .ref (E.1 0)), (1, .int x1), (2, .int x2)] d_X_run_154 (Nat.le_of_ble_eq_true rfl) rfl ?_
    refine gx_iload (pc := 156) 0 d_X_run_156 rfl ?_
    refine gx_if_eq (pc := 158) 175 d_X_run_158 rfl (fun h25 => ?_) (fun h25 => ?_)
    · have hT := tx_ifp h25 hT
      refine gx_sub [3, 0] rfl ?_
      exact fx_X_run_b175_w  σ22 v24 _ hT
    · have hT := tx_ifn h25 hT
      refine gx_aload_n (pc := 161) 3 d_X_run_161 rfl rfl ?_
      refine gx_getR (pc := 162) 21 fl_X_37 d_X_run_162 (rfl) (by decide) rfl ?_
      refine gx_aload_n (pc := 165) 3 d_X_run_165 rfl rfl ?_
      refine gx_getR (pc := 166) 25 fl_X_46 d_X_run_166 (rfl) (by decide) rfl ?_
      refine gx_getI (pc := 169) (σ22 25 1) fl_X_142 d_X_run_169 (rfl) (by decide) rfl rfl ?_
      obtain ⟨σ26, cσ26, hT⟩ := tx_cv_some hT
      refine gx_callV (pc := 172) (As := [.int (σ22 25 1)]) (rest := []) cm_Heap_hold lk_X_145 (fx_Heap_hold_c l E σ22 (σ22 25 1) _ cσ26) (rfl) (by decide) rfl rfl tx_fi_X_run_Heap_hold (Nat.le_of_ble_eq_true rfl) d_X_run_172 ?_
      change gx l E mi_X_run _ σ26 [(7, .int v24), (6, .int r21), (5, .int s0), (0, .ref (E.1 0)), (1, .int x1), (2, .int x2)] 175 []
      refine gx_sub [3, 0] rfl ?_
      exact fx_X_run_b175_w  σ26 v24 _ hT
  · have hT := tx_ifn h23 hT
    refine gx_ldc2 (pc := 137) (v := (17179869184 : Int64)) d_X_run_137 tw_3_118 ?_
    refine gx_iload (pc := 140) 0 d_X_run_140 rfl ?_
    refine gx_i2l (pc := 142) d_X_run_142 ?_
    refine gx_ladd (pc := 143) d_X_run_143 ?_
    cases hT
    exact gx_lret (pc := 144) d_X_run_144 rfl rfl
set_option maxRecDepth 100000 in
set_option maxHeartbeats 4000000 in
theorem fx_X_run_b80_w {l : Launch} {E : tx_E} (σ : tx_St) (x1 : Int32) (x2 : Int32) (x3 : Int32) (s0 : Int32) (t : Int64 × tx_St) (hT : fx_X_run_b80 σ x1 x2 x3 s0 = some t) : gx l E mi_X_run (some (.long t.1), t.2) σ [(0, .ref (E.1 0)), (1, .int x1), (2, .int x2), (3, .int x3)] 80 [.int s0] := by
  unfold fx_X_run_b80 at hT
  refine gx_istore (pc := 80) [(4, .int s0), (0, .ref (E.1 0)), (1, .int x1), (2, .int x2), (3, .int x3)] d_X_run_80 (Nat.le_of_ble_eq_true rfl) rfl ?_
  refine gx_iload (pc := 82) 0 d_X_run_82 rfl ?_
  refine gx_if_eq (pc := 84) 91 d_X_run_84 rfl (fun h15 => ?_) (fun h15 => ?_)
  · have hT := tx_ifp h15 hT
    refine gx_aload_n (pc := 91) 1 d_X_run_91 rfl rfl ?_
    refine gx_getR (pc := 92) 21 fl_X_37 d_X_run_92 (rfl) (by decide) rfl ?_
    refine gx_iload_n (pc := 95) 4 d_X_run_95 rfl rfl ?_
    obtain ⟨r17, σ16, cσ16, hT⟩ := tx_ci_some hT
    refine gx_callV (pc := 96) (As := [.int x3]) (rest := []) cm_Heap_inHandle lk_X_128 (fx_Heap_inHandle_c l E σ x3 _ cσ16) (rfl) (by decide) rfl rfl tx_fi_X_run_Heap_inHandle (Nat.le_of_ble_eq_true rfl) d_X_run_96 ?_
    change gx l E mi_X_run _ σ16 [(4, .int s0), (0, .ref (E.1 0)), (1, .int x1), (2, .int x2), (3, .int x3)] 99 [.int r17]
    refine gx_sub [1, 2, 3] rfl ?_
    exact fx_X_run_b99_w  σ16 x1 x2 r17 _ hT
  · have hT := tx_ifn h15 hT
    refine gx_iload_n (pc := 87) 4 d_X_run_87 rfl rfl ?_
    refine gx_goto (pc := 88) 99 d_X_run_88 rfl ?_
    refine gx_sub [1, 2, 3] rfl ?_
    exact fx_X_run_b99_w  σ x1 x2 x3 _ hT
set_option maxRecDepth 100000 in
set_option maxHeartbeats 4000000 in
theorem fx_X_run_c (l : Launch) (E : tx_E) (σ : tx_St) (x1 : Int32) (x2 : Int32) (x3 : Int32) (t : Int64 × tx_St) (hT : fx_X_run σ x1 x2 x3 = some t) : tx_MX l E y_X_run mi_X_run (some (.long t.1), t.2) [.ref (E.1 0), .int x1, .int x2, .int x3] σ := by
  refine tx_MX_of (by decide) rfl (Nat.le_of_ble_eq_true rfl) ?_
  show gx l E mi_X_run (some (.long t.1), t.2) σ [(0, .ref (E.1 0)), (1, .int x1), (2, .int x2), (3, .int x3)] 0 []
  unfold fx_X_run at hT
  refine gx_aload_n (pc := 0) 0 d_X_run_0 rfl rfl ?_
  refine gx_getI (pc := 1) (σ 0 5) fl_X_50 d_X_run_1 (rfl) (by decide) rfl rfl ?_
  refine gx_if_eq (pc := 4) 27 d_X_run_4 rfl (fun h1 => ?_) (fun h1 => ?_)
  · have hT := tx_ifp h1 hT
    refine gx_sub [] rfl ?_
    exact fx_X_run_b27_w  σ _ hT
  · have hT := tx_ifn h1 hT
    refine gx_aload_n (pc := 7) 0 d_X_run_7 rfl rfl ?_
    refine gx_getI (pc := 8) (σ 0 6) fl_X_54 d_X_run_8 (rfl) (by decide) rfl rfl ?_
    refine gx_bipush (pc := 11) (40 : Int32) d_X_run_11 (by decide) ?_
    refine gx_icmp_ge (pc := 13) 27 d_X_run_13 rfl (fun h2 => ?_) (fun h2 => ?_)
    · have hT := tx_ifp h2 hT
      refine gx_sub [] rfl ?_
      exact fx_X_run_b27_w  σ _ hT
    · have hT := tx_ifn h2 hT
      refine gx_aload_n (pc := 16) 0 d_X_run_16 rfl rfl ?_
      refine gx_getR (pc := 17) 1 fl_X_10 d_X_run_17 (rfl) (by decide) rfl ?_
      refine gx_iload_n (pc := 20) 1 d_X_run_20 rfl rfl ?_
      obtain ⟨r4, σ3, cσ3, hT⟩ := tx_ci_some hT
      refine gx_callV (pc := 21) (As := [.int x1]) (rest := []) cm_Plan_isMethod lk_X_92 (fx_Plan_isMethod_c l E σ x1 _ cσ3) (rfl) (by decide) rfl rfl tx_fi_X_run_Plan_isMethod (Nat.le_of_ble_eq_true rfl) d_X_run_21 ?_
      change gx l E mi_X_run _ σ3 [(0, .ref (E.1 0)), (1, .int x1), (2, .int x2), (3, .int x3)] 24 [.int r4]
      refine gx_if_ne (pc := 24) 31 d_X_run_24 rfl (fun h5 => ?_) (fun h5 => ?_)
      · have hT := tx_ifn h5 hT
        refine gx_aload_n (pc := 31) 0 d_X_run_31 rfl rfl ?_
        refine gx_iload_n (pc := 32) 1 d_X_run_32 rfl rfl ?_
        refine gx_iload_n (pc := 33) 2 d_X_run_33 rfl rfl ?_
        obtain ⟨r7, σ6, cσ6, hT⟩ := tx_ci_some hT
        refine gx_callV (pc := 34) (As := [.int x1, .int x2]) (rest := []) cm_X_receiverFits lk_X_119 (fx_X_receiverFits_c l E σ3 x1 x2 _ cσ6) (rfl) (by decide) rfl rfl tx_fi_X_run_X_receiverFits (Nat.le_of_ble_eq_true rfl) d_X_run_34 ?_
        change gx l E mi_X_run _ σ6 [(0, .ref (E.1 0)), (1, .int x1), (2, .int x2), (3, .int x3)] 37 [.int r7]
        refine gx_if_eq (pc := 37) 49 d_X_run_37 rfl (fun h8 => ?_) (fun h8 => ?_)
        · have hT := tx_ifp h8 hT
          refine gx_sub [] rfl ?_
          exact fx_X_run_b49_w  σ6 _ hT
        · have hT := tx_ifn h8 hT
          refine gx_aload_n (pc := 40) 0 d_X_run_40 rfl rfl ?_
          refine gx_iload_n (pc := 41) 1 d_X_run_41 rfl rfl ?_
          refine gx_iload_n (pc := 42) 3 d_X_run_42 rfl rfl ?_
          obtain ⟨r10, σ9, cσ9, hT⟩ := tx_ci_some hT
          refine gx_callV (pc := 43) (As := [.int x1, .int x3]) (rest := []) cm_X_argumentFits lk_X_122 (fx_X_argumentFits_c l E σ6 x1 x3 _ cσ9) (rfl) (by decide) rfl rfl tx_fi_X_run_X_argumentFits (Nat.le_of_ble_eq_true rfl) d_X_run_43 ?_
          change gx l E mi_X_run _ σ9 [(0, .ref (E.1 0)), (1, .int x1), (2, .int x2), (3, .int x3)] 46 [.int r10]
          refine gx_if_ne (pc := 46) 53 d_X_run_46 rfl (fun h11 => ?_) (fun h11 => ?_)
          · have hT := tx_ifn h11 hT
            refine gx_aload_n (pc := 53) 0 d_X_run_53 rfl rfl ?_
            refine gx_dup (pc := 54) d_X_run_54 rfl ?_
            refine gx_getI (pc := 55) (σ9 0 6) fl_X_54 d_X_run_55 (rfl) (by decide) rfl rfl ?_
            refine gx_iconst (pc := 58) (1 : Int32) d_X_run_58 (by decide) ?_
            refine gx_iadd (pc := 59) d_X_run_59 ?_
            obtain ⟨σ12, gσ12, hT⟩ := tx_pt_some hT
            refine gx_putI (pc := 60) fp_X_54 d_X_run_60 (rfl) (by decide) rfl ?_
            rw [gσ12]
            refine gx_aload_n (pc := 63) 0 d_X_run_63 rfl rfl ?_
            refine gx_getR (pc := 64) 1 fl_X_10 d_X_run_64 (rfl) (by decide) rfl ?_
            refine gx_getR (pc := 67) 10 fl_X_125 d_X_run_67 (rfl) (by decide) rfl ?_
            refine gx_iload_n (pc := 70) 1 d_X_run_70 rfl rfl ?_
            obtain ⟨v13, gv13, iv13, hT⟩ := tx_rd_some hT
            refine gx_iald (pc := 71) v13 d_X_run_71 (rfl) iv13 gv13 ?_
            refine gx_if_ne (pc := 72) 79 d_X_run_72 rfl (fun h14 => ?_) (fun h14 => ?_)
            · have hT := tx_ifn h14 hT
              refine gx_iconst (pc := 79) (0 : Int32) d_X_run_79 (by decide) ?_
              exact fx_X_run_b80_w  σ12 x1 x2 x3 (0 : Int32) _ hT
            · have hT := tx_ifp h14 hT
              refine gx_iconst (pc := 75) (1 : Int32) d_X_run_75 (by decide) ?_
              refine gx_goto (pc := 76) 80 d_X_run_76 rfl ?_
              exact fx_X_run_b80_w  σ12 x1 x2 x3 (1 : Int32) _ hT
          · have hT := tx_ifp h11 hT
            refine gx_sub [] rfl ?_
            exact fx_X_run_b49_w  σ9 _ hT
      · have hT := tx_ifp h5 hT
        refine gx_sub [] rfl ?_
        exact fx_X_run_b27_w  σ3 _ hT
theorem d_X_look_0 : decode c_X_look 0 = .ok (.aload_n 0, 1) := by decide +kernel
theorem d_X_look_1 : decode c_X_look 1 = .ok (.getfield 37, 3) := by decide +kernel
theorem d_X_look_4 : decode c_X_look 4 = .ok (.iload_n 1, 1) := by decide +kernel
theorem d_X_look_5 : decode c_X_look 5 = .ok (.invokevirtual 128, 3) := by decide +kernel
theorem d_X_look_8 : decode c_X_look 8 = .ok (.istore_n 3, 1) := by decide +kernel
theorem d_X_look_9 : decode c_X_look 9 = .ok (.iload_n 3, 1) := by decide +kernel
theorem d_X_look_10 : decode c_X_look 10 = .ok (.ifCond .ne (7), 3) := by decide +kernel
theorem d_X_look_13 : decode c_X_look 13 = .ok (.ldc2_w 117, 3) := by decide +kernel
theorem d_X_look_16 : decode c_X_look 16 = .ok (.lreturn, 1) := by decide +kernel
theorem d_X_look_17 : decode c_X_look 17 = .ok (.aload_n 0, 1) := by decide +kernel
theorem d_X_look_18 : decode c_X_look 18 = .ok (.getfield 37, 3) := by decide +kernel
theorem d_X_look_21 : decode c_X_look 21 = .ok (.getfield 153, 3) := by decide +kernel
theorem d_X_look_24 : decode c_X_look 24 = .ok (.iload_n 3, 1) := by decide +kernel
theorem d_X_look_25 : decode c_X_look 25 = .ok (.iaload, 1) := by decide +kernel
theorem d_X_look_26 : decode c_X_look 26 = .ok (.istore 4, 2) := by decide +kernel
theorem d_X_look_28 : decode c_X_look 28 = .ok (.iload 4, 2) := by decide +kernel
theorem d_X_look_30 : decode c_X_look 30 = .ok (.iconst (1), 1) := by decide +kernel
theorem d_X_look_31 : decode c_X_look 31 = .ok (.if_icmp .ne (14), 3) := by decide +kernel
theorem d_X_look_34 : decode c_X_look 34 = .ok (.aload_n 0, 1) := by decide +kernel
theorem d_X_look_35 : decode c_X_look 35 = .ok (.getfield 37, 3) := by decide +kernel
theorem d_X_look_38 : decode c_X_look 38 = .ok (.iload_n 3, 1) := by decide +kernel
theorem d_X_look_39 : decode c_X_look 39 = .ok (.iconst (0), 1) := by decide +kernel
theorem d_X_look_40 : decode c_X_look 40 = .ok (.invokevirtual 156, 3) := by decide +kernel
theorem d_X_look_43 : decode c_X_look 43 = .ok (.i2l, 1) := by decide +kernel
theorem d_X_look_44 : decode c_X_look 44 = .ok (.lreturn, 1) := by decide +kernel
theorem d_X_look_45 : decode c_X_look 45 = .ok (.iload 4, 2) := by decide +kernel
theorem d_X_look_47 : decode c_X_look 47 = .ok (.iconst (2), 1) := by decide +kernel
theorem d_X_look_48 : decode c_X_look 48 = .ok (.isub, 1) := by decide +kernel
theorem d_X_look_49 : decode c_X_look 49 = .ok (.istore 5, 2) := by decide +kernel
theorem d_X_look_51 : decode c_X_look 51 = .ok (.aload_n 0, 1) := by decide +kernel
theorem d_X_look_52 : decode c_X_look 52 = .ok (.getfield 10, 3) := by decide +kernel
theorem d_X_look_55 : decode c_X_look 55 = .ok (.iload_n 2, 1) := by decide +kernel
theorem d_X_look_56 : decode c_X_look 56 = .ok (.invokevirtual 159, 3) := by decide +kernel
theorem d_X_look_59 : decode c_X_look 59 = .ok (.ifCond .eq (16), 3) := by decide +kernel
theorem d_X_look_62 : decode c_X_look 62 = .ok (.aload_n 0, 1) := by decide +kernel
theorem d_X_look_63 : decode c_X_look 63 = .ok (.getfield 10, 3) := by decide +kernel
theorem d_X_look_66 : decode c_X_look 66 = .ok (.iload 5, 2) := by decide +kernel
theorem d_X_look_68 : decode c_X_look 68 = .ok (.iload_n 2, 1) := by decide +kernel
theorem d_X_look_69 : decode c_X_look 69 = .ok (.invokevirtual 162, 3) := by decide +kernel
theorem d_X_look_72 : decode c_X_look 72 = .ok (.ifCond .ne (7), 3) := by decide +kernel
theorem d_X_look_75 : decode c_X_look 75 = .ok (.ldc2_w 117, 3) := by decide +kernel
theorem d_X_look_78 : decode c_X_look 78 = .ok (.lreturn, 1) := by decide +kernel
theorem d_X_look_79 : decode c_X_look 79 = .ok (.aload_n 0, 1) := by decide +kernel
theorem d_X_look_80 : decode c_X_look 80 = .ok (.aload_n 0, 1) := by decide +kernel
theorem d_X_look_81 : decode c_X_look 81 = .ok (.getfield 10, 3) := by decide +kernel
theorem d_X_look_84 : decode c_X_look 84 = .ok (.getfield 165, 3) := by decide +kernel
theorem d_X_look_87 : decode c_X_look 87 = .ok (.iload_n 2, 1) := by decide +kernel
theorem d_X_look_88 : decode c_X_look 88 = .ok (.iaload, 1) := by decide +kernel
theorem d_X_look_89 : decode c_X_look 89 = .ok (.aload_n 0, 1) := by decide +kernel
theorem d_X_look_90 : decode c_X_look 90 = .ok (.getfield 37, 3) := by decide +kernel
theorem d_X_look_93 : decode c_X_look 93 = .ok (.iload_n 3, 1) := by decide +kernel
theorem d_X_look_94 : decode c_X_look 94 = .ok (.aload_n 0, 1) := by decide +kernel
theorem d_X_look_95 : decode c_X_look 95 = .ok (.getfield 10, 3) := by decide +kernel
theorem d_X_look_98 : decode c_X_look 98 = .ok (.iload 5, 2) := by decide +kernel
theorem d_X_look_100 : decode c_X_look 100 = .ok (.iload_n 2, 1) := by decide +kernel
theorem d_X_look_101 : decode c_X_look 101 = .ok (.invokevirtual 168, 3) := by decide +kernel
theorem d_X_look_104 : decode c_X_look 104 = .ok (.invokevirtual 156, 3) := by decide +kernel
theorem d_X_look_107 : decode c_X_look 107 = .ok (.invokevirtual 149, 3) := by decide +kernel
theorem d_X_look_110 : decode c_X_look 110 = .ok (.lreturn, 1) := by decide +kernel
def fx_X_look_b75 (σ : tx_St) : Option (Int64 × tx_St) := some ((68719476736 : Int64), σ)
def fx_X_look (σ : tx_St) (x1 : Int32) (x2 : Int32) : Option (Int64 × tx_St) := tx_ci (fx_Heap_inHandle σ x1) fun r2 σ1 => (if r2 = 0 then some ((68719476736 : Int64), σ1) else tx_rd σ1 22 321 r2 fun v4 => (if v4 = (1 : Int32) then tx_ci (fx_Heap_slotValue σ1 r2 (0 : Int32)) fun r20 σ19 => some (r20.toInt64, σ19) else tx_ci (fx_Plan_isField σ1 x2) fun r7 σ6 => (if r7 = 0 then fx_X_look_b75  σ6 else tx_ci (fx_Plan_owns σ6 (v4 - (2 : Int32)) x2) fun r10 σ9 => (if r10 = 0 then fx_X_look_b75  σ9 else tx_rd σ9 6 12 x2 fun v12 => tx_ci (fx_Plan_slotOf σ9 (v4 - (2 : Int32)) x2) fun r14 σ13 => tx_ci (fx_Heap_slotValue σ13 r2 r14) fun r16 σ15 => tx_cl8 (fx_X_answerOf σ15 v12 r16) fun r18 σ17 => some (r18, σ17)))))
set_option maxRecDepth 100000 in
set_option maxHeartbeats 4000000 in
theorem fx_X_look_b75_w {l : Launch} {E : tx_E} (σ : tx_St) (t : Int64 × tx_St) (hT : fx_X_look_b75 σ  = some t) : gx l E mi_X_look (some (.long t.1), t.2) σ [] 75 [] := by
  unfold fx_X_look_b75 at hT
  refine gx_ldc2 (pc := 75) (v := (68719476736 : Int64)) d_X_look_75 tw_3_15 ?_
  cases hT
  exact gx_lret (pc := 78) d_X_look_78 rfl rfl
set_option maxRecDepth 100000 in
set_option maxHeartbeats 4000000 in
theorem fx_X_look_c (l : Launch) (E : tx_E) (σ : tx_St) (x1 : Int32) (x2 : Int32) (t : Int64 × tx_St) (hT : fx_X_look σ x1 x2 = some t) : tx_MX l E y_X_look mi_X_look (some (.long t.1), t.2) [.ref (E.1 0), .int x1, .int x2] σ := by
  refine tx_MX_of (by decide) rfl (Nat.le_of_ble_eq_true rfl) ?_
  show gx l E mi_X_look (some (.long t.1), t.2) σ [(0, .ref (E.1 0)), (1, .int x1), (2, .int x2)] 0 []
  unfold fx_X_look at hT
  refine gx_aload_n (pc := 0) 0 d_X_look_0 rfl rfl ?_
  refine gx_getR (pc := 1) 21 fl_X_37 d_X_look_1 (rfl) (by decide) rfl ?_
  refine gx_iload_n (pc := 4) 1 d_X_look_4 rfl rfl ?_
  obtain ⟨r2, σ1, cσ1, hT⟩ := tx_ci_some hT
  refine gx_callV (pc := 5) (As := [.int x1]) (rest := []) cm_Heap_inHandle lk_X_128 (fx_Heap_inHandle_c l E σ x1 _ cσ1) (rfl) (by decide) rfl rfl tx_fi_X_look_Heap_inHandle (Nat.le_of_ble_eq_true rfl) d_X_look_5 ?_
  change gx l E mi_X_look _ σ1 [(0, .ref (E.1 0)), (1, .int x1), (2, .int x2)] 8 [.int r2]
  refine gx_istore_n (pc := 8) [(3, .int r2), (0, .ref (E.1 0)), (1, .int x1), (2, .int x2)] d_X_look_8 rfl (Nat.le_of_ble_eq_true rfl) rfl ?_
  refine gx_iload_n (pc := 9) 0 d_X_look_9 rfl rfl ?_
  refine gx_if_ne (pc := 10) 17 d_X_look_10 rfl (fun h3 => ?_) (fun h3 => ?_)
  · have hT := tx_ifn h3 hT
    refine gx_aload_n (pc := 17) 1 d_X_look_17 rfl rfl ?_
    refine gx_getR (pc := 18) 21 fl_X_37 d_X_look_18 (rfl) (by decide) rfl ?_
    refine gx_getR (pc := 21) 22 fl_X_153 d_X_look_21 (rfl) (by decide) rfl ?_
    refine gx_iload_n (pc := 24) 0 d_X_look_24 rfl rfl ?_
    obtain ⟨v4, gv4, iv4, hT⟩ := tx_rd_some hT
    refine gx_iald (pc := 25) v4 d_X_look_25 (rfl) iv4 gv4 ?_
    refine gx_istore (pc := 26) [(4, .int v4), (3, .int r2), (0, .ref (E.1 0)), (1, .int x1), (2, .int x2)] d_X_look_26 (Nat.le_of_ble_eq_true rfl) rfl ?_
    refine gx_iload (pc := 28) 0 d_X_look_28 rfl ?_
    refine gx_iconst (pc := 30) (1 : Int32) d_X_look_30 (by decide) ?_
    refine gx_icmp_ne (pc := 31) 45 d_X_look_31 rfl (fun h5 => ?_) (fun h5 => ?_)
    · have hT := tx_ifn h5 hT
      refine gx_iload (pc := 45) 0 d_X_look_45 rfl ?_
      refine gx_iconst (pc := 47) (2 : Int32) d_X_look_47 (by decide) ?_
      refine gx_isub (pc := 48) d_X_look_48 ?_
      refine gx_istore (pc := 49) [(5, .int (v4 - (2 : Int32))), (4, .int v4), (3, .int r2), (0, .ref (E.1 0)), (1, .int x1), (2, .int x2)] d_X_look_49 (Nat.le_of_ble_eq_true rfl) rfl ?_
      refine gx_aload_n (pc := 51) 3 d_X_look_51 rfl rfl ?_
      refine gx_getR (pc := 52) 1 fl_X_10 d_X_look_52 (rfl) (by decide) rfl ?_
      refine gx_iload_n (pc := 55) 5 d_X_look_55 rfl rfl ?_
      obtain ⟨r7, σ6, cσ6, hT⟩ := tx_ci_some hT
      refine gx_callV (pc := 56) (As := [.int x2]) (rest := []) cm_Plan_isField lk_X_159 (fx_Plan_isField_c l E σ1 x2 _ cσ6) (rfl) (by decide) rfl rfl tx_fi_X_look_Plan_isField (Nat.le_of_ble_eq_true rfl) d_X_look_56 ?_
      change gx l E mi_X_look _ σ6 [(5, .int (v4 - (2 : Int32))), (4, .int v4), (3, .int r2), (0, .ref (E.1 0)), (1, .int x1), (2, .int x2)] 59 [.int r7]
      refine gx_if_eq (pc := 59) 75 d_X_look_59 rfl (fun h8 => ?_) (fun h8 => ?_)
      · have hT := tx_ifp h8 hT
        refine gx_sub [] rfl ?_
        exact fx_X_look_b75_w  σ6 _ hT
      · have hT := tx_ifn h8 hT
        refine gx_aload_n (pc := 62) 3 d_X_look_62 rfl rfl ?_
        refine gx_getR (pc := 63) 1 fl_X_10 d_X_look_63 (rfl) (by decide) rfl ?_
        refine gx_iload (pc := 66) 0 d_X_look_66 rfl ?_
        refine gx_iload_n (pc := 68) 5 d_X_look_68 rfl rfl ?_
        obtain ⟨r10, σ9, cσ9, hT⟩ := tx_ci_some hT
        refine gx_callV (pc := 69) (As := [.int (v4 - (2 : Int32)), .int x2]) (rest := []) cm_Plan_owns lk_X_162 (fx_Plan_owns_c l E σ6 (v4 - (2 : Int32)) x2 _ cσ9) (rfl) (by decide) rfl rfl tx_fi_X_look_Plan_owns (Nat.le_of_ble_eq_true rfl) d_X_look_69 ?_
        change gx l E mi_X_look _ σ9 [(5, .int (v4 - (2 : Int32))), (4, .int v4), (3, .int r2), (0, .ref (E.1 0)), (1, .int x1), (2, .int x2)] 72 [.int r10]
        refine gx_if_ne (pc := 72) 79 d_X_look_72 rfl (fun h11 => ?_) (fun h11 => ?_)
        · have hT := tx_ifn h11 hT
          refine gx_aload_n (pc := 79) 3 d_X_look_79 rfl rfl ?_
          refine gx_aload_n (pc := 80) 3 d_X_look_80 rfl rfl ?_
          refine gx_getR (pc := 81) 1 fl_X_10 d_X_look_81 (rfl) (by decide) rfl ?_
          refine gx_getR (pc := 84) 6 fl_X_165 d_X_look_84 (rfl) (by decide) rfl ?_
          refine gx_iload_n (pc := 87) 5 d_X_look_87 rfl rfl ?_
          obtain ⟨v12, gv12, iv12, hT⟩ := tx_rd_some hT
          refine gx_iald (pc := 88) v12 d_X_look_88 (rfl) iv12 gv12 ?_
          refine gx_aload_n (pc := 89) 3 d_X_look_89 rfl rfl ?_
          refine gx_getR (pc := 90) 21 fl_X_37 d_X_look_90 (rfl) (by decide) rfl ?_
          refine gx_iload_n (pc := 93) 2 d_X_look_93 rfl rfl ?_
          refine gx_aload_n (pc := 94) 3 d_X_look_94 rfl rfl ?_
          refine gx_getR (pc := 95) 1 fl_X_10 d_X_look_95 (rfl) (by decide) rfl ?_
          refine gx_iload (pc := 98) 0 d_X_look_98 rfl ?_
          refine gx_iload_n (pc := 100) 5 d_X_look_100 rfl rfl ?_
          obtain ⟨r14, σ13, cσ13, hT⟩ := tx_ci_some hT
          refine gx_callV (pc := 101) (As := [.int (v4 - (2 : Int32)), .int x2]) (rest := [.int r2, .ref (E.1 21), .int v12, .ref (E.1 0)]) cm_Plan_slotOf lk_X_168 (fx_Plan_slotOf_c l E σ9 (v4 - (2 : Int32)) x2 _ cσ13) (rfl) (by decide) rfl rfl tx_fi_X_look_Plan_slotOf (Nat.le_of_ble_eq_true rfl) d_X_look_101 ?_
          change gx l E mi_X_look _ σ13 [(5, .int (v4 - (2 : Int32))), (4, .int v4), (3, .int r2), (0, .ref (E.1 0)), (1, .int x1), (2, .int x2)] 104 [.int r14, .int r2, .ref (E.1 21), .int v12, .ref (E.1 0)]
          obtain ⟨r16, σ15, cσ15, hT⟩ := tx_ci_some hT
          refine gx_callV (pc := 104) (As := [.int r2, .int r14]) (rest := [.int v12, .ref (E.1 0)]) cm_Heap_slotValue lk_X_156 (fx_Heap_slotValue_c l E σ13 r2 r14 _ cσ15) (rfl) (by decide) rfl rfl tx_fi_X_look_Heap_slotValue (Nat.le_of_ble_eq_true rfl) d_X_look_104 ?_
          change gx l E mi_X_look _ σ15 [(5, .int (v4 - (2 : Int32))), (4, .int v4), (3, .int r2), (0, .ref (E.1 0)), (1, .int x1), (2, .int x2)] 107 [.int r16, .int v12, .ref (E.1 0)]
          obtain ⟨r18, σ17, cσ17, hT⟩ := tx_cl_some hT
          refine gx_callV (pc := 107) (As := [.int v12, .int r16]) (rest := []) cm_X_answerOf lk_X_149 (fx_X_answerOf_c l E σ15 v12 r16 _ cσ17) (rfl) (by decide) rfl rfl tx_fi_X_look_X_answerOf (Nat.le_of_ble_eq_true rfl) d_X_look_107 ?_
          change gx l E mi_X_look _ σ17 [(5, .int (v4 - (2 : Int32))), (4, .int v4), (3, .int r2), (0, .ref (E.1 0)), (1, .int x1), (2, .int x2)] 110 [.long r18]
          cases hT
          exact gx_lret (pc := 110) d_X_look_110 rfl rfl
        · have hT := tx_ifp h11 hT
          refine gx_sub [] rfl ?_
          exact fx_X_look_b75_w  σ9 _ hT
    · have hT := tx_ifp h5 hT
      refine gx_aload_n (pc := 34) 2 d_X_look_34 rfl rfl ?_
      refine gx_getR (pc := 35) 21 fl_X_37 d_X_look_35 (rfl) (by decide) rfl ?_
      refine gx_iload_n (pc := 38) 1 d_X_look_38 rfl rfl ?_
      refine gx_iconst (pc := 39) (0 : Int32) d_X_look_39 (by decide) ?_
      obtain ⟨r20, σ19, cσ19, hT⟩ := tx_ci_some hT
      refine gx_callV (pc := 40) (As := [.int r2, .int (0 : Int32)]) (rest := []) cm_Heap_slotValue lk_X_156 (fx_Heap_slotValue_c l E σ1 r2 (0 : Int32) _ cσ19) (rfl) (by decide) rfl rfl tx_fi_X_look_Heap_slotValue (Nat.le_of_ble_eq_true rfl) d_X_look_40 ?_
      change gx l E mi_X_look _ σ19 [(4, .int v4), (3, .int r2), (0, .ref (E.1 0)), (1, .int x1), (2, .int x2)] 43 [.int r20]
      refine gx_i2l (pc := 43) d_X_look_43 ?_
      cases hT
      exact gx_lret (pc := 44) d_X_look_44 rfl rfl
  · have hT := tx_ifp h3 hT
    refine gx_ldc2 (pc := 13) (v := (68719476736 : Int64)) d_X_look_13 tw_3_15 ?_
    cases hT
    exact gx_lret (pc := 16) d_X_look_16 rfl rfl
theorem d_X_held_0 : decode c_X_held 0 = .ok (.aload_n 0, 1) := by decide +kernel
theorem d_X_held_1 : decode c_X_held 1 = .ok (.getfield 37, 3) := by decide +kernel
theorem d_X_held_4 : decode c_X_held 4 = .ok (.iload_n 1, 1) := by decide +kernel
theorem d_X_held_5 : decode c_X_held 5 = .ok (.invokevirtual 128, 3) := by decide +kernel
theorem d_X_held_8 : decode c_X_held 8 = .ok (.istore_n 2, 1) := by decide +kernel
theorem d_X_held_9 : decode c_X_held 9 = .ok (.iload_n 2, 1) := by decide +kernel
theorem d_X_held_10 : decode c_X_held 10 = .ok (.ifCond .ne (7), 3) := by decide +kernel
theorem d_X_held_13 : decode c_X_held 13 = .ok (.iconst (-1), 1) := by decide +kernel
theorem d_X_held_14 : decode c_X_held 14 = .ok (.goto (12), 3) := by decide +kernel
theorem d_X_held_17 : decode c_X_held 17 = .ok (.aload_n 0, 1) := by decide +kernel
theorem d_X_held_18 : decode c_X_held 18 = .ok (.getfield 37, 3) := by decide +kernel
theorem d_X_held_21 : decode c_X_held 21 = .ok (.getfield 153, 3) := by decide +kernel
theorem d_X_held_24 : decode c_X_held 24 = .ok (.iload_n 2, 1) := by decide +kernel
theorem d_X_held_25 : decode c_X_held 25 = .ok (.iaload, 1) := by decide +kernel
theorem d_X_held_26 : decode c_X_held 26 = .ok (.ireturn, 1) := by decide +kernel
def fx_X_held_b26 (σ : tx_St) (s0 : Int32) : Option (Int32 × tx_St) := some (s0, σ)
def fx_X_held (σ : tx_St) (x1 : Int32) : Option (Int32 × tx_St) := tx_ci (fx_Heap_inHandle σ x1) fun r2 σ1 => (if r2 = 0 then fx_X_held_b26  σ1 (-1 : Int32) else tx_rd σ1 22 321 r2 fun v4 => fx_X_held_b26  σ1 v4)
set_option maxRecDepth 100000 in
set_option maxHeartbeats 4000000 in
theorem fx_X_held_b26_w {l : Launch} {E : tx_E} (σ : tx_St) (s0 : Int32) (t : Int32 × tx_St) (hT : fx_X_held_b26 σ s0 = some t) : gx l E mi_X_held (some (.int t.1), t.2) σ [] 26 [.int s0] := by
  unfold fx_X_held_b26 at hT
  cases hT
  exact gx_iret (pc := 26) d_X_held_26 rfl rfl
set_option maxRecDepth 100000 in
set_option maxHeartbeats 4000000 in
theorem fx_X_held_c (l : Launch) (E : tx_E) (σ : tx_St) (x1 : Int32) (t : Int32 × tx_St) (hT : fx_X_held σ x1 = some t) : tx_MX l E y_X_held mi_X_held (some (.int t.1), t.2) [.ref (E.1 0), .int x1] σ := by
  refine tx_MX_of (by decide) rfl (Nat.le_of_ble_eq_true rfl) ?_
  show gx l E mi_X_held (some (.int t.1), t.2) σ [(0, .ref (E.1 0)), (1, .int x1)] 0 []
  unfold fx_X_held at hT
  refine gx_aload_n (pc := 0) 0 d_X_held_0 rfl rfl ?_
  refine gx_getR (pc := 1) 21 fl_X_37 d_X_held_1 (rfl) (by decide) rfl ?_
  refine gx_iload_n (pc := 4) 1 d_X_held_4 rfl rfl ?_
  obtain ⟨r2, σ1, cσ1, hT⟩ := tx_ci_some hT
  refine gx_callV (pc := 5) (As := [.int x1]) (rest := []) cm_Heap_inHandle lk_X_128 (fx_Heap_inHandle_c l E σ x1 _ cσ1) (rfl) (by decide) rfl rfl tx_fi_X_held_Heap_inHandle (Nat.le_of_ble_eq_true rfl) d_X_held_5 ?_
  change gx l E mi_X_held _ σ1 [(0, .ref (E.1 0)), (1, .int x1)] 8 [.int r2]
  refine gx_istore_n (pc := 8) [(2, .int r2), (0, .ref (E.1 0)), (1, .int x1)] d_X_held_8 rfl (Nat.le_of_ble_eq_true rfl) rfl ?_
  refine gx_iload_n (pc := 9) 0 d_X_held_9 rfl rfl ?_
  refine gx_if_ne (pc := 10) 17 d_X_held_10 rfl (fun h3 => ?_) (fun h3 => ?_)
  · have hT := tx_ifn h3 hT
    refine gx_aload_n (pc := 17) 1 d_X_held_17 rfl rfl ?_
    refine gx_getR (pc := 18) 21 fl_X_37 d_X_held_18 (rfl) (by decide) rfl ?_
    refine gx_getR (pc := 21) 22 fl_X_153 d_X_held_21 (rfl) (by decide) rfl ?_
    refine gx_iload_n (pc := 24) 0 d_X_held_24 rfl rfl ?_
    obtain ⟨v4, gv4, iv4, hT⟩ := tx_rd_some hT
    refine gx_iald (pc := 25) v4 d_X_held_25 (rfl) iv4 gv4 ?_
    refine gx_sub [] rfl ?_
    exact fx_X_held_b26_w  σ1 v4 _ hT
  · have hT := tx_ifp h3 hT
    refine gx_iconst (pc := 13) (-1 : Int32) d_X_held_13 (by decide) ?_
    refine gx_goto (pc := 14) 26 d_X_held_14 rfl ?_
    refine gx_sub [] rfl ?_
    exact fx_X_held_b26_w  σ1 (-1 : Int32) _ hT
theorem d_X_runs_0 : decode c_X_runs 0 = .ok (.aload_n 0, 1) := by decide +kernel
theorem d_X_runs_1 : decode c_X_runs 1 = .ok (.getfield 54, 3) := by decide +kernel
theorem d_X_runs_4 : decode c_X_runs 4 = .ok (.ireturn, 1) := by decide +kernel
def fx_X_runs (σ : tx_St) : Option (Int32 × tx_St) := some ((σ 0 6), σ)
set_option maxRecDepth 100000 in
set_option maxHeartbeats 4000000 in
theorem fx_X_runs_c (l : Launch) (E : tx_E) (σ : tx_St) (t : Int32 × tx_St) (hT : fx_X_runs σ  = some t) : tx_MX l E y_X_runs mi_X_runs (some (.int t.1), t.2) [.ref (E.1 0)] σ := by
  refine tx_MX_of (by decide) rfl (Nat.le_of_ble_eq_true rfl) ?_
  show gx l E mi_X_runs (some (.int t.1), t.2) σ [(0, .ref (E.1 0))] 0 []
  unfold fx_X_runs at hT
  refine gx_aload_n (pc := 0) 0 d_X_runs_0 rfl rfl ?_
  refine gx_getI (pc := 1) (σ 0 6) fl_X_54 d_X_runs_1 (rfl) (by decide) rfl rfl ?_
  cases hT
  exact gx_iret (pc := 4) d_X_runs_4 rfl rfl
theorem d_X_steps_0 : decode c_X_steps 0 = .ok (.aload_n 0, 1) := by decide +kernel
theorem d_X_steps_1 : decode c_X_steps 1 = .ok (.getfield 58, 3) := by decide +kernel
theorem d_X_steps_4 : decode c_X_steps 4 = .ok (.ireturn, 1) := by decide +kernel
def fx_X_steps (σ : tx_St) : Option (Int32 × tx_St) := some ((σ 0 7), σ)
set_option maxRecDepth 100000 in
set_option maxHeartbeats 4000000 in
theorem fx_X_steps_c (l : Launch) (E : tx_E) (σ : tx_St) (t : Int32 × tx_St) (hT : fx_X_steps σ  = some t) : tx_MX l E y_X_steps mi_X_steps (some (.int t.1), t.2) [.ref (E.1 0)] σ := by
  refine tx_MX_of (by decide) rfl (Nat.le_of_ble_eq_true rfl) ?_
  show gx l E mi_X_steps (some (.int t.1), t.2) σ [(0, .ref (E.1 0))] 0 []
  unfold fx_X_steps at hT
  refine gx_aload_n (pc := 0) 0 d_X_steps_0 rfl rfl ?_
  refine gx_getI (pc := 1) (σ 0 7) fl_X_58 d_X_steps_1 (rfl) (by decide) rfl rfl ?_
  cases hT
  exact gx_iret (pc := 4) d_X_steps_4 rfl rfl
theorem d_Mo_isClass_0 : decode c_Mo_isClass 0 = .ok (.iload_n 1, 1) := by decide +kernel
theorem d_Mo_isClass_1 : decode c_Mo_isClass 1 = .ok (.ifCond .lt (15), 3) := by decide +kernel
theorem d_Mo_isClass_4 : decode c_Mo_isClass 4 = .ok (.iload_n 1, 1) := by decide +kernel
theorem d_Mo_isClass_5 : decode c_Mo_isClass 5 = .ok (.aload_n 0, 1) := by decide +kernel
theorem d_Mo_isClass_6 : decode c_Mo_isClass 6 = .ok (.getfield 84, 3) := by decide +kernel
theorem d_Mo_isClass_9 : decode c_Mo_isClass 9 = .ok (.if_icmp .ge (7), 3) := by decide +kernel
theorem d_Mo_isClass_12 : decode c_Mo_isClass 12 = .ok (.iconst (1), 1) := by decide +kernel
theorem d_Mo_isClass_13 : decode c_Mo_isClass 13 = .ok (.goto (4), 3) := by decide +kernel
theorem d_Mo_isClass_16 : decode c_Mo_isClass 16 = .ok (.iconst (0), 1) := by decide +kernel
theorem d_Mo_isClass_17 : decode c_Mo_isClass 17 = .ok (.ireturn, 1) := by decide +kernel
def fx_Mo_isClass_b17 (σ : tx_St) (s0 : Int32) : Option (Int32 × tx_St) := tx_rz s0 σ
def fx_Mo_isClass_b16 (σ : tx_St) : Option (Int32 × tx_St) := fx_Mo_isClass_b17  σ (0 : Int32)
def fx_Mo_isClass (σ : tx_St) (x1 : Int32) : Option (Int32 × tx_St) := (if x1 < 0 then fx_Mo_isClass_b16  σ else (if (σ 45 0) ≤ x1 then fx_Mo_isClass_b16  σ else fx_Mo_isClass_b17  σ (1 : Int32)))
set_option maxRecDepth 100000 in
set_option maxHeartbeats 4000000 in
theorem fx_Mo_isClass_b17_w {l : Launch} {E : tx_E} (σ : tx_St) (s0 : Int32) (t : Int32 × tx_St) (hT : fx_Mo_isClass_b17 σ s0 = some t) : gx l E mi_Mo_isClass (some (.int t.1), t.2) σ [] 17 [.int s0] := by
  unfold fx_Mo_isClass_b17 at hT
  obtain ⟨hz, hT⟩ := tx_rz_some hT
  cases hT
  exact gx_zret (pc := 17) d_Mo_isClass_17 rfl hz rfl
set_option maxRecDepth 100000 in
set_option maxHeartbeats 4000000 in
theorem fx_Mo_isClass_b16_w {l : Launch} {E : tx_E} (σ : tx_St) (t : Int32 × tx_St) (hT : fx_Mo_isClass_b16 σ  = some t) : gx l E mi_Mo_isClass (some (.int t.1), t.2) σ [] 16 [] := by
  unfold fx_Mo_isClass_b16 at hT
  refine gx_iconst (pc := 16) (0 : Int32) d_Mo_isClass_16 (by decide) ?_
  exact fx_Mo_isClass_b17_w  σ (0 : Int32) _ hT
set_option maxRecDepth 100000 in
set_option maxHeartbeats 4000000 in
theorem fx_Mo_isClass_c (l : Launch) (E : tx_E) (σ : tx_St) (x1 : Int32) (t : Int32 × tx_St) (hT : fx_Mo_isClass σ x1 = some t) : tx_MX l E y_Mo_isClass mi_Mo_isClass (some (.int t.1), t.2) [.ref (E.1 45), .int x1] σ := by
  refine tx_MX_of (by decide) rfl (Nat.le_of_ble_eq_true rfl) ?_
  show gx l E mi_Mo_isClass (some (.int t.1), t.2) σ [(0, .ref (E.1 45)), (1, .int x1)] 0 []
  unfold fx_Mo_isClass at hT
  refine gx_iload_n (pc := 0) 1 d_Mo_isClass_0 rfl rfl ?_
  refine gx_if_lt (pc := 1) 16 d_Mo_isClass_1 rfl (fun h1 => ?_) (fun h1 => ?_)
  · have hT := tx_ifp h1 hT
    refine gx_sub [] rfl ?_
    exact fx_Mo_isClass_b16_w  σ _ hT
  · have hT := tx_ifn h1 hT
    refine gx_iload_n (pc := 4) 1 d_Mo_isClass_4 rfl rfl ?_
    refine gx_aload_n (pc := 5) 0 d_Mo_isClass_5 rfl rfl ?_
    refine gx_getI (pc := 6) (σ 45 0) fl_Mo_84 d_Mo_isClass_6 (rfl) (by decide) rfl rfl ?_
    refine gx_icmp_ge (pc := 9) 16 d_Mo_isClass_9 rfl (fun h2 => ?_) (fun h2 => ?_)
    · have hT := tx_ifp h2 hT
      refine gx_sub [] rfl ?_
      exact fx_Mo_isClass_b16_w  σ _ hT
    · have hT := tx_ifn h2 hT
      refine gx_iconst (pc := 12) (1 : Int32) d_Mo_isClass_12 (by decide) ?_
      refine gx_goto (pc := 13) 17 d_Mo_isClass_13 rfl ?_
      refine gx_sub [] rfl ?_
      exact fx_Mo_isClass_b17_w  σ (1 : Int32) _ hT
theorem d_Mo_addClass_0 : decode c_Mo_addClass 0 = .ok (.aload_n 0, 1) := by decide +kernel
theorem d_Mo_addClass_1 : decode c_Mo_addClass 1 = .ok (.getfield 94, 3) := by decide +kernel
theorem d_Mo_addClass_4 : decode c_Mo_addClass 4 = .ok (.ifCond .eq (6), 3) := by decide +kernel
theorem d_Mo_addClass_7 : decode c_Mo_addClass 7 = .ok (.bipush (-3), 2) := by decide +kernel
theorem d_Mo_addClass_9 : decode c_Mo_addClass 9 = .ok (.ireturn, 1) := by decide +kernel
theorem d_Mo_addClass_10 : decode c_Mo_addClass 10 = .ok (.iload_n 1, 1) := by decide +kernel
theorem d_Mo_addClass_11 : decode c_Mo_addClass 11 = .ok (.iconst (-1), 1) := by decide +kernel
theorem d_Mo_addClass_12 : decode c_Mo_addClass 12 = .ok (.if_icmp .eq (11), 3) := by decide +kernel
theorem d_Mo_addClass_15 : decode c_Mo_addClass 15 = .ok (.aload_n 0, 1) := by decide +kernel
theorem d_Mo_addClass_16 : decode c_Mo_addClass 16 = .ok (.iload_n 1, 1) := by decide +kernel
theorem d_Mo_addClass_17 : decode c_Mo_addClass 17 = .ok (.invokevirtual 87, 3) := by decide +kernel
theorem d_Mo_addClass_20 : decode c_Mo_addClass 20 = .ok (.ifCond .eq (12), 3) := by decide +kernel
theorem d_Mo_addClass_23 : decode c_Mo_addClass 23 = .ok (.iload_n 2, 1) := by decide +kernel
theorem d_Mo_addClass_24 : decode c_Mo_addClass 24 = .ok (.ifCond .lt (8), 3) := by decide +kernel
theorem d_Mo_addClass_27 : decode c_Mo_addClass 27 = .ok (.iload_n 2, 1) := by decide +kernel
theorem d_Mo_addClass_28 : decode c_Mo_addClass 28 = .ok (.iconst (3), 1) := by decide +kernel
theorem d_Mo_addClass_29 : decode c_Mo_addClass 29 = .ok (.if_icmp .le (5), 3) := by decide +kernel
theorem d_Mo_addClass_32 : decode c_Mo_addClass 32 = .ok (.iconst (-1), 1) := by decide +kernel
theorem d_Mo_addClass_33 : decode c_Mo_addClass 33 = .ok (.ireturn, 1) := by decide +kernel
theorem d_Mo_addClass_34 : decode c_Mo_addClass 34 = .ok (.aload_n 0, 1) := by decide +kernel
theorem d_Mo_addClass_35 : decode c_Mo_addClass 35 = .ok (.getfield 84, 3) := by decide +kernel
theorem d_Mo_addClass_38 : decode c_Mo_addClass 38 = .ok (.bipush (8), 2) := by decide +kernel
theorem d_Mo_addClass_40 : decode c_Mo_addClass 40 = .ok (.if_icmp .ne (6), 3) := by decide +kernel
theorem d_Mo_addClass_43 : decode c_Mo_addClass 43 = .ok (.bipush (-2), 2) := by decide +kernel
theorem d_Mo_addClass_45 : decode c_Mo_addClass 45 = .ok (.ireturn, 1) := by decide +kernel
theorem d_Mo_addClass_46 : decode c_Mo_addClass 46 = .ok (.aload_n 0, 1) := by decide +kernel
theorem d_Mo_addClass_47 : decode c_Mo_addClass 47 = .ok (.getfield 7, 3) := by decide +kernel
theorem d_Mo_addClass_50 : decode c_Mo_addClass 50 = .ok (.aload_n 0, 1) := by decide +kernel
theorem d_Mo_addClass_51 : decode c_Mo_addClass 51 = .ok (.getfield 84, 3) := by decide +kernel
theorem d_Mo_addClass_54 : decode c_Mo_addClass 54 = .ok (.iload_n 1, 1) := by decide +kernel
theorem d_Mo_addClass_55 : decode c_Mo_addClass 55 = .ok (.iastore, 1) := by decide +kernel
theorem d_Mo_addClass_56 : decode c_Mo_addClass 56 = .ok (.aload_n 0, 1) := by decide +kernel
theorem d_Mo_addClass_57 : decode c_Mo_addClass 57 = .ok (.getfield 13, 3) := by decide +kernel
theorem d_Mo_addClass_60 : decode c_Mo_addClass 60 = .ok (.aload_n 0, 1) := by decide +kernel
theorem d_Mo_addClass_61 : decode c_Mo_addClass 61 = .ok (.getfield 84, 3) := by decide +kernel
theorem d_Mo_addClass_64 : decode c_Mo_addClass 64 = .ok (.iload_n 2, 1) := by decide +kernel
theorem d_Mo_addClass_65 : decode c_Mo_addClass 65 = .ok (.iastore, 1) := by decide +kernel
theorem d_Mo_addClass_66 : decode c_Mo_addClass 66 = .ok (.aload_n 0, 1) := by decide +kernel
theorem d_Mo_addClass_67 : decode c_Mo_addClass 67 = .ok (.dup, 1) := by decide +kernel
theorem d_Mo_addClass_68 : decode c_Mo_addClass 68 = .ok (.getfield 84, 3) := by decide +kernel
theorem d_Mo_addClass_71 : decode c_Mo_addClass 71 = .ok (.iconst (1), 1) := by decide +kernel
theorem d_Mo_addClass_72 : decode c_Mo_addClass 72 = .ok (.iadd, 1) := by decide +kernel
theorem d_Mo_addClass_73 : decode c_Mo_addClass 73 = .ok (.putfield 84, 3) := by decide +kernel
theorem d_Mo_addClass_76 : decode c_Mo_addClass 76 = .ok (.aload_n 0, 1) := by decide +kernel
theorem d_Mo_addClass_77 : decode c_Mo_addClass 77 = .ok (.getfield 84, 3) := by decide +kernel
theorem d_Mo_addClass_80 : decode c_Mo_addClass 80 = .ok (.iconst (1), 1) := by decide +kernel
theorem d_Mo_addClass_81 : decode c_Mo_addClass 81 = .ok (.isub, 1) := by decide +kernel
theorem d_Mo_addClass_82 : decode c_Mo_addClass 82 = .ok (.ireturn, 1) := by decide +kernel
def fx_Mo_addClass_b32 (σ : tx_St) : Option (Int32 × tx_St) := some ((-1 : Int32), σ)
def fx_Mo_addClass_b23 (σ : tx_St) (x1 : Int32) (x2 : Int32) : Option (Int32 × tx_St) := (if x2 < 0 then fx_Mo_addClass_b32  σ else (if x2 ≤ (3 : Int32) then (if (σ 45 0) = (8 : Int32) then some ((-2 : Int32), σ) else tx_wr σ 46 8 (σ 45 0) x1 fun σ9 => tx_wr σ9 47 8 (σ9 45 0) x2 fun σ10 => tx_pt σ10 45 0 ((σ10 45 0) + (1 : Int32)) fun σ11 => some (((σ11 45 0) - (1 : Int32)), σ11)) else fx_Mo_addClass_b32  σ))
def fx_Mo_addClass (σ : tx_St) (x1 : Int32) (x2 : Int32) : Option (Int32 × tx_St) := (if (σ 45 16) = 0 then (if x1 = (-1 : Int32) then fx_Mo_addClass_b23  σ x1 x2 else tx_ci (fx_Mo_isClass σ x1) fun r4 σ3 => (if r4 = 0 then fx_Mo_addClass_b32  σ3 else fx_Mo_addClass_b23  σ3 x1 x2)) else some ((-3 : Int32), σ))
set_option maxRecDepth 100000 in
set_option maxHeartbeats 4000000 in
theorem fx_Mo_addClass_b32_w {l : Launch} {E : tx_E} (σ : tx_St) (t : Int32 × tx_St) (hT : fx_Mo_addClass_b32 σ  = some t) : gx l E mi_Mo_addClass (some (.int t.1), t.2) σ [] 32 [] := by
  unfold fx_Mo_addClass_b32 at hT
  refine gx_iconst (pc := 32) (-1 : Int32) d_Mo_addClass_32 (by decide) ?_
  cases hT
  exact gx_iret (pc := 33) d_Mo_addClass_33 rfl rfl
set_option maxRecDepth 100000 in
set_option maxHeartbeats 4000000 in
theorem fx_Mo_addClass_b23_w {l : Launch} {E : tx_E} (σ : tx_St) (x1 : Int32) (x2 : Int32) (t : Int32 × tx_St) (hT : fx_Mo_addClass_b23 σ x1 x2 = some t) : gx l E mi_Mo_addClass (some (.int t.1), t.2) σ [(0, .ref (E.1 45)), (1, .int x1), (2, .int x2)] 23 [] := by
  unfold fx_Mo_addClass_b23 at hT
  refine gx_iload_n (pc := 23) 2 d_Mo_addClass_23 rfl rfl ?_
  refine gx_if_lt (pc := 24) 32 d_Mo_addClass_24 rfl (fun h6 => ?_) (fun h6 => ?_)
  · have hT := tx_ifp h6 hT
    refine gx_sub [] rfl ?_
    exact fx_Mo_addClass_b32_w  σ _ hT
  · have hT := tx_ifn h6 hT
    refine gx_iload_n (pc := 27) 2 d_Mo_addClass_27 rfl rfl ?_
    refine gx_iconst (pc := 28) (3 : Int32) d_Mo_addClass_28 (by decide) ?_
    refine gx_icmp_le (pc := 29) 34 d_Mo_addClass_29 rfl (fun h7 => ?_) (fun h7 => ?_)
    · have hT := tx_ifp h7 hT
      refine gx_aload_n (pc := 34) 0 d_Mo_addClass_34 rfl rfl ?_
      refine gx_getI (pc := 35) (σ 45 0) fl_Mo_84 d_Mo_addClass_35 (rfl) (by decide) rfl rfl ?_
      refine gx_bipush (pc := 38) (8 : Int32) d_Mo_addClass_38 (by decide) ?_
      refine gx_icmp_ne (pc := 40) 46 d_Mo_addClass_40 rfl (fun h8 => ?_) (fun h8 => ?_)
      · have hT := tx_ifn h8 hT
        refine gx_aload_n (pc := 46) 0 d_Mo_addClass_46 rfl rfl ?_
        refine gx_getR (pc := 47) 46 fl_Mo_7 d_Mo_addClass_47 (rfl) (by decide) rfl ?_
        refine gx_aload_n (pc := 50) 0 d_Mo_addClass_50 rfl rfl ?_
        refine gx_getI (pc := 51) (σ 45 0) fl_Mo_84 d_Mo_addClass_51 (rfl) (by decide) rfl rfl ?_
        refine gx_iload_n (pc := 54) 1 d_Mo_addClass_54 rfl rfl ?_
        obtain ⟨σ9, gσ9, iσ9, hT⟩ := tx_wr_some hT
        refine gx_iast (pc := 55) d_Mo_addClass_55 (rfl) iσ9 ?_
        rw [gσ9]
        refine gx_aload_n (pc := 56) 0 d_Mo_addClass_56 rfl rfl ?_
        refine gx_getR (pc := 57) 47 fl_Mo_13 d_Mo_addClass_57 (rfl) (by decide) rfl ?_
        refine gx_aload_n (pc := 60) 0 d_Mo_addClass_60 rfl rfl ?_
        refine gx_getI (pc := 61) (σ9 45 0) fl_Mo_84 d_Mo_addClass_61 (rfl) (by decide) rfl rfl ?_
        refine gx_iload_n (pc := 64) 2 d_Mo_addClass_64 rfl rfl ?_
        obtain ⟨σ10, gσ10, iσ10, hT⟩ := tx_wr_some hT
        refine gx_iast (pc := 65) d_Mo_addClass_65 (rfl) iσ10 ?_
        rw [gσ10]
        refine gx_aload_n (pc := 66) 0 d_Mo_addClass_66 rfl rfl ?_
        refine gx_dup (pc := 67) d_Mo_addClass_67 rfl ?_
        refine gx_getI (pc := 68) (σ10 45 0) fl_Mo_84 d_Mo_addClass_68 (rfl) (by decide) rfl rfl ?_
        refine gx_iconst (pc := 71) (1 : Int32) d_Mo_addClass_71 (by decide) ?_
        refine gx_iadd (pc := 72) d_Mo_addClass_72 ?_
        obtain ⟨σ11, gσ11, hT⟩ := tx_pt_some hT
        refine gx_putI (pc := 73) fp_Mo_84 d_Mo_addClass_73 (rfl) (by decide) rfl ?_
        rw [gσ11]
        refine gx_aload_n (pc := 76) 0 d_Mo_addClass_76 rfl rfl ?_
        refine gx_getI (pc := 77) (σ11 45 0) fl_Mo_84 d_Mo_addClass_77 (rfl) (by decide) rfl rfl ?_
        refine gx_iconst (pc := 80) (1 : Int32) d_Mo_addClass_80 (by decide) ?_
        refine gx_isub (pc := 81) d_Mo_addClass_81 ?_
        cases hT
        exact gx_iret (pc := 82) d_Mo_addClass_82 rfl rfl
      · have hT := tx_ifp h8 hT
        refine gx_bipush (pc := 43) (-2 : Int32) d_Mo_addClass_43 (by decide) ?_
        cases hT
        exact gx_iret (pc := 45) d_Mo_addClass_45 rfl rfl
    · have hT := tx_ifn h7 hT
      refine gx_sub [] rfl ?_
      exact fx_Mo_addClass_b32_w  σ _ hT
set_option maxRecDepth 100000 in
set_option maxHeartbeats 4000000 in
theorem fx_Mo_addClass_c (l : Launch) (E : tx_E) (σ : tx_St) (x1 : Int32) (x2 : Int32) (t : Int32 × tx_St) (hT : fx_Mo_addClass σ x1 x2 = some t) : tx_MX l E y_Mo_addClass mi_Mo_addClass (some (.int t.1), t.2) [.ref (E.1 45), .int x1, .int x2] σ := by
  refine tx_MX_of (by decide) rfl (Nat.le_of_ble_eq_true rfl) ?_
  show gx l E mi_Mo_addClass (some (.int t.1), t.2) σ [(0, .ref (E.1 45)), (1, .int x1), (2, .int x2)] 0 []
  unfold fx_Mo_addClass at hT
  refine gx_aload_n (pc := 0) 0 d_Mo_addClass_0 rfl rfl ?_
  refine gx_getI (pc := 1) (σ 45 16) fl_Mo_94 d_Mo_addClass_1 (rfl) (by decide) rfl rfl ?_
  refine gx_if_eq (pc := 4) 10 d_Mo_addClass_4 rfl (fun h1 => ?_) (fun h1 => ?_)
  · have hT := tx_ifp h1 hT
    refine gx_iload_n (pc := 10) 1 d_Mo_addClass_10 rfl rfl ?_
    refine gx_iconst (pc := 11) (-1 : Int32) d_Mo_addClass_11 (by decide) ?_
    refine gx_icmp_eq (pc := 12) 23 d_Mo_addClass_12 rfl (fun h2 => ?_) (fun h2 => ?_)
    · have hT := tx_ifp h2 hT
      exact fx_Mo_addClass_b23_w  σ x1 x2 _ hT
    · have hT := tx_ifn h2 hT
      refine gx_aload_n (pc := 15) 0 d_Mo_addClass_15 rfl rfl ?_
      refine gx_iload_n (pc := 16) 1 d_Mo_addClass_16 rfl rfl ?_
      obtain ⟨r4, σ3, cσ3, hT⟩ := tx_ci_some hT
      refine gx_callV (pc := 17) (As := [.int x1]) (rest := []) cm_Mo_isClass lk_Mo_87 (fx_Mo_isClass_c l E σ x1 _ cσ3) (rfl) (by decide) rfl rfl tx_fi_Mo_addClass_Mo_isClass (Nat.le_of_ble_eq_true rfl) d_Mo_addClass_17 ?_
      change gx l E mi_Mo_addClass _ σ3 [(0, .ref (E.1 45)), (1, .int x1), (2, .int x2)] 20 [.int r4]
      refine gx_if_eq (pc := 20) 32 d_Mo_addClass_20 rfl (fun h5 => ?_) (fun h5 => ?_)
      · have hT := tx_ifp h5 hT
        refine gx_sub [] rfl ?_
        exact fx_Mo_addClass_b32_w  σ3 _ hT
      · have hT := tx_ifn h5 hT
        exact fx_Mo_addClass_b23_w  σ3 x1 x2 _ hT
  · have hT := tx_ifn h1 hT
    refine gx_bipush (pc := 7) (-3 : Int32) d_Mo_addClass_7 (by decide) ?_
    cases hT
    exact gx_iret (pc := 9) d_Mo_addClass_9 rfl rfl
theorem d_Mo_isType_0 : decode c_Mo_isType 0 = .ok (.iload_n 1, 1) := by decide +kernel
theorem d_Mo_isType_1 : decode c_Mo_isType 1 = .ok (.ifCond .eq (23), 3) := by decide +kernel
theorem d_Mo_isType_4 : decode c_Mo_isType 4 = .ok (.iload_n 1, 1) := by decide +kernel
theorem d_Mo_isType_5 : decode c_Mo_isType 5 = .ok (.iconst (1), 1) := by decide +kernel
theorem d_Mo_isType_6 : decode c_Mo_isType 6 = .ok (.if_icmp .eq (18), 3) := by decide +kernel
theorem d_Mo_isType_9 : decode c_Mo_isType 9 = .ok (.iload_n 1, 1) := by decide +kernel
theorem d_Mo_isType_10 : decode c_Mo_isType 10 = .ok (.iconst (2), 1) := by decide +kernel
theorem d_Mo_isType_11 : decode c_Mo_isType 11 = .ok (.if_icmp .lt (17), 3) := by decide +kernel
theorem d_Mo_isType_14 : decode c_Mo_isType 14 = .ok (.aload_n 0, 1) := by decide +kernel
theorem d_Mo_isType_15 : decode c_Mo_isType 15 = .ok (.iload_n 1, 1) := by decide +kernel
theorem d_Mo_isType_16 : decode c_Mo_isType 16 = .ok (.iconst (2), 1) := by decide +kernel
theorem d_Mo_isType_17 : decode c_Mo_isType 17 = .ok (.isub, 1) := by decide +kernel
theorem d_Mo_isType_18 : decode c_Mo_isType 18 = .ok (.invokevirtual 87, 3) := by decide +kernel
theorem d_Mo_isType_21 : decode c_Mo_isType 21 = .ok (.ifCond .eq (7), 3) := by decide +kernel
theorem d_Mo_isType_24 : decode c_Mo_isType 24 = .ok (.iconst (1), 1) := by decide +kernel
theorem d_Mo_isType_25 : decode c_Mo_isType 25 = .ok (.goto (4), 3) := by decide +kernel
theorem d_Mo_isType_28 : decode c_Mo_isType 28 = .ok (.iconst (0), 1) := by decide +kernel
theorem d_Mo_isType_29 : decode c_Mo_isType 29 = .ok (.ireturn, 1) := by decide +kernel
def fx_Mo_isType_b29 (σ : tx_St) (s0 : Int32) : Option (Int32 × tx_St) := tx_rz s0 σ
def fx_Mo_isType_b24 (σ : tx_St) : Option (Int32 × tx_St) := fx_Mo_isType_b29  σ (1 : Int32)
def fx_Mo_isType_b28 (σ : tx_St) : Option (Int32 × tx_St) := fx_Mo_isType_b29  σ (0 : Int32)
def fx_Mo_isType (σ : tx_St) (x1 : Int32) : Option (Int32 × tx_St) := (if x1 = 0 then fx_Mo_isType_b24  σ else (if x1 = (1 : Int32) then fx_Mo_isType_b24  σ else (if x1 < (2 : Int32) then fx_Mo_isType_b28  σ else tx_ci (fx_Mo_isClass σ (x1 - (2 : Int32))) fun r5 σ4 => (if r5 = 0 then fx_Mo_isType_b28  σ4 else fx_Mo_isType_b24  σ4))))
set_option maxRecDepth 100000 in
set_option maxHeartbeats 4000000 in
theorem fx_Mo_isType_b29_w {l : Launch} {E : tx_E} (σ : tx_St) (s0 : Int32) (t : Int32 × tx_St) (hT : fx_Mo_isType_b29 σ s0 = some t) : gx l E mi_Mo_isType (some (.int t.1), t.2) σ [] 29 [.int s0] := by
  unfold fx_Mo_isType_b29 at hT
  obtain ⟨hz, hT⟩ := tx_rz_some hT
  cases hT
  exact gx_zret (pc := 29) d_Mo_isType_29 rfl hz rfl
set_option maxRecDepth 100000 in
set_option maxHeartbeats 4000000 in
theorem fx_Mo_isType_b24_w {l : Launch} {E : tx_E} (σ : tx_St) (t : Int32 × tx_St) (hT : fx_Mo_isType_b24 σ  = some t) : gx l E mi_Mo_isType (some (.int t.1), t.2) σ [] 24 [] := by
  unfold fx_Mo_isType_b24 at hT
  refine gx_iconst (pc := 24) (1 : Int32) d_Mo_isType_24 (by decide) ?_
  refine gx_goto (pc := 25) 29 d_Mo_isType_25 rfl ?_
  exact fx_Mo_isType_b29_w  σ (1 : Int32) _ hT
set_option maxRecDepth 100000 in
set_option maxHeartbeats 4000000 in
theorem fx_Mo_isType_b28_w {l : Launch} {E : tx_E} (σ : tx_St) (t : Int32 × tx_St) (hT : fx_Mo_isType_b28 σ  = some t) : gx l E mi_Mo_isType (some (.int t.1), t.2) σ [] 28 [] := by
  unfold fx_Mo_isType_b28 at hT
  refine gx_iconst (pc := 28) (0 : Int32) d_Mo_isType_28 (by decide) ?_
  exact fx_Mo_isType_b29_w  σ (0 : Int32) _ hT
set_option maxRecDepth 100000 in
set_option maxHeartbeats 4000000 in
theorem fx_Mo_isType_c (l : Launch) (E : tx_E) (σ : tx_St) (x1 : Int32) (t : Int32 × tx_St) (hT : fx_Mo_isType σ x1 = some t) : tx_MX l E y_Mo_isType mi_Mo_isType (some (.int t.1), t.2) [.ref (E.1 45), .int x1] σ := by
  refine tx_MX_of (by decide) rfl (Nat.le_of_ble_eq_true rfl) ?_
  show gx l E mi_Mo_isType (some (.int t.1), t.2) σ [(0, .ref (E.1 45)), (1, .int x1)] 0 []
  unfold fx_Mo_isType at hT
  refine gx_iload_n (pc := 0) 1 d_Mo_isType_0 rfl rfl ?_
  refine gx_if_eq (pc := 1) 24 d_Mo_isType_1 rfl (fun h1 => ?_) (fun h1 => ?_)
  · have hT := tx_ifp h1 hT
    refine gx_sub [] rfl ?_
    exact fx_Mo_isType_b24_w  σ _ hT
  · have hT := tx_ifn h1 hT
    refine gx_iload_n (pc := 4) 1 d_Mo_isType_4 rfl rfl ?_
    refine gx_iconst (pc := 5) (1 : Int32) d_Mo_isType_5 (by decide) ?_
    refine gx_icmp_eq (pc := 6) 24 d_Mo_isType_6 rfl (fun h2 => ?_) (fun h2 => ?_)
    · have hT := tx_ifp h2 hT
      refine gx_sub [] rfl ?_
      exact fx_Mo_isType_b24_w  σ _ hT
    · have hT := tx_ifn h2 hT
      refine gx_iload_n (pc := 9) 1 d_Mo_isType_9 rfl rfl ?_
      refine gx_iconst (pc := 10) (2 : Int32) d_Mo_isType_10 (by decide) ?_
      refine gx_icmp_lt (pc := 11) 28 d_Mo_isType_11 rfl (fun h3 => ?_) (fun h3 => ?_)
      · have hT := tx_ifp h3 hT
        refine gx_sub [] rfl ?_
        exact fx_Mo_isType_b28_w  σ _ hT
      · have hT := tx_ifn h3 hT
        refine gx_aload_n (pc := 14) 0 d_Mo_isType_14 rfl rfl ?_
        refine gx_iload_n (pc := 15) 1 d_Mo_isType_15 rfl rfl ?_
        refine gx_iconst (pc := 16) (2 : Int32) d_Mo_isType_16 (by decide) ?_
        refine gx_isub (pc := 17) d_Mo_isType_17 ?_
        obtain ⟨r5, σ4, cσ4, hT⟩ := tx_ci_some hT
        refine gx_callV (pc := 18) (As := [.int (x1 - (2 : Int32))]) (rest := []) cm_Mo_isClass lk_Mo_87 (fx_Mo_isClass_c l E σ (x1 - (2 : Int32)) _ cσ4) (rfl) (by decide) rfl rfl tx_fi_Mo_isType_Mo_isClass (Nat.le_of_ble_eq_true rfl) d_Mo_isType_18 ?_
        change gx l E mi_Mo_isType _ σ4 [(0, .ref (E.1 45)), (1, .int x1)] 21 [.int r5]
        refine gx_if_eq (pc := 21) 28 d_Mo_isType_21 rfl (fun h6 => ?_) (fun h6 => ?_)
        · have hT := tx_ifp h6 hT
          refine gx_sub [] rfl ?_
          exact fx_Mo_isType_b28_w  σ4 _ hT
        · have hT := tx_ifn h6 hT
          refine gx_sub [] rfl ?_
          exact fx_Mo_isType_b24_w  σ4 _ hT
theorem d_Mo_addField_0 : decode c_Mo_addField 0 = .ok (.aload_n 0, 1) := by decide +kernel
theorem d_Mo_addField_1 : decode c_Mo_addField 1 = .ok (.getfield 94, 3) := by decide +kernel
theorem d_Mo_addField_4 : decode c_Mo_addField 4 = .ok (.ifCond .eq (6), 3) := by decide +kernel
theorem d_Mo_addField_7 : decode c_Mo_addField 7 = .ok (.bipush (-3), 2) := by decide +kernel
theorem d_Mo_addField_9 : decode c_Mo_addField 9 = .ok (.ireturn, 1) := by decide +kernel
theorem d_Mo_addField_10 : decode c_Mo_addField 10 = .ok (.aload_n 0, 1) := by decide +kernel
theorem d_Mo_addField_11 : decode c_Mo_addField 11 = .ok (.iload_n 1, 1) := by decide +kernel
theorem d_Mo_addField_12 : decode c_Mo_addField 12 = .ok (.invokevirtual 87, 3) := by decide +kernel
theorem d_Mo_addField_15 : decode c_Mo_addField 15 = .ok (.ifCond .eq (20), 3) := by decide +kernel
theorem d_Mo_addField_18 : decode c_Mo_addField 18 = .ok (.iload_n 2, 1) := by decide +kernel
theorem d_Mo_addField_19 : decode c_Mo_addField 19 = .ok (.ifCond .lt (16), 3) := by decide +kernel
theorem d_Mo_addField_22 : decode c_Mo_addField 22 = .ok (.iload_n 2, 1) := by decide +kernel
theorem d_Mo_addField_23 : decode c_Mo_addField 23 = .ok (.iconst (3), 1) := by decide +kernel
theorem d_Mo_addField_24 : decode c_Mo_addField 24 = .ok (.if_icmp .gt (11), 3) := by decide +kernel
theorem d_Mo_addField_27 : decode c_Mo_addField 27 = .ok (.aload_n 0, 1) := by decide +kernel
theorem d_Mo_addField_28 : decode c_Mo_addField 28 = .ok (.iload_n 3, 1) := by decide +kernel
theorem d_Mo_addField_29 : decode c_Mo_addField 29 = .ok (.invokevirtual 98, 3) := by decide +kernel
theorem d_Mo_addField_32 : decode c_Mo_addField 32 = .ok (.ifCond .ne (5), 3) := by decide +kernel
theorem d_Mo_addField_35 : decode c_Mo_addField 35 = .ok (.iconst (-1), 1) := by decide +kernel
theorem d_Mo_addField_36 : decode c_Mo_addField 36 = .ok (.ireturn, 1) := by decide +kernel
theorem d_Mo_addField_37 : decode c_Mo_addField 37 = .ok (.aload_n 0, 1) := by decide +kernel
theorem d_Mo_addField_38 : decode c_Mo_addField 38 = .ok (.getfield 101, 3) := by decide +kernel
theorem d_Mo_addField_41 : decode c_Mo_addField 41 = .ok (.bipush (12), 2) := by decide +kernel
theorem d_Mo_addField_43 : decode c_Mo_addField 43 = .ok (.if_icmp .ne (6), 3) := by decide +kernel
theorem d_Mo_addField_46 : decode c_Mo_addField 46 = .ok (.bipush (-2), 2) := by decide +kernel
theorem d_Mo_addField_48 : decode c_Mo_addField 48 = .ok (.ireturn, 1) := by decide +kernel
theorem d_Mo_addField_49 : decode c_Mo_addField 49 = .ok (.aload_n 0, 1) := by decide +kernel
theorem d_Mo_addField_50 : decode c_Mo_addField 50 = .ok (.getfield 16, 3) := by decide +kernel
theorem d_Mo_addField_53 : decode c_Mo_addField 53 = .ok (.aload_n 0, 1) := by decide +kernel
theorem d_Mo_addField_54 : decode c_Mo_addField 54 = .ok (.getfield 101, 3) := by decide +kernel
theorem d_Mo_addField_57 : decode c_Mo_addField 57 = .ok (.iload_n 1, 1) := by decide +kernel
theorem d_Mo_addField_58 : decode c_Mo_addField 58 = .ok (.iastore, 1) := by decide +kernel
theorem d_Mo_addField_59 : decode c_Mo_addField 59 = .ok (.aload_n 0, 1) := by decide +kernel
theorem d_Mo_addField_60 : decode c_Mo_addField 60 = .ok (.getfield 19, 3) := by decide +kernel
theorem d_Mo_addField_63 : decode c_Mo_addField 63 = .ok (.aload_n 0, 1) := by decide +kernel
theorem d_Mo_addField_64 : decode c_Mo_addField 64 = .ok (.getfield 101, 3) := by decide +kernel
theorem d_Mo_addField_67 : decode c_Mo_addField 67 = .ok (.iload_n 2, 1) := by decide +kernel
theorem d_Mo_addField_68 : decode c_Mo_addField 68 = .ok (.iastore, 1) := by decide +kernel
theorem d_Mo_addField_69 : decode c_Mo_addField 69 = .ok (.aload_n 0, 1) := by decide +kernel
theorem d_Mo_addField_70 : decode c_Mo_addField 70 = .ok (.getfield 22, 3) := by decide +kernel
theorem d_Mo_addField_73 : decode c_Mo_addField 73 = .ok (.aload_n 0, 1) := by decide +kernel
theorem d_Mo_addField_74 : decode c_Mo_addField 74 = .ok (.getfield 101, 3) := by decide +kernel
theorem d_Mo_addField_77 : decode c_Mo_addField 77 = .ok (.iload_n 3, 1) := by decide +kernel
theorem d_Mo_addField_78 : decode c_Mo_addField 78 = .ok (.iastore, 1) := by decide +kernel
theorem d_Mo_addField_79 : decode c_Mo_addField 79 = .ok (.aload_n 0, 1) := by decide +kernel
theorem d_Mo_addField_80 : decode c_Mo_addField 80 = .ok (.dup, 1) := by decide +kernel
theorem d_Mo_addField_81 : decode c_Mo_addField 81 = .ok (.getfield 101, 3) := by decide +kernel
theorem d_Mo_addField_84 : decode c_Mo_addField 84 = .ok (.iconst (1), 1) := by decide +kernel
theorem d_Mo_addField_85 : decode c_Mo_addField 85 = .ok (.iadd, 1) := by decide +kernel
theorem d_Mo_addField_86 : decode c_Mo_addField 86 = .ok (.putfield 101, 3) := by decide +kernel
theorem d_Mo_addField_89 : decode c_Mo_addField 89 = .ok (.aload_n 0, 1) := by decide +kernel
theorem d_Mo_addField_90 : decode c_Mo_addField 90 = .ok (.getfield 101, 3) := by decide +kernel
theorem d_Mo_addField_93 : decode c_Mo_addField 93 = .ok (.iconst (1), 1) := by decide +kernel
theorem d_Mo_addField_94 : decode c_Mo_addField 94 = .ok (.isub, 1) := by decide +kernel
theorem d_Mo_addField_95 : decode c_Mo_addField 95 = .ok (.ireturn, 1) := by decide +kernel
def fx_Mo_addField_b35 (σ : tx_St) : Option (Int32 × tx_St) := some ((-1 : Int32), σ)
def fx_Mo_addField (σ : tx_St) (x1 : Int32) (x2 : Int32) (x3 : Int32) : Option (Int32 × tx_St) := (if (σ 45 16) = 0 then tx_ci (fx_Mo_isClass σ x1) fun r3 σ2 => (if r3 = 0 then fx_Mo_addField_b35  σ2 else (if x2 < 0 then fx_Mo_addField_b35  σ2 else (if (3 : Int32) < x2 then fx_Mo_addField_b35  σ2 else tx_ci (fx_Mo_isType σ2 x3) fun r8 σ7 => (if r8 = 0 then fx_Mo_addField_b35  σ7 else (if (σ7 45 3) = (12 : Int32) then some ((-2 : Int32), σ7) else tx_wr σ7 48 12 (σ7 45 3) x1 fun σ11 => tx_wr σ11 49 12 (σ11 45 3) x2 fun σ12 => tx_wr σ12 50 12 (σ12 45 3) x3 fun σ13 => tx_pt σ13 45 3 ((σ13 45 3) + (1 : Int32)) fun σ14 => some (((σ14 45 3) - (1 : Int32)), σ14)))))) else some ((-3 : Int32), σ))
set_option maxRecDepth 100000 in
set_option maxHeartbeats 4000000 in
theorem fx_Mo_addField_b35_w {l : Launch} {E : tx_E} (σ : tx_St) (t : Int32 × tx_St) (hT : fx_Mo_addField_b35 σ  = some t) : gx l E mi_Mo_addField (some (.int t.1), t.2) σ [] 35 [] := by
  unfold fx_Mo_addField_b35 at hT
  refine gx_iconst (pc := 35) (-1 : Int32) d_Mo_addField_35 (by decide) ?_
  cases hT
  exact gx_iret (pc := 36) d_Mo_addField_36 rfl rfl
set_option maxRecDepth 100000 in
set_option maxHeartbeats 4000000 in
theorem fx_Mo_addField_c (l : Launch) (E : tx_E) (σ : tx_St) (x1 : Int32) (x2 : Int32) (x3 : Int32) (t : Int32 × tx_St) (hT : fx_Mo_addField σ x1 x2 x3 = some t) : tx_MX l E y_Mo_addField mi_Mo_addField (some (.int t.1), t.2) [.ref (E.1 45), .int x1, .int x2, .int x3] σ := by
  refine tx_MX_of (by decide) rfl (Nat.le_of_ble_eq_true rfl) ?_
  show gx l E mi_Mo_addField (some (.int t.1), t.2) σ [(0, .ref (E.1 45)), (1, .int x1), (2, .int x2), (3, .int x3)] 0 []
  unfold fx_Mo_addField at hT
  refine gx_aload_n (pc := 0) 0 d_Mo_addField_0 rfl rfl ?_
  refine gx_getI (pc := 1) (σ 45 16) fl_Mo_94 d_Mo_addField_1 (rfl) (by decide) rfl rfl ?_
  refine gx_if_eq (pc := 4) 10 d_Mo_addField_4 rfl (fun h1 => ?_) (fun h1 => ?_)
  · have hT := tx_ifp h1 hT
    refine gx_aload_n (pc := 10) 0 d_Mo_addField_10 rfl rfl ?_
    refine gx_iload_n (pc := 11) 1 d_Mo_addField_11 rfl rfl ?_
    obtain ⟨r3, σ2, cσ2, hT⟩ := tx_ci_some hT
    refine gx_callV (pc := 12) (As := [.int x1]) (rest := []) cm_Mo_isClass lk_Mo_87 (fx_Mo_isClass_c l E σ x1 _ cσ2) (rfl) (by decide) rfl rfl tx_fi_Mo_addField_Mo_isClass (Nat.le_of_ble_eq_true rfl) d_Mo_addField_12 ?_
    change gx l E mi_Mo_addField _ σ2 [(0, .ref (E.1 45)), (1, .int x1), (2, .int x2), (3, .int x3)] 15 [.int r3]
    refine gx_if_eq (pc := 15) 35 d_Mo_addField_15 rfl (fun h4 => ?_) (fun h4 => ?_)
    · have hT := tx_ifp h4 hT
      refine gx_sub [] rfl ?_
      exact fx_Mo_addField_b35_w  σ2 _ hT
    · have hT := tx_ifn h4 hT
      refine gx_iload_n (pc := 18) 2 d_Mo_addField_18 rfl rfl ?_
      refine gx_if_lt (pc := 19) 35 d_Mo_addField_19 rfl (fun h5 => ?_) (fun h5 => ?_)
      · have hT := tx_ifp h5 hT
        refine gx_sub [] rfl ?_
        exact fx_Mo_addField_b35_w  σ2 _ hT
      · have hT := tx_ifn h5 hT
        refine gx_iload_n (pc := 22) 2 d_Mo_addField_22 rfl rfl ?_
        refine gx_iconst (pc := 23) (3 : Int32) d_Mo_addField_23 (by decide) ?_
        refine gx_icmp_gt (pc := 24) 35 d_Mo_addField_24 rfl (fun h6 => ?_) (fun h6 => ?_)
        · have hT := tx_ifp h6 hT
          refine gx_sub [] rfl ?_
          exact fx_Mo_addField_b35_w  σ2 _ hT
        · have hT := tx_ifn h6 hT
          refine gx_aload_n (pc := 27) 0 d_Mo_addField_27 rfl rfl ?_
          refine gx_iload_n (pc := 28) 3 d_Mo_addField_28 rfl rfl ?_
          obtain ⟨r8, σ7, cσ7, hT⟩ := tx_ci_some hT
          refine gx_callV (pc := 29) (As := [.int x3]) (rest := []) cm_Mo_isType lk_Mo_98 (fx_Mo_isType_c l E σ2 x3 _ cσ7) (rfl) (by decide) rfl rfl tx_fi_Mo_addField_Mo_isType (Nat.le_of_ble_eq_true rfl) d_Mo_addField_29 ?_
          change gx l E mi_Mo_addField _ σ7 [(0, .ref (E.1 45)), (1, .int x1), (2, .int x2), (3, .int x3)] 32 [.int r8]
          refine gx_if_ne (pc := 32) 37 d_Mo_addField_32 rfl (fun h9 => ?_) (fun h9 => ?_)
          · have hT := tx_ifn h9 hT
            refine gx_aload_n (pc := 37) 0 d_Mo_addField_37 rfl rfl ?_
            refine gx_getI (pc := 38) (σ7 45 3) fl_Mo_101 d_Mo_addField_38 (rfl) (by decide) rfl rfl ?_
            refine gx_bipush (pc := 41) (12 : Int32) d_Mo_addField_41 (by decide) ?_
            refine gx_icmp_ne (pc := 43) 49 d_Mo_addField_43 rfl (fun h10 => ?_) (fun h10 => ?_)
            · have hT := tx_ifn h10 hT
              refine gx_aload_n (pc := 49) 0 d_Mo_addField_49 rfl rfl ?_
              refine gx_getR (pc := 50) 48 fl_Mo_16 d_Mo_addField_50 (rfl) (by decide) rfl ?_
              refine gx_aload_n (pc := 53) 0 d_Mo_addField_53 rfl rfl ?_
              refine gx_getI (pc := 54) (σ7 45 3) fl_Mo_101 d_Mo_addField_54 (rfl) (by decide) rfl rfl ?_
              refine gx_iload_n (pc := 57) 1 d_Mo_addField_57 rfl rfl ?_
              obtain ⟨σ11, gσ11, iσ11, hT⟩ := tx_wr_some hT
              refine gx_iast (pc := 58) d_Mo_addField_58 (rfl) iσ11 ?_
              rw [gσ11]
              refine gx_aload_n (pc := 59) 0 d_Mo_addField_59 rfl rfl ?_
              refine gx_getR (pc := 60) 49 fl_Mo_19 d_Mo_addField_60 (rfl) (by decide) rfl ?_
              refine gx_aload_n (pc := 63) 0 d_Mo_addField_63 rfl rfl ?_
              refine gx_getI (pc := 64) (σ11 45 3) fl_Mo_101 d_Mo_addField_64 (rfl) (by decide) rfl rfl ?_
              refine gx_iload_n (pc := 67) 2 d_Mo_addField_67 rfl rfl ?_
              obtain ⟨σ12, gσ12, iσ12, hT⟩ := tx_wr_some hT
              refine gx_iast (pc := 68) d_Mo_addField_68 (rfl) iσ12 ?_
              rw [gσ12]
              refine gx_aload_n (pc := 69) 0 d_Mo_addField_69 rfl rfl ?_
              refine gx_getR (pc := 70) 50 fl_Mo_22 d_Mo_addField_70 (rfl) (by decide) rfl ?_
              refine gx_aload_n (pc := 73) 0 d_Mo_addField_73 rfl rfl ?_
              refine gx_getI (pc := 74) (σ12 45 3) fl_Mo_101 d_Mo_addField_74 (rfl) (by decide) rfl rfl ?_
              refine gx_iload_n (pc := 77) 3 d_Mo_addField_77 rfl rfl ?_
              obtain ⟨σ13, gσ13, iσ13, hT⟩ := tx_wr_some hT
              refine gx_iast (pc := 78) d_Mo_addField_78 (rfl) iσ13 ?_
              rw [gσ13]
              refine gx_aload_n (pc := 79) 0 d_Mo_addField_79 rfl rfl ?_
              refine gx_dup (pc := 80) d_Mo_addField_80 rfl ?_
              refine gx_getI (pc := 81) (σ13 45 3) fl_Mo_101 d_Mo_addField_81 (rfl) (by decide) rfl rfl ?_
              refine gx_iconst (pc := 84) (1 : Int32) d_Mo_addField_84 (by decide) ?_
              refine gx_iadd (pc := 85) d_Mo_addField_85 ?_
              obtain ⟨σ14, gσ14, hT⟩ := tx_pt_some hT
              refine gx_putI (pc := 86) fp_Mo_101 d_Mo_addField_86 (rfl) (by decide) rfl ?_
              rw [gσ14]
              refine gx_aload_n (pc := 89) 0 d_Mo_addField_89 rfl rfl ?_
              refine gx_getI (pc := 90) (σ14 45 3) fl_Mo_101 d_Mo_addField_90 (rfl) (by decide) rfl rfl ?_
              refine gx_iconst (pc := 93) (1 : Int32) d_Mo_addField_93 (by decide) ?_
              refine gx_isub (pc := 94) d_Mo_addField_94 ?_
              cases hT
              exact gx_iret (pc := 95) d_Mo_addField_95 rfl rfl
            · have hT := tx_ifp h10 hT
              refine gx_bipush (pc := 46) (-2 : Int32) d_Mo_addField_46 (by decide) ?_
              cases hT
              exact gx_iret (pc := 48) d_Mo_addField_48 rfl rfl
          · have hT := tx_ifp h9 hT
            refine gx_sub [] rfl ?_
            exact fx_Mo_addField_b35_w  σ7 _ hT
  · have hT := tx_ifn h1 hT
    refine gx_bipush (pc := 7) (-3 : Int32) d_Mo_addField_7 (by decide) ?_
    cases hT
    exact gx_iret (pc := 9) d_Mo_addField_9 rfl rfl
theorem d_Mo_methodOf_0 : decode c_Mo_methodOf 0 = .ok (.iconst (0), 1) := by decide +kernel
theorem d_Mo_methodOf_1 : decode c_Mo_methodOf 1 = .ok (.istore_n 3, 1) := by decide +kernel
theorem d_Mo_methodOf_2 : decode c_Mo_methodOf 2 = .ok (.iload_n 3, 1) := by decide +kernel
theorem d_Mo_methodOf_3 : decode c_Mo_methodOf 3 = .ok (.aload_n 0, 1) := by decide +kernel
theorem d_Mo_methodOf_4 : decode c_Mo_methodOf 4 = .ok (.getfield 91, 3) := by decide +kernel
theorem d_Mo_methodOf_7 : decode c_Mo_methodOf 7 = .ok (.if_icmp .ge (31), 3) := by decide +kernel
theorem d_Mo_methodOf_10 : decode c_Mo_methodOf 10 = .ok (.aload_n 0, 1) := by decide +kernel
theorem d_Mo_methodOf_11 : decode c_Mo_methodOf 11 = .ok (.getfield 25, 3) := by decide +kernel
theorem d_Mo_methodOf_14 : decode c_Mo_methodOf 14 = .ok (.iload_n 3, 1) := by decide +kernel
theorem d_Mo_methodOf_15 : decode c_Mo_methodOf 15 = .ok (.iaload, 1) := by decide +kernel
theorem d_Mo_methodOf_16 : decode c_Mo_methodOf 16 = .ok (.iload_n 1, 1) := by decide +kernel
theorem d_Mo_methodOf_17 : decode c_Mo_methodOf 17 = .ok (.if_icmp .ne (15), 3) := by decide +kernel
theorem d_Mo_methodOf_20 : decode c_Mo_methodOf 20 = .ok (.aload_n 0, 1) := by decide +kernel
theorem d_Mo_methodOf_21 : decode c_Mo_methodOf 21 = .ok (.getfield 31, 3) := by decide +kernel
theorem d_Mo_methodOf_24 : decode c_Mo_methodOf 24 = .ok (.iload_n 3, 1) := by decide +kernel
theorem d_Mo_methodOf_25 : decode c_Mo_methodOf 25 = .ok (.iaload, 1) := by decide +kernel
theorem d_Mo_methodOf_26 : decode c_Mo_methodOf 26 = .ok (.iload_n 2, 1) := by decide +kernel
theorem d_Mo_methodOf_27 : decode c_Mo_methodOf 27 = .ok (.if_icmp .ne (5), 3) := by decide +kernel
theorem d_Mo_methodOf_30 : decode c_Mo_methodOf 30 = .ok (.iload_n 3, 1) := by decide +kernel
theorem d_Mo_methodOf_31 : decode c_Mo_methodOf 31 = .ok (.ireturn, 1) := by decide +kernel
theorem d_Mo_methodOf_32 : decode c_Mo_methodOf 32 = .ok (.iinc 3 (1), 3) := by decide +kernel
theorem d_Mo_methodOf_35 : decode c_Mo_methodOf 35 = .ok (.goto (-33), 3) := by decide +kernel
theorem d_Mo_methodOf_38 : decode c_Mo_methodOf 38 = .ok (.iconst (-1), 1) := by decide +kernel
theorem d_Mo_methodOf_39 : decode c_Mo_methodOf 39 = .ok (.ireturn, 1) := by decide +kernel
def fx_Mo_methodOf_b32 (k2 : tx_St → Int32 → Int32 → Int32 → Option (Int32 × tx_St)) (σ : tx_St) (x1 : Int32) (x2 : Int32) (x3 : Int32) : Option (Int32 × tx_St) := k2 σ x1 x2 (x3 + (1 : Int32))
def fx_Mo_methodOf_b2 : Nat → tx_St → Int32 → Int32 → Int32 → Option (Int32 × tx_St)
  | 0, _, _, _, _ => none
  | n + 1, σ, x1, x2, x3 => (if (σ 45 7) ≤ x3 then some ((-1 : Int32), σ) else tx_rd σ 51 8 x3 fun v2 => (if v2 = x1 then tx_rd σ 53 8 x3 fun v4 => (if v4 = x2 then some (x3, σ) else fx_Mo_methodOf_b32 (fx_Mo_methodOf_b2 n) σ x1 x2 x3) else fx_Mo_methodOf_b32 (fx_Mo_methodOf_b2 n) σ x1 x2 x3))
def fx_Mo_methodOf (σ : tx_St) (x1 : Int32) (x2 : Int32) : Option (Int32 × tx_St) := fx_Mo_methodOf_b2  tx_fu σ x1 x2 (0 : Int32)
set_option maxRecDepth 100000 in
set_option maxHeartbeats 4000000 in
theorem fx_Mo_methodOf_b32_w {l : Launch} {E : tx_E} (k2 : tx_St → Int32 → Int32 → Int32 → Option (Int32 × tx_St)) (j2 : ∀ (σ : tx_St) (x1 : Int32) (x2 : Int32) (x3 : Int32) (t : Int32 × tx_St), k2 σ x1 x2 x3 = some t → gx l E mi_Mo_methodOf (some (.int t.1), t.2) σ [(0, .ref (E.1 45)), (1, .int x1), (2, .int x2), (3, .int x3)] 2 []) (σ : tx_St) (x1 : Int32) (x2 : Int32) (x3 : Int32) (t : Int32 × tx_St) (hT : fx_Mo_methodOf_b32 k2 σ x1 x2 x3 = some t) : gx l E mi_Mo_methodOf (some (.int t.1), t.2) σ [(0, .ref (E.1 45)), (1, .int x1), (2, .int x2), (3, .int x3)] 32 [] := by
  unfold fx_Mo_methodOf_b32 at hT
  refine gx_iinc (pc := 32) (x3 + (1 : Int32)) 3 [(3, .int (x3 + (1 : Int32))), (0, .ref (E.1 45)), (1, .int x1), (2, .int x2)] d_Mo_methodOf_32 rfl (tx_inc (by decide)) (Nat.le_of_ble_eq_true rfl) rfl ?_
  refine gx_goto (pc := 35) 2 d_Mo_methodOf_35 rfl ?_
  refine gx_sub [1, 2, 3, 0] rfl ?_
  exact j2 σ x1 x2 (x3 + (1 : Int32)) _ hT
set_option maxRecDepth 100000 in
set_option maxHeartbeats 4000000 in
theorem fx_Mo_methodOf_b2_w {l : Launch} {E : tx_E} : ∀ (n : Nat) (σ : tx_St) (x1 : Int32) (x2 : Int32) (x3 : Int32) (t : Int32 × tx_St), fx_Mo_methodOf_b2 n σ x1 x2 x3 = some t → gx l E mi_Mo_methodOf (some (.int t.1), t.2) σ [(0, .ref (E.1 45)), (1, .int x1), (2, .int x2), (3, .int x3)] 2 [] := by
  intro n
  induction n with
  | zero => intro σ x1 x2 x3 t hT; cases hT
  | succ n ih =>
    intro σ x1 x2 x3 t hT
    rw [fx_Mo_methodOf_b2] at hT
    refine gx_iload_n (pc := 2) 3 d_Mo_methodOf_2 rfl rfl ?_
    refine gx_aload_n (pc := 3) 0 d_Mo_methodOf_3 rfl rfl ?_
    refine gx_getI (pc := 4) (σ 45 7) fl_Mo_91 d_Mo_methodOf_4 (rfl) (by decide) rfl rfl ?_
    refine gx_icmp_ge (pc := 7) 38 d_Mo_methodOf_7 rfl (fun h1 => ?_) (fun h1 => ?_)
    · have hT := tx_ifp h1 hT
      refine gx_iconst (pc := 38) (-1 : Int32) d_Mo_methodOf_38 (by decide) ?_
      cases hT
      exact gx_iret (pc := 39) d_Mo_methodOf_39 rfl rfl
    · have hT := tx_ifn h1 hT
      refine gx_aload_n (pc := 10) 0 d_Mo_methodOf_10 rfl rfl ?_
      refine gx_getR (pc := 11) 51 fl_Mo_25 d_Mo_methodOf_11 (rfl) (by decide) rfl ?_
      refine gx_iload_n (pc := 14) 3 d_Mo_methodOf_14 rfl rfl ?_
      obtain ⟨v2, gv2, iv2, hT⟩ := tx_rd_some hT
      refine gx_iald (pc := 15) v2 d_Mo_methodOf_15 (rfl) iv2 gv2 ?_
      refine gx_iload_n (pc := 16) 1 d_Mo_methodOf_16 rfl rfl ?_
      refine gx_icmp_ne (pc := 17) 32 d_Mo_methodOf_17 rfl (fun h3 => ?_) (fun h3 => ?_)
      · have hT := tx_ifn h3 hT
        exact fx_Mo_methodOf_b32_w (fx_Mo_methodOf_b2 n) (ih) σ x1 x2 x3 _ hT
      · have hT := tx_ifp h3 hT
        refine gx_aload_n (pc := 20) 0 d_Mo_methodOf_20 rfl rfl ?_
        refine gx_getR (pc := 21) 53 fl_Mo_31 d_Mo_methodOf_21 (rfl) (by decide) rfl ?_
        refine gx_iload_n (pc := 24) 3 d_Mo_methodOf_24 rfl rfl ?_
        obtain ⟨v4, gv4, iv4, hT⟩ := tx_rd_some hT
        refine gx_iald (pc := 25) v4 d_Mo_methodOf_25 (rfl) iv4 gv4 ?_
        refine gx_iload_n (pc := 26) 2 d_Mo_methodOf_26 rfl rfl ?_
        refine gx_icmp_ne (pc := 27) 32 d_Mo_methodOf_27 rfl (fun h5 => ?_) (fun h5 => ?_)
        · have hT := tx_ifn h5 hT
          exact fx_Mo_methodOf_b32_w (fx_Mo_methodOf_b2 n) (ih) σ x1 x2 x3 _ hT
        · have hT := tx_ifp h5 hT
          refine gx_iload_n (pc := 30) 3 d_Mo_methodOf_30 rfl rfl ?_
          cases hT
          exact gx_iret (pc := 31) d_Mo_methodOf_31 rfl rfl
set_option maxRecDepth 100000 in
set_option maxHeartbeats 4000000 in
theorem fx_Mo_methodOf_c (l : Launch) (E : tx_E) (σ : tx_St) (x1 : Int32) (x2 : Int32) (t : Int32 × tx_St) (hT : fx_Mo_methodOf σ x1 x2 = some t) : tx_MX l E y_Mo_methodOf mi_Mo_methodOf (some (.int t.1), t.2) [.ref (E.1 45), .int x1, .int x2] σ := by
  refine tx_MX_of (by decide) rfl (Nat.le_of_ble_eq_true rfl) ?_
  show gx l E mi_Mo_methodOf (some (.int t.1), t.2) σ [(0, .ref (E.1 45)), (1, .int x1), (2, .int x2)] 0 []
  unfold fx_Mo_methodOf at hT
  refine gx_iconst (pc := 0) (0 : Int32) d_Mo_methodOf_0 (by decide) ?_
  refine gx_istore_n (pc := 1) [(3, .int (0 : Int32)), (0, .ref (E.1 45)), (1, .int x1), (2, .int x2)] d_Mo_methodOf_1 rfl (Nat.le_of_ble_eq_true rfl) rfl ?_
  refine gx_sub [1, 2, 3, 0] rfl ?_
  exact fx_Mo_methodOf_b2_w  tx_fu σ x1 x2 (0 : Int32) _ hT
