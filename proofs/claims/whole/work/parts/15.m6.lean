theorem d_X_receiverFits_0 : decode c_X_receiverFits 0 = .ok (.aload_n 0, 1) := by decide +kernel
theorem d_X_receiverFits_1 : decode c_X_receiverFits 1 = .ok (.getfield 10, 3) := by decide +kernel
theorem d_X_receiverFits_4 : decode c_X_receiverFits 4 = .ok (.iload_n 1, 1) := by decide +kernel
theorem d_X_receiverFits_5 : decode c_X_receiverFits 5 = .ok (.invokevirtual 171, 3) := by decide +kernel
theorem d_X_receiverFits_8 : decode c_X_receiverFits 8 = .ok (.ifCond .eq (5), 3) := by decide +kernel
theorem d_X_receiverFits_11 : decode c_X_receiverFits 11 = .ok (.iconst (1), 1) := by decide +kernel
theorem d_X_receiverFits_12 : decode c_X_receiverFits 12 = .ok (.ireturn, 1) := by decide +kernel
theorem d_X_receiverFits_13 : decode c_X_receiverFits 13 = .ok (.aload_n 0, 1) := by decide +kernel
theorem d_X_receiverFits_14 : decode c_X_receiverFits 14 = .ok (.getfield 37, 3) := by decide +kernel
theorem d_X_receiverFits_17 : decode c_X_receiverFits 17 = .ok (.getfield 153, 3) := by decide +kernel
theorem d_X_receiverFits_20 : decode c_X_receiverFits 20 = .ok (.aload_n 0, 1) := by decide +kernel
theorem d_X_receiverFits_21 : decode c_X_receiverFits 21 = .ok (.getfield 37, 3) := by decide +kernel
theorem d_X_receiverFits_24 : decode c_X_receiverFits 24 = .ok (.iload_n 2, 1) := by decide +kernel
theorem d_X_receiverFits_25 : decode c_X_receiverFits 25 = .ok (.invokevirtual 128, 3) := by decide +kernel
theorem d_X_receiverFits_28 : decode c_X_receiverFits 28 = .ok (.iaload, 1) := by decide +kernel
theorem d_X_receiverFits_29 : decode c_X_receiverFits 29 = .ok (.istore_n 3, 1) := by decide +kernel
theorem d_X_receiverFits_30 : decode c_X_receiverFits 30 = .ok (.aload_n 0, 1) := by decide +kernel
theorem d_X_receiverFits_31 : decode c_X_receiverFits 31 = .ok (.getfield 10, 3) := by decide +kernel
theorem d_X_receiverFits_34 : decode c_X_receiverFits 34 = .ok (.iload_n 3, 1) := by decide +kernel
theorem d_X_receiverFits_35 : decode c_X_receiverFits 35 = .ok (.iconst (2), 1) := by decide +kernel
theorem d_X_receiverFits_36 : decode c_X_receiverFits 36 = .ok (.aload_n 0, 1) := by decide +kernel
theorem d_X_receiverFits_37 : decode c_X_receiverFits 37 = .ok (.getfield 10, 3) := by decide +kernel
theorem d_X_receiverFits_40 : decode c_X_receiverFits 40 = .ok (.getfield 174, 3) := by decide +kernel
theorem d_X_receiverFits_43 : decode c_X_receiverFits 43 = .ok (.iload_n 1, 1) := by decide +kernel
theorem d_X_receiverFits_44 : decode c_X_receiverFits 44 = .ok (.iaload, 1) := by decide +kernel
theorem d_X_receiverFits_45 : decode c_X_receiverFits 45 = .ok (.iadd, 1) := by decide +kernel
theorem d_X_receiverFits_46 : decode c_X_receiverFits 46 = .ok (.invokevirtual 177, 3) := by decide +kernel
theorem d_X_receiverFits_49 : decode c_X_receiverFits 49 = .ok (.ireturn, 1) := by decide +kernel
def fx_X_receiverFits (σ : tx_St) (x1 : Int32) (x2 : Int32) : Option (Int32 × tx_St) := tx_ci (fx_Plan_isStaticMethod σ x1) fun r2 σ1 => (if r2 = 0 then tx_ci (fx_Heap_inHandle σ1 x2) fun r5 σ4 => tx_rd σ4 22 321 r5 fun v6 => tx_rd σ4 7 8 x1 fun v7 => tx_ci (fx_Plan_fits σ4 v6 ((2 : Int32) + v7)) fun r9 σ8 => tx_rz r9 σ8 else some ((1 : Int32), σ1))
set_option maxRecDepth 100000 in
set_option maxHeartbeats 4000000 in
theorem fx_X_receiverFits_c (l : Launch) (E : tx_E) (σ : tx_St) (x1 : Int32) (x2 : Int32) (t : Int32 × tx_St) (hT : fx_X_receiverFits σ x1 x2 = some t) : tx_MX l E y_X_receiverFits mi_X_receiverFits (some (.int t.1), t.2) [.ref (E.1 0), .int x1, .int x2] σ := by
  refine tx_MX_of (by decide) rfl (Nat.le_of_ble_eq_true rfl) ?_
  show gx l E mi_X_receiverFits (some (.int t.1), t.2) σ [(0, .ref (E.1 0)), (1, .int x1), (2, .int x2)] 0 []
  unfold fx_X_receiverFits at hT
  refine gx_aload_n (pc := 0) 0 d_X_receiverFits_0 rfl rfl ?_
  refine gx_getR (pc := 1) 1 fl_X_10 d_X_receiverFits_1 (rfl) (by decide) rfl ?_
  refine gx_iload_n (pc := 4) 1 d_X_receiverFits_4 rfl rfl ?_
  obtain ⟨r2, σ1, cσ1, hT⟩ := tx_ci_some hT
  refine gx_callV (pc := 5) (As := [.int x1]) (rest := []) cm_Plan_isStaticMethod lk_X_171 (fx_Plan_isStaticMethod_c l E σ x1 _ cσ1) (rfl) (by decide) rfl rfl tx_fi_X_receiverFits_Plan_isStaticMethod (Nat.le_of_ble_eq_true rfl) d_X_receiverFits_5 ?_
  change gx l E mi_X_receiverFits _ σ1 [(0, .ref (E.1 0)), (1, .int x1), (2, .int x2)] 8 [.int r2]
  refine gx_if_eq (pc := 8) 13 d_X_receiverFits_8 rfl (fun h3 => ?_) (fun h3 => ?_)
  · have hT := tx_ifp h3 hT
    refine gx_aload_n (pc := 13) 0 d_X_receiverFits_13 rfl rfl ?_
    refine gx_getR (pc := 14) 21 fl_X_37 d_X_receiverFits_14 (rfl) (by decide) rfl ?_
    refine gx_getR (pc := 17) 22 fl_X_153 d_X_receiverFits_17 (rfl) (by decide) rfl ?_
    refine gx_aload_n (pc := 20) 0 d_X_receiverFits_20 rfl rfl ?_
    refine gx_getR (pc := 21) 21 fl_X_37 d_X_receiverFits_21 (rfl) (by decide) rfl ?_
    refine gx_iload_n (pc := 24) 2 d_X_receiverFits_24 rfl rfl ?_
    obtain ⟨r5, σ4, cσ4, hT⟩ := tx_ci_some hT
    refine gx_callV (pc := 25) (As := [.int x2]) (rest := [.ref (E.1 22)]) cm_Heap_inHandle lk_X_128 (fx_Heap_inHandle_c l E σ1 x2 _ cσ4) (rfl) (by decide) rfl rfl tx_fi_X_receiverFits_Heap_inHandle (Nat.le_of_ble_eq_true rfl) d_X_receiverFits_25 ?_
    change gx l E mi_X_receiverFits _ σ4 [(0, .ref (E.1 0)), (1, .int x1), (2, .int x2)] 28 [.int r5, .ref (E.1 22)]
    obtain ⟨v6, gv6, iv6, hT⟩ := tx_rd_some hT
    refine gx_iald (pc := 28) v6 d_X_receiverFits_28 (rfl) iv6 gv6 ?_
    refine gx_istore_n (pc := 29) [(3, .int v6), (0, .ref (E.1 0)), (1, .int x1), (2, .int x2)] d_X_receiverFits_29 rfl (Nat.le_of_ble_eq_true rfl) rfl ?_
    refine gx_aload_n (pc := 30) 1 d_X_receiverFits_30 rfl rfl ?_
    refine gx_getR (pc := 31) 1 fl_X_10 d_X_receiverFits_31 (rfl) (by decide) rfl ?_
    refine gx_iload_n (pc := 34) 0 d_X_receiverFits_34 rfl rfl ?_
    refine gx_iconst (pc := 35) (2 : Int32) d_X_receiverFits_35 (by decide) ?_
    refine gx_aload_n (pc := 36) 1 d_X_receiverFits_36 rfl rfl ?_
    refine gx_getR (pc := 37) 1 fl_X_10 d_X_receiverFits_37 (rfl) (by decide) rfl ?_
    refine gx_getR (pc := 40) 7 fl_X_174 d_X_receiverFits_40 (rfl) (by decide) rfl ?_
    refine gx_iload_n (pc := 43) 2 d_X_receiverFits_43 rfl rfl ?_
    obtain ⟨v7, gv7, iv7, hT⟩ := tx_rd_some hT
    refine gx_iald (pc := 44) v7 d_X_receiverFits_44 (rfl) iv7 gv7 ?_
    refine gx_iadd (pc := 45) d_X_receiverFits_45 ?_
    obtain ⟨r9, σ8, cσ8, hT⟩ := tx_ci_some hT
    refine gx_callV (pc := 46) (As := [.int v6, .int ((2 : Int32) + v7)]) (rest := []) cm_Plan_fits lk_X_177 (fx_Plan_fits_c l E σ4 v6 ((2 : Int32) + v7) _ cσ8) (rfl) (by decide) rfl rfl tx_fi_X_receiverFits_Plan_fits (Nat.le_of_ble_eq_true rfl) d_X_receiverFits_46 ?_
    change gx l E mi_X_receiverFits _ σ8 [(3, .int v6), (0, .ref (E.1 0)), (1, .int x1), (2, .int x2)] 49 [.int r9]
    obtain ⟨hz, hT⟩ := tx_rz_some hT
    cases hT
    exact gx_zret (pc := 49) d_X_receiverFits_49 rfl hz rfl
  · have hT := tx_ifn h3 hT
    refine gx_iconst (pc := 11) (1 : Int32) d_X_receiverFits_11 (by decide) ?_
    cases hT
    exact gx_zret (pc := 12) d_X_receiverFits_12 rfl (by decide) rfl
theorem d_X_argumentFits_0 : decode c_X_argumentFits 0 = .ok (.aload_n 0, 1) := by decide +kernel
theorem d_X_argumentFits_1 : decode c_X_argumentFits 1 = .ok (.getfield 10, 3) := by decide +kernel
theorem d_X_argumentFits_4 : decode c_X_argumentFits 4 = .ok (.getfield 125, 3) := by decide +kernel
theorem d_X_argumentFits_7 : decode c_X_argumentFits 7 = .ok (.iload_n 1, 1) := by decide +kernel
theorem d_X_argumentFits_8 : decode c_X_argumentFits 8 = .ok (.iaload, 1) := by decide +kernel
theorem d_X_argumentFits_9 : decode c_X_argumentFits 9 = .ok (.istore_n 3, 1) := by decide +kernel
theorem d_X_argumentFits_10 : decode c_X_argumentFits 10 = .ok (.iload_n 3, 1) := by decide +kernel
theorem d_X_argumentFits_11 : decode c_X_argumentFits 11 = .ok (.iconst (-1), 1) := by decide +kernel
theorem d_X_argumentFits_12 : decode c_X_argumentFits 12 = .ok (.if_icmp .eq (12), 3) := by decide +kernel
theorem d_X_argumentFits_15 : decode c_X_argumentFits 15 = .ok (.iload_n 3, 1) := by decide +kernel
theorem d_X_argumentFits_16 : decode c_X_argumentFits 16 = .ok (.ifCond .eq (8), 3) := by decide +kernel
theorem d_X_argumentFits_19 : decode c_X_argumentFits 19 = .ok (.iload_n 2, 1) := by decide +kernel
theorem d_X_argumentFits_20 : decode c_X_argumentFits 20 = .ok (.iconst (-1), 1) := by decide +kernel
theorem d_X_argumentFits_21 : decode c_X_argumentFits 21 = .ok (.if_icmp .ne (5), 3) := by decide +kernel
theorem d_X_argumentFits_24 : decode c_X_argumentFits 24 = .ok (.iconst (1), 1) := by decide +kernel
theorem d_X_argumentFits_25 : decode c_X_argumentFits 25 = .ok (.ireturn, 1) := by decide +kernel
theorem d_X_argumentFits_26 : decode c_X_argumentFits 26 = .ok (.aload_n 0, 1) := by decide +kernel
theorem d_X_argumentFits_27 : decode c_X_argumentFits 27 = .ok (.getfield 10, 3) := by decide +kernel
theorem d_X_argumentFits_30 : decode c_X_argumentFits 30 = .ok (.aload_n 0, 1) := by decide +kernel
theorem d_X_argumentFits_31 : decode c_X_argumentFits 31 = .ok (.getfield 37, 3) := by decide +kernel
theorem d_X_argumentFits_34 : decode c_X_argumentFits 34 = .ok (.getfield 153, 3) := by decide +kernel
theorem d_X_argumentFits_37 : decode c_X_argumentFits 37 = .ok (.aload_n 0, 1) := by decide +kernel
theorem d_X_argumentFits_38 : decode c_X_argumentFits 38 = .ok (.getfield 37, 3) := by decide +kernel
theorem d_X_argumentFits_41 : decode c_X_argumentFits 41 = .ok (.iload_n 2, 1) := by decide +kernel
theorem d_X_argumentFits_42 : decode c_X_argumentFits 42 = .ok (.invokevirtual 128, 3) := by decide +kernel
theorem d_X_argumentFits_45 : decode c_X_argumentFits 45 = .ok (.iaload, 1) := by decide +kernel
theorem d_X_argumentFits_46 : decode c_X_argumentFits 46 = .ok (.iload_n 3, 1) := by decide +kernel
theorem d_X_argumentFits_47 : decode c_X_argumentFits 47 = .ok (.invokevirtual 177, 3) := by decide +kernel
theorem d_X_argumentFits_50 : decode c_X_argumentFits 50 = .ok (.ireturn, 1) := by decide +kernel
def fx_X_argumentFits_b24 (σ : tx_St) : Option (Int32 × tx_St) := some ((1 : Int32), σ)
def fx_X_argumentFits (σ : tx_St) (x1 : Int32) (x2 : Int32) : Option (Int32 × tx_St) := tx_rd σ 10 8 x1 fun v1 => (if v1 = (-1 : Int32) then fx_X_argumentFits_b24  σ else (if v1 = 0 then fx_X_argumentFits_b24  σ else (if x2 = (-1 : Int32) then fx_X_argumentFits_b24  σ else tx_ci (fx_Heap_inHandle σ x2) fun r6 σ5 => tx_rd σ5 22 321 r6 fun v7 => tx_ci (fx_Plan_fits σ5 v7 v1) fun r9 σ8 => tx_rz r9 σ8)))
set_option maxRecDepth 100000 in
set_option maxHeartbeats 4000000 in
theorem fx_X_argumentFits_b24_w {l : Launch} {E : tx_E} (σ : tx_St) (t : Int32 × tx_St) (hT : fx_X_argumentFits_b24 σ  = some t) : gx l E mi_X_argumentFits (some (.int t.1), t.2) σ [] 24 [] := by
  unfold fx_X_argumentFits_b24 at hT
  refine gx_iconst (pc := 24) (1 : Int32) d_X_argumentFits_24 (by decide) ?_
  cases hT
  exact gx_zret (pc := 25) d_X_argumentFits_25 rfl (by decide) rfl
set_option maxRecDepth 100000 in
set_option maxHeartbeats 4000000 in
theorem fx_X_argumentFits_c (l : Launch) (E : tx_E) (σ : tx_St) (x1 : Int32) (x2 : Int32) (t : Int32 × tx_St) (hT : fx_X_argumentFits σ x1 x2 = some t) : tx_MX l E y_X_argumentFits mi_X_argumentFits (some (.int t.1), t.2) [.ref (E.1 0), .int x1, .int x2] σ := by
  refine tx_MX_of (by decide) rfl (Nat.le_of_ble_eq_true rfl) ?_
  show gx l E mi_X_argumentFits (some (.int t.1), t.2) σ [(0, .ref (E.1 0)), (1, .int x1), (2, .int x2)] 0 []
  unfold fx_X_argumentFits at hT
  refine gx_aload_n (pc := 0) 0 d_X_argumentFits_0 rfl rfl ?_
  refine gx_getR (pc := 1) 1 fl_X_10 d_X_argumentFits_1 (rfl) (by decide) rfl ?_
  refine gx_getR (pc := 4) 10 fl_X_125 d_X_argumentFits_4 (rfl) (by decide) rfl ?_
  refine gx_iload_n (pc := 7) 1 d_X_argumentFits_7 rfl rfl ?_
  obtain ⟨v1, gv1, iv1, hT⟩ := tx_rd_some hT
  refine gx_iald (pc := 8) v1 d_X_argumentFits_8 (rfl) iv1 gv1 ?_
  refine gx_istore_n (pc := 9) [(3, .int v1), (0, .ref (E.1 0)), (1, .int x1), (2, .int x2)] d_X_argumentFits_9 rfl (Nat.le_of_ble_eq_true rfl) rfl ?_
  refine gx_iload_n (pc := 10) 0 d_X_argumentFits_10 rfl rfl ?_
  refine gx_iconst (pc := 11) (-1 : Int32) d_X_argumentFits_11 (by decide) ?_
  refine gx_icmp_eq (pc := 12) 24 d_X_argumentFits_12 rfl (fun h2 => ?_) (fun h2 => ?_)
  · have hT := tx_ifp h2 hT
    refine gx_sub [] rfl ?_
    exact fx_X_argumentFits_b24_w  σ _ hT
  · have hT := tx_ifn h2 hT
    refine gx_iload_n (pc := 15) 0 d_X_argumentFits_15 rfl rfl ?_
    refine gx_if_eq (pc := 16) 24 d_X_argumentFits_16 rfl (fun h3 => ?_) (fun h3 => ?_)
    · have hT := tx_ifp h3 hT
      refine gx_sub [] rfl ?_
      exact fx_X_argumentFits_b24_w  σ _ hT
    · have hT := tx_ifn h3 hT
      refine gx_iload_n (pc := 19) 3 d_X_argumentFits_19 rfl rfl ?_
      refine gx_iconst (pc := 20) (-1 : Int32) d_X_argumentFits_20 (by decide) ?_
      refine gx_icmp_ne (pc := 21) 26 d_X_argumentFits_21 rfl (fun h4 => ?_) (fun h4 => ?_)
      · have hT := tx_ifn h4 hT
        refine gx_aload_n (pc := 26) 1 d_X_argumentFits_26 rfl rfl ?_
        refine gx_getR (pc := 27) 1 fl_X_10 d_X_argumentFits_27 (rfl) (by decide) rfl ?_
        refine gx_aload_n (pc := 30) 1 d_X_argumentFits_30 rfl rfl ?_
        refine gx_getR (pc := 31) 21 fl_X_37 d_X_argumentFits_31 (rfl) (by decide) rfl ?_
        refine gx_getR (pc := 34) 22 fl_X_153 d_X_argumentFits_34 (rfl) (by decide) rfl ?_
        refine gx_aload_n (pc := 37) 1 d_X_argumentFits_37 rfl rfl ?_
        refine gx_getR (pc := 38) 21 fl_X_37 d_X_argumentFits_38 (rfl) (by decide) rfl ?_
        refine gx_iload_n (pc := 41) 3 d_X_argumentFits_41 rfl rfl ?_
        obtain ⟨r6, σ5, cσ5, hT⟩ := tx_ci_some hT
        refine gx_callV (pc := 42) (As := [.int x2]) (rest := [.ref (E.1 22), .ref (E.1 1)]) cm_Heap_inHandle lk_X_128 (fx_Heap_inHandle_c l E σ x2 _ cσ5) (rfl) (by decide) rfl rfl tx_fi_X_argumentFits_Heap_inHandle (Nat.le_of_ble_eq_true rfl) d_X_argumentFits_42 ?_
        change gx l E mi_X_argumentFits _ σ5 [(3, .int v1), (0, .ref (E.1 0)), (1, .int x1), (2, .int x2)] 45 [.int r6, .ref (E.1 22), .ref (E.1 1)]
        obtain ⟨v7, gv7, iv7, hT⟩ := tx_rd_some hT
        refine gx_iald (pc := 45) v7 d_X_argumentFits_45 (rfl) iv7 gv7 ?_
        refine gx_iload_n (pc := 46) 0 d_X_argumentFits_46 rfl rfl ?_
        obtain ⟨r9, σ8, cσ8, hT⟩ := tx_ci_some hT
        refine gx_callV (pc := 47) (As := [.int v7, .int v1]) (rest := []) cm_Plan_fits lk_X_177 (fx_Plan_fits_c l E σ5 v7 v1 _ cσ8) (rfl) (by decide) rfl rfl tx_fi_X_argumentFits_Plan_fits (Nat.le_of_ble_eq_true rfl) d_X_argumentFits_47 ?_
        change gx l E mi_X_argumentFits _ σ8 [(3, .int v1), (0, .ref (E.1 0)), (1, .int x1), (2, .int x2)] 50 [.int r9]
        obtain ⟨hz, hT⟩ := tx_rz_some hT
        cases hT
        exact gx_zret (pc := 50) d_X_argumentFits_50 rfl hz rfl
      · have hT := tx_ifp h4 hT
        refine gx_sub [] rfl ?_
        exact fx_X_argumentFits_b24_w  σ _ hT
theorem d_Frame_begin_0 : decode c_Frame_begin 0 = .ok (.aload_n 0, 1) := by decide +kernel
theorem d_Frame_begin_1 : decode c_Frame_begin 1 = .ok (.iload_n 1, 1) := by decide +kernel
theorem d_Frame_begin_2 : decode c_Frame_begin 2 = .ok (.putfield 18, 3) := by decide +kernel
theorem d_Frame_begin_5 : decode c_Frame_begin 5 = .ok (.aload_n 0, 1) := by decide +kernel
theorem d_Frame_begin_6 : decode c_Frame_begin 6 = .ok (.iconst (0), 1) := by decide +kernel
theorem d_Frame_begin_7 : decode c_Frame_begin 7 = .ok (.putfield 22, 3) := by decide +kernel
theorem d_Frame_begin_10 : decode c_Frame_begin 10 = .ok (.aload_n 0, 1) := by decide +kernel
theorem d_Frame_begin_11 : decode c_Frame_begin 11 = .ok (.iconst (0), 1) := by decide +kernel
theorem d_Frame_begin_12 : decode c_Frame_begin 12 = .ok (.putfield 25, 3) := by decide +kernel
theorem d_Frame_begin_15 : decode c_Frame_begin 15 = .ok (.return_, 1) := by decide +kernel
def fx_Frame_begin (σ : tx_St) (x0 : Nat) (x1 : Int32) : Option tx_St := tx_pt σ x0 0 x1 fun σ1 => tx_pt σ1 x0 1 (0 : Int32) fun σ2 => tx_pt σ2 x0 4 (0 : Int32) fun σ3 => some σ3
set_option maxRecDepth 100000 in
set_option maxHeartbeats 4000000 in
theorem fx_Frame_begin_c (l : Launch) (E : tx_E) (σ : tx_St) (x0 : Nat) (x1 : Int32) (hx0 : tx_isFr x0) (t : tx_St) (hT : fx_Frame_begin σ x0 x1 = some t) : tx_MX l E y_Frame_begin mi_Frame_begin (none, t) [.ref (E.1 x0), .int x1] σ := by
  refine tx_MX_of (by decide) rfl (Nat.le_of_ble_eq_true rfl) ?_
  show gx l E mi_Frame_begin (none, t) σ [(0, .ref (E.1 x0)), (1, .int x1)] 0 []
  unfold fx_Frame_begin at hT
  refine gx_aload_n (pc := 0) 0 d_Frame_begin_0 rfl rfl ?_
  refine gx_iload_n (pc := 1) 1 d_Frame_begin_1 rfl rfl ?_
  obtain ⟨σ1, gσ1, hT⟩ := tx_pt_some hT
  refine gx_putI (pc := 2) fp_Frame_18 d_Frame_begin_2 (tx_fr0 hx0) (by decide) rfl ?_
  rw [gσ1]
  refine gx_aload_n (pc := 5) 0 d_Frame_begin_5 rfl rfl ?_
  refine gx_iconst (pc := 6) (0 : Int32) d_Frame_begin_6 (by decide) ?_
  obtain ⟨σ2, gσ2, hT⟩ := tx_pt_some hT
  refine gx_putI (pc := 7) fp_Frame_22 d_Frame_begin_7 (tx_fr0 hx0) (by decide) rfl ?_
  rw [gσ2]
  refine gx_aload_n (pc := 10) 0 d_Frame_begin_10 rfl rfl ?_
  refine gx_iconst (pc := 11) (0 : Int32) d_Frame_begin_11 (by decide) ?_
  obtain ⟨σ3, gσ3, hT⟩ := tx_pt_some hT
  refine gx_putI (pc := 12) fp_Frame_25 d_Frame_begin_12 (tx_fr0 hx0) (by decide) rfl ?_
  rw [gσ3]
  cases hT
  exact gx_vret (pc := 15) d_Frame_begin_15 rfl rfl
theorem d_Plan_chosenMethod_0 : decode c_Plan_chosenMethod 0 = .ok (.iload_n 2, 1) := by decide +kernel
theorem d_Plan_chosenMethod_1 : decode c_Plan_chosenMethod 1 = .ok (.istore_n 3, 1) := by decide +kernel
theorem d_Plan_chosenMethod_2 : decode c_Plan_chosenMethod 2 = .ok (.iload_n 3, 1) := by decide +kernel
theorem d_Plan_chosenMethod_3 : decode c_Plan_chosenMethod 3 = .ok (.ifCond .lt (44), 3) := by decide +kernel
theorem d_Plan_chosenMethod_6 : decode c_Plan_chosenMethod 6 = .ok (.aload_n 0, 1) := by decide +kernel
theorem d_Plan_chosenMethod_7 : decode c_Plan_chosenMethod 7 = .ok (.iload_n 2, 1) := by decide +kernel
theorem d_Plan_chosenMethod_8 : decode c_Plan_chosenMethod 8 = .ok (.iload_n 3, 1) := by decide +kernel
theorem d_Plan_chosenMethod_9 : decode c_Plan_chosenMethod 9 = .ok (.invokevirtual 65, 3) := by decide +kernel
theorem d_Plan_chosenMethod_12 : decode c_Plan_chosenMethod 12 = .ok (.ifCond .eq (17), 3) := by decide +kernel
theorem d_Plan_chosenMethod_15 : decode c_Plan_chosenMethod 15 = .ok (.aload_n 0, 1) := by decide +kernel
theorem d_Plan_chosenMethod_16 : decode c_Plan_chosenMethod 16 = .ok (.iload_n 3, 1) := by decide +kernel
theorem d_Plan_chosenMethod_17 : decode c_Plan_chosenMethod 17 = .ok (.aload_n 0, 1) := by decide +kernel
theorem d_Plan_chosenMethod_18 : decode c_Plan_chosenMethod 18 = .ok (.getfield 33, 3) := by decide +kernel
theorem d_Plan_chosenMethod_21 : decode c_Plan_chosenMethod 21 = .ok (.iload_n 1, 1) := by decide +kernel
theorem d_Plan_chosenMethod_22 : decode c_Plan_chosenMethod 22 = .ok (.iaload, 1) := by decide +kernel
theorem d_Plan_chosenMethod_23 : decode c_Plan_chosenMethod 23 = .ok (.invokevirtual 72, 3) := by decide +kernel
theorem d_Plan_chosenMethod_26 : decode c_Plan_chosenMethod 26 = .ok (.goto (4), 3) := by decide +kernel
theorem d_Plan_chosenMethod_29 : decode c_Plan_chosenMethod 29 = .ok (.iconst (-1), 1) := by decide +kernel
theorem d_Plan_chosenMethod_30 : decode c_Plan_chosenMethod 30 = .ok (.istore 4, 2) := by decide +kernel
theorem d_Plan_chosenMethod_32 : decode c_Plan_chosenMethod 32 = .ok (.iload 4, 2) := by decide +kernel
theorem d_Plan_chosenMethod_34 : decode c_Plan_chosenMethod 34 = .ok (.iconst (-1), 1) := by decide +kernel
theorem d_Plan_chosenMethod_35 : decode c_Plan_chosenMethod 35 = .ok (.if_icmp .eq (6), 3) := by decide +kernel
theorem d_Plan_chosenMethod_38 : decode c_Plan_chosenMethod 38 = .ok (.iload 4, 2) := by decide +kernel
theorem d_Plan_chosenMethod_40 : decode c_Plan_chosenMethod 40 = .ok (.ireturn, 1) := by decide +kernel
theorem d_Plan_chosenMethod_41 : decode c_Plan_chosenMethod 41 = .ok (.iinc 3 (-1), 3) := by decide +kernel
theorem d_Plan_chosenMethod_44 : decode c_Plan_chosenMethod 44 = .ok (.goto (-42), 3) := by decide +kernel
theorem d_Plan_chosenMethod_47 : decode c_Plan_chosenMethod 47 = .ok (.iload_n 1, 1) := by decide +kernel
theorem d_Plan_chosenMethod_48 : decode c_Plan_chosenMethod 48 = .ok (.ireturn, 1) := by decide +kernel
def fx_Plan_chosenMethod_b30 (k2 : tx_St → Int32 → Int32 → Int32 → Option (Int32 × tx_St)) (σ : tx_St) (x1 : Int32) (x2 : Int32) (x3 : Int32) (s0 : Int32) : Option (Int32 × tx_St) := (if s0 = (-1 : Int32) then k2 σ x1 x2 (x3 + (-1 : Int32)) else some (s0, σ))
def fx_Plan_chosenMethod_b2 : Nat → tx_St → Int32 → Int32 → Int32 → Option (Int32 × tx_St)
  | 0, _, _, _, _ => none
  | n + 1, σ, x1, x2, x3 => (if x3 < 0 then some (x1, σ) else tx_ci (fx_Plan_isUnder σ x2 x3) fun r3 σ2 => (if r3 = 0 then fx_Plan_chosenMethod_b30 (fx_Plan_chosenMethod_b2 n) σ2 x1 x2 x3 (-1 : Int32) else tx_rd σ2 9 8 x1 fun v5 => tx_ci (fx_Plan_methodNamed σ2 x3 v5) fun r7 σ6 => fx_Plan_chosenMethod_b30 (fx_Plan_chosenMethod_b2 n) σ6 x1 x2 x3 r7))
def fx_Plan_chosenMethod (σ : tx_St) (x1 : Int32) (x2 : Int32) : Option (Int32 × tx_St) := fx_Plan_chosenMethod_b2  tx_fu σ x1 x2 x2
set_option maxRecDepth 100000 in
set_option maxHeartbeats 4000000 in
theorem fx_Plan_chosenMethod_b30_w {l : Launch} {E : tx_E} (k2 : tx_St → Int32 → Int32 → Int32 → Option (Int32 × tx_St)) (j2 : ∀ (σ : tx_St) (x1 : Int32) (x2 : Int32) (x3 : Int32) (t : Int32 × tx_St), k2 σ x1 x2 x3 = some t → gx l E mi_Plan_chosenMethod (some (.int t.1), t.2) σ [(0, .ref (E.1 1)), (1, .int x1), (2, .int x2), (3, .int x3)] 2 []) (σ : tx_St) (x1 : Int32) (x2 : Int32) (x3 : Int32) (s0 : Int32) (t : Int32 × tx_St) (hT : fx_Plan_chosenMethod_b30 k2 σ x1 x2 x3 s0 = some t) : gx l E mi_Plan_chosenMethod (some (.int t.1), t.2) σ [(0, .ref (E.1 1)), (1, .int x1), (2, .int x2), (3, .int x3)] 30 [.int s0] := by
  unfold fx_Plan_chosenMethod_b30 at hT
  refine gx_istore (pc := 30) [(4, .int s0), (0, .ref (E.1 1)), (1, .int x1), (2, .int x2), (3, .int x3)] d_Plan_chosenMethod_30 (Nat.le_of_ble_eq_true rfl) rfl ?_
  refine gx_iload (pc := 32) 0 d_Plan_chosenMethod_32 rfl ?_
  refine gx_iconst (pc := 34) (-1 : Int32) d_Plan_chosenMethod_34 (by decide) ?_
  refine gx_icmp_eq (pc := 35) 41 d_Plan_chosenMethod_35 rfl (fun h8 => ?_) (fun h8 => ?_)
  · have hT := tx_ifp h8 hT
    refine gx_iinc (pc := 41) (x3 + (-1 : Int32)) 4 [(3, .int (x3 + (-1 : Int32))), (4, .int s0), (0, .ref (E.1 1)), (1, .int x1), (2, .int x2)] d_Plan_chosenMethod_41 rfl (tx_inc (by decide)) (Nat.le_of_ble_eq_true rfl) rfl ?_
    refine gx_goto (pc := 44) 2 d_Plan_chosenMethod_44 rfl ?_
    refine gx_sub [2, 3, 4, 0] rfl ?_
    exact j2 σ x1 x2 (x3 + (-1 : Int32)) _ hT
  · have hT := tx_ifn h8 hT
    refine gx_iload (pc := 38) 0 d_Plan_chosenMethod_38 rfl ?_
    cases hT
    exact gx_iret (pc := 40) d_Plan_chosenMethod_40 rfl rfl
set_option maxRecDepth 100000 in
set_option maxHeartbeats 4000000 in
theorem fx_Plan_chosenMethod_b2_w {l : Launch} {E : tx_E} : ∀ (n : Nat) (σ : tx_St) (x1 : Int32) (x2 : Int32) (x3 : Int32) (t : Int32 × tx_St), fx_Plan_chosenMethod_b2 n σ x1 x2 x3 = some t → gx l E mi_Plan_chosenMethod (some (.int t.1), t.2) σ [(0, .ref (E.1 1)), (1, .int x1), (2, .int x2), (3, .int x3)] 2 [] := by
  intro n
  induction n with
  | zero => intro σ x1 x2 x3 t hT; cases hT
  | succ n ih =>
    intro σ x1 x2 x3 t hT
    rw [fx_Plan_chosenMethod_b2] at hT
    refine gx_iload_n (pc := 2) 3 d_Plan_chosenMethod_2 rfl rfl ?_
    refine gx_if_lt (pc := 3) 47 d_Plan_chosenMethod_3 rfl (fun h1 => ?_) (fun h1 => ?_)
    · have hT := tx_ifp h1 hT
      refine gx_iload_n (pc := 47) 1 d_Plan_chosenMethod_47 rfl rfl ?_
      cases hT
      exact gx_iret (pc := 48) d_Plan_chosenMethod_48 rfl rfl
    · have hT := tx_ifn h1 hT
      refine gx_aload_n (pc := 6) 0 d_Plan_chosenMethod_6 rfl rfl ?_
      refine gx_iload_n (pc := 7) 2 d_Plan_chosenMethod_7 rfl rfl ?_
      refine gx_iload_n (pc := 8) 3 d_Plan_chosenMethod_8 rfl rfl ?_
      obtain ⟨r3, σ2, cσ2, hT⟩ := tx_ci_some hT
      refine gx_callV (pc := 9) (As := [.int x2, .int x3]) (rest := []) cm_Plan_isUnder lk_Plan_65 (fx_Plan_isUnder_c l E σ x2 x3 _ cσ2) (rfl) (by decide) rfl rfl tx_fi_Plan_chosenMethod_Plan_isUnder (Nat.le_of_ble_eq_true rfl) d_Plan_chosenMethod_9 ?_
      change gx l E mi_Plan_chosenMethod _ σ2 [(0, .ref (E.1 1)), (1, .int x1), (2, .int x2), (3, .int x3)] 12 [.int r3]
      refine gx_if_eq (pc := 12) 29 d_Plan_chosenMethod_12 rfl (fun h4 => ?_) (fun h4 => ?_)
      · have hT := tx_ifp h4 hT
        refine gx_iconst (pc := 29) (-1 : Int32) d_Plan_chosenMethod_29 (by decide) ?_
        exact fx_Plan_chosenMethod_b30_w (fx_Plan_chosenMethod_b2 n) (ih) σ2 x1 x2 x3 (-1 : Int32) _ hT
      · have hT := tx_ifn h4 hT
        refine gx_aload_n (pc := 15) 0 d_Plan_chosenMethod_15 rfl rfl ?_
        refine gx_iload_n (pc := 16) 3 d_Plan_chosenMethod_16 rfl rfl ?_
        refine gx_aload_n (pc := 17) 0 d_Plan_chosenMethod_17 rfl rfl ?_
        refine gx_getR (pc := 18) 9 fl_Plan_33 d_Plan_chosenMethod_18 (rfl) (by decide) rfl ?_
        refine gx_iload_n (pc := 21) 1 d_Plan_chosenMethod_21 rfl rfl ?_
        obtain ⟨v5, gv5, iv5, hT⟩ := tx_rd_some hT
        refine gx_iald (pc := 22) v5 d_Plan_chosenMethod_22 (rfl) iv5 gv5 ?_
        obtain ⟨r7, σ6, cσ6, hT⟩ := tx_ci_some hT
        refine gx_callV (pc := 23) (As := [.int x3, .int v5]) (rest := []) cm_Plan_methodNamed lk_Plan_72 (fx_Plan_methodNamed_c l E σ2 x3 v5 _ cσ6) (rfl) (by decide) rfl rfl tx_fi_Plan_chosenMethod_Plan_methodNamed (Nat.le_of_ble_eq_true rfl) d_Plan_chosenMethod_23 ?_
        change gx l E mi_Plan_chosenMethod _ σ6 [(0, .ref (E.1 1)), (1, .int x1), (2, .int x2), (3, .int x3)] 26 [.int r7]
        refine gx_goto (pc := 26) 30 d_Plan_chosenMethod_26 rfl ?_
        exact fx_Plan_chosenMethod_b30_w (fx_Plan_chosenMethod_b2 n) (ih) σ6 x1 x2 x3 r7 _ hT
set_option maxRecDepth 100000 in
set_option maxHeartbeats 4000000 in
theorem fx_Plan_chosenMethod_c (l : Launch) (E : tx_E) (σ : tx_St) (x1 : Int32) (x2 : Int32) (t : Int32 × tx_St) (hT : fx_Plan_chosenMethod σ x1 x2 = some t) : tx_MX l E y_Plan_chosenMethod mi_Plan_chosenMethod (some (.int t.1), t.2) [.ref (E.1 1), .int x1, .int x2] σ := by
  refine tx_MX_of (by decide) rfl (Nat.le_of_ble_eq_true rfl) ?_
  show gx l E mi_Plan_chosenMethod (some (.int t.1), t.2) σ [(0, .ref (E.1 1)), (1, .int x1), (2, .int x2)] 0 []
  unfold fx_Plan_chosenMethod at hT
  refine gx_iload_n (pc := 0) 2 d_Plan_chosenMethod_0 rfl rfl ?_
  refine gx_istore_n (pc := 1) [(3, .int x2), (0, .ref (E.1 1)), (1, .int x1), (2, .int x2)] d_Plan_chosenMethod_1 rfl (Nat.le_of_ble_eq_true rfl) rfl ?_
  refine gx_sub [1, 2, 3, 0] rfl ?_
  exact fx_Plan_chosenMethod_b2_w  tx_fu σ x1 x2 x2 _ hT
theorem d_Machine_enter_0 : decode c_Machine_enter 0 = .ok (.aload_n 0, 1) := by decide +kernel
theorem d_Machine_enter_1 : decode c_Machine_enter 1 = .ok (.getfield 17, 3) := by decide +kernel
theorem d_Machine_enter_4 : decode c_Machine_enter 4 = .ok (.iload_n 1, 1) := by decide +kernel
theorem d_Machine_enter_5 : decode c_Machine_enter 5 = .ok (.invokevirtual 44, 3) := by decide +kernel
theorem d_Machine_enter_8 : decode c_Machine_enter 8 = .ok (.istore 4, 2) := by decide +kernel
theorem d_Machine_enter_10 : decode c_Machine_enter 10 = .ok (.aload_n 0, 1) := by decide +kernel
theorem d_Machine_enter_11 : decode c_Machine_enter 11 = .ok (.getfield 11, 3) := by decide +kernel
theorem d_Machine_enter_14 : decode c_Machine_enter 14 = .ok (.aload_n 0, 1) := by decide +kernel
theorem d_Machine_enter_15 : decode c_Machine_enter 15 = .ok (.getfield 26, 3) := by decide +kernel
theorem d_Machine_enter_18 : decode c_Machine_enter 18 = .ok (.aaload, 1) := by decide +kernel
theorem d_Machine_enter_19 : decode c_Machine_enter 19 = .ok (.astore 5, 2) := by decide +kernel
theorem d_Machine_enter_21 : decode c_Machine_enter 21 = .ok (.aload_n 0, 1) := by decide +kernel
theorem d_Machine_enter_22 : decode c_Machine_enter 22 = .ok (.dup, 1) := by decide +kernel
theorem d_Machine_enter_23 : decode c_Machine_enter 23 = .ok (.getfield 26, 3) := by decide +kernel
theorem d_Machine_enter_26 : decode c_Machine_enter 26 = .ok (.iconst (1), 1) := by decide +kernel
theorem d_Machine_enter_27 : decode c_Machine_enter 27 = .ok (.iadd, 1) := by decide +kernel
theorem d_Machine_enter_28 : decode c_Machine_enter 28 = .ok (.putfield 26, 3) := by decide +kernel
theorem d_Machine_enter_31 : decode c_Machine_enter 31 = .ok (.iload 4, 2) := by decide +kernel
theorem d_Machine_enter_33 : decode c_Machine_enter 33 = .ok (.ifCond .eq (20), 3) := by decide +kernel
theorem d_Machine_enter_36 : decode c_Machine_enter 36 = .ok (.aload 5, 2) := by decide +kernel
theorem d_Machine_enter_38 : decode c_Machine_enter 38 = .ok (.iload_n 1, 1) := by decide +kernel
theorem d_Machine_enter_39 : decode c_Machine_enter 39 = .ok (.invokevirtual 50, 3) := by decide +kernel
theorem d_Machine_enter_42 : decode c_Machine_enter 42 = .ok (.aload 5, 2) := by decide +kernel
theorem d_Machine_enter_44 : decode c_Machine_enter 44 = .ok (.getfield 54, 3) := by decide +kernel
theorem d_Machine_enter_47 : decode c_Machine_enter 47 = .ok (.iconst (0), 1) := by decide +kernel
theorem d_Machine_enter_48 : decode c_Machine_enter 48 = .ok (.iload_n 3, 1) := by decide +kernel
theorem d_Machine_enter_49 : decode c_Machine_enter 49 = .ok (.iastore, 1) := by decide +kernel
theorem d_Machine_enter_50 : decode c_Machine_enter 50 = .ok (.goto (43), 3) := by decide +kernel
theorem d_Machine_enter_53 : decode c_Machine_enter 53 = .ok (.aload 5, 2) := by decide +kernel
theorem d_Machine_enter_55 : decode c_Machine_enter 55 = .ok (.aload_n 0, 1) := by decide +kernel
theorem d_Machine_enter_56 : decode c_Machine_enter 56 = .ok (.getfield 17, 3) := by decide +kernel
theorem d_Machine_enter_59 : decode c_Machine_enter 59 = .ok (.iload_n 1, 1) := by decide +kernel
theorem d_Machine_enter_60 : decode c_Machine_enter 60 = .ok (.aload_n 0, 1) := by decide +kernel
theorem d_Machine_enter_61 : decode c_Machine_enter 61 = .ok (.getfield 21, 3) := by decide +kernel
theorem d_Machine_enter_64 : decode c_Machine_enter 64 = .ok (.getfield 58, 3) := by decide +kernel
theorem d_Machine_enter_67 : decode c_Machine_enter 67 = .ok (.iload_n 2, 1) := by decide +kernel
theorem d_Machine_enter_68 : decode c_Machine_enter 68 = .ok (.iaload, 1) := by decide +kernel
theorem d_Machine_enter_69 : decode c_Machine_enter 69 = .ok (.iconst (2), 1) := by decide +kernel
theorem d_Machine_enter_70 : decode c_Machine_enter 70 = .ok (.isub, 1) := by decide +kernel
theorem d_Machine_enter_71 : decode c_Machine_enter 71 = .ok (.invokevirtual 63, 3) := by decide +kernel
theorem d_Machine_enter_74 : decode c_Machine_enter 74 = .ok (.invokevirtual 50, 3) := by decide +kernel
theorem d_Machine_enter_77 : decode c_Machine_enter 77 = .ok (.aload 5, 2) := by decide +kernel
theorem d_Machine_enter_79 : decode c_Machine_enter 79 = .ok (.getfield 54, 3) := by decide +kernel
theorem d_Machine_enter_82 : decode c_Machine_enter 82 = .ok (.iconst (0), 1) := by decide +kernel
theorem d_Machine_enter_83 : decode c_Machine_enter 83 = .ok (.iload_n 2, 1) := by decide +kernel
theorem d_Machine_enter_84 : decode c_Machine_enter 84 = .ok (.iastore, 1) := by decide +kernel
theorem d_Machine_enter_85 : decode c_Machine_enter 85 = .ok (.aload 5, 2) := by decide +kernel
theorem d_Machine_enter_87 : decode c_Machine_enter 87 = .ok (.getfield 54, 3) := by decide +kernel
theorem d_Machine_enter_90 : decode c_Machine_enter 90 = .ok (.iconst (1), 1) := by decide +kernel
theorem d_Machine_enter_91 : decode c_Machine_enter 91 = .ok (.iload_n 3, 1) := by decide +kernel
theorem d_Machine_enter_92 : decode c_Machine_enter 92 = .ok (.iastore, 1) := by decide +kernel
theorem d_Machine_enter_93 : decode c_Machine_enter 93 = .ok (.return_, 1) := by decide +kernel
def fx_Machine_enter_b93 (σ : tx_St) : Option tx_St := some σ
def fx_Machine_enter (σ : tx_St) (x1 : Int32) (x2 : Int32) (x3 : Int32) : Option tx_St := tx_ci (fx_Plan_isStaticMethod σ x1) fun r2 σ1 => tx_rf (σ1 25 5) fun q3 => tx_pt σ1 25 5 ((σ1 25 5) + (1 : Int32)) fun σ4 => (if r2 = 0 then tx_rd σ4 22 321 x2 fun v6 => tx_ci (fx_Plan_chosenMethod σ4 x1 (v6 - (2 : Int32))) fun r8 σ7 => tx_cv (fx_Frame_begin σ7 q3 r8) fun σ9 => tx_wr σ9 (q3 + 1) 3 (0 : Int32) x2 fun σ10 => tx_wr σ10 (q3 + 1) 3 (1 : Int32) x3 fun σ11 => fx_Machine_enter_b93  σ11 else tx_cv (fx_Frame_begin σ4 q3 x1) fun σ12 => tx_wr σ12 (q3 + 1) 3 (0 : Int32) x3 fun σ13 => fx_Machine_enter_b93  σ13)
set_option maxRecDepth 100000 in
set_option maxHeartbeats 4000000 in
theorem fx_Machine_enter_b93_w {l : Launch} {E : tx_E} (σ : tx_St) (t : tx_St) (hT : fx_Machine_enter_b93 σ  = some t) : gx l E mi_Machine_enter (none, t) σ [] 93 [] := by
  unfold fx_Machine_enter_b93 at hT
  cases hT
  exact gx_vret (pc := 93) d_Machine_enter_93 rfl rfl
set_option maxRecDepth 100000 in
set_option maxHeartbeats 4000000 in
theorem fx_Machine_enter_c (l : Launch) (E : tx_E) (σ : tx_St) (x1 : Int32) (x2 : Int32) (x3 : Int32) (t : tx_St) (hT : fx_Machine_enter σ x1 x2 x3 = some t) : tx_MX l E y_Machine_enter mi_Machine_enter (none, t) [.ref (E.1 25), .int x1, .int x2, .int x3] σ := by
  refine tx_MX_of (by decide) rfl (Nat.le_of_ble_eq_true rfl) ?_
  show gx l E mi_Machine_enter (none, t) σ [(0, .ref (E.1 25)), (1, .int x1), (2, .int x2), (3, .int x3)] 0 []
  unfold fx_Machine_enter at hT
  refine gx_aload_n (pc := 0) 0 d_Machine_enter_0 rfl rfl ?_
  refine gx_getR (pc := 1) 1 fl_Machine_17 d_Machine_enter_1 (rfl) (by decide) rfl ?_
  refine gx_iload_n (pc := 4) 1 d_Machine_enter_4 rfl rfl ?_
  obtain ⟨r2, σ1, cσ1, hT⟩ := tx_ci_some hT
  refine gx_callV (pc := 5) (As := [.int x1]) (rest := []) cm_Plan_isStaticMethod lk_Machine_44 (fx_Plan_isStaticMethod_c l E σ x1 _ cσ1) (rfl) (by decide) rfl rfl tx_fi_Machine_enter_Plan_isStaticMethod (Nat.le_of_ble_eq_true rfl) d_Machine_enter_5 ?_
  change gx l E mi_Machine_enter _ σ1 [(0, .ref (E.1 25)), (1, .int x1), (2, .int x2), (3, .int x3)] 8 [.int r2]
  refine gx_istore (pc := 8) [(4, .int r2), (0, .ref (E.1 25)), (1, .int x1), (2, .int x2), (3, .int x3)] d_Machine_enter_8 (Nat.le_of_ble_eq_true rfl) rfl ?_
  refine gx_aload_n (pc := 10) 1 d_Machine_enter_10 rfl rfl ?_
  refine gx_getR (pc := 11) 26 fl_Machine_11 d_Machine_enter_11 (rfl) (by decide) rfl ?_
  refine gx_aload_n (pc := 14) 1 d_Machine_enter_14 rfl rfl ?_
  refine gx_getI (pc := 15) (σ1 25 5) fl_Machine_26 d_Machine_enter_15 (rfl) (by decide) rfl rfl ?_
  obtain ⟨q3, gq3, iq3, fq3, hT⟩ := tx_rf_some hT
  refine gx_aald (pc := 18) d_Machine_enter_18 (rfl) iq3 gq3 ?_
  refine gx_astore (pc := 19) [(5, .ref (E.1 q3)), (4, .int r2), (0, .ref (E.1 25)), (1, .int x1), (2, .int x2), (3, .int x3)] d_Machine_enter_19 (Nat.le_of_ble_eq_true rfl) rfl ?_
  refine gx_aload_n (pc := 21) 2 d_Machine_enter_21 rfl rfl ?_
  refine gx_dup (pc := 22) d_Machine_enter_22 rfl ?_
  refine gx_getI (pc := 23) (σ1 25 5) fl_Machine_26 d_Machine_enter_23 (rfl) (by decide) rfl rfl ?_
  refine gx_iconst (pc := 26) (1 : Int32) d_Machine_enter_26 (by decide) ?_
  refine gx_iadd (pc := 27) d_Machine_enter_27 ?_
  obtain ⟨σ4, gσ4, hT⟩ := tx_pt_some hT
  refine gx_putI (pc := 28) fp_Machine_26 d_Machine_enter_28 (rfl) (by decide) rfl ?_
  rw [gσ4]
  refine gx_iload (pc := 31) 1 d_Machine_enter_31 rfl ?_
  refine gx_if_eq (pc := 33) 53 d_Machine_enter_33 rfl (fun h5 => ?_) (fun h5 => ?_)
  · have hT := tx_ifp h5 hT
    refine gx_aload (pc := 53) 0 d_Machine_enter_53 rfl ?_
    refine gx_aload_n (pc := 55) 2 d_Machine_enter_55 rfl rfl ?_
    refine gx_getR (pc := 56) 1 fl_Machine_17 d_Machine_enter_56 (rfl) (by decide) rfl ?_
    refine gx_iload_n (pc := 59) 3 d_Machine_enter_59 rfl rfl ?_
    refine gx_aload_n (pc := 60) 2 d_Machine_enter_60 rfl rfl ?_
    refine gx_getR (pc := 61) 21 fl_Machine_21 d_Machine_enter_61 (rfl) (by decide) rfl ?_
    refine gx_getR (pc := 64) 22 fl_Machine_58 d_Machine_enter_64 (rfl) (by decide) rfl ?_
    refine gx_iload_n (pc := 67) 4 d_Machine_enter_67 rfl rfl ?_
    obtain ⟨v6, gv6, iv6, hT⟩ := tx_rd_some hT
    refine gx_iald (pc := 68) v6 d_Machine_enter_68 (rfl) iv6 gv6 ?_
    refine gx_iconst (pc := 69) (2 : Int32) d_Machine_enter_69 (by decide) ?_
    refine gx_isub (pc := 70) d_Machine_enter_70 ?_
    obtain ⟨r8, σ7, cσ7, hT⟩ := tx_ci_some hT
    refine gx_callV (pc := 71) (As := [.int x1, .int (v6 - (2 : Int32))]) (rest := [.ref (E.1 q3)]) cm_Plan_chosenMethod lk_Machine_63 (fx_Plan_chosenMethod_c l E σ4 x1 (v6 - (2 : Int32)) _ cσ7) (rfl) (by decide) rfl rfl tx_fi_Machine_enter_Plan_chosenMethod (Nat.le_of_ble_eq_true rfl) d_Machine_enter_71 ?_
    change gx l E mi_Machine_enter _ σ7 [(5, .ref (E.1 q3)), (4, .int r2), (0, .ref (E.1 25)), (1, .int x1), (2, .int x2), (3, .int x3)] 74 [.int r8, .ref (E.1 q3)]
    obtain ⟨σ9, cσ9, hT⟩ := tx_cv_some hT
    refine gx_callV (pc := 74) (As := [.int r8]) (rest := []) cm_Frame_begin lk_Machine_50 (fx_Frame_begin_c l E σ7 q3 r8 fq3 _ cσ9) (tx_fr0 fq3) (by decide) rfl rfl tx_fi_Machine_enter_Frame_begin (Nat.le_of_ble_eq_true rfl) d_Machine_enter_74 ?_
    change gx l E mi_Machine_enter _ σ9 [(5, .ref (E.1 q3)), (4, .int r2), (0, .ref (E.1 25)), (1, .int x1), (2, .int x2), (3, .int x3)] 77 []
    refine gx_aload (pc := 77) 0 d_Machine_enter_77 rfl ?_
    refine gx_getR (pc := 79) (q3 + 1) fl_Machine_54 d_Machine_enter_79 (tx_fr0 fq3) (by decide) rfl ?_
    refine gx_iconst (pc := 82) (0 : Int32) d_Machine_enter_82 (by decide) ?_
    refine gx_iload_n (pc := 83) 4 d_Machine_enter_83 rfl rfl ?_
    obtain ⟨σ10, gσ10, iσ10, hT⟩ := tx_wr_some hT
    refine gx_iast (pc := 84) d_Machine_enter_84 (tx_fr1 fq3) iσ10 ?_
    rw [gσ10]
    refine gx_aload (pc := 85) 0 d_Machine_enter_85 rfl ?_
    refine gx_getR (pc := 87) (q3 + 1) fl_Machine_54 d_Machine_enter_87 (tx_fr0 fq3) (by decide) rfl ?_
    refine gx_iconst (pc := 90) (1 : Int32) d_Machine_enter_90 (by decide) ?_
    refine gx_iload_n (pc := 91) 5 d_Machine_enter_91 rfl rfl ?_
    obtain ⟨σ11, gσ11, iσ11, hT⟩ := tx_wr_some hT
    refine gx_iast (pc := 92) d_Machine_enter_92 (tx_fr1 fq3) iσ11 ?_
    rw [gσ11]
    refine gx_sub [] rfl ?_
    exact fx_Machine_enter_b93_w  σ11 _ hT
  · have hT := tx_ifn h5 hT
    refine gx_aload (pc := 36) 0 d_Machine_enter_36 rfl ?_
    refine gx_iload_n (pc := 38) 3 d_Machine_enter_38 rfl rfl ?_
    obtain ⟨σ12, cσ12, hT⟩ := tx_cv_some hT
    refine gx_callV (pc := 39) (As := [.int x1]) (rest := []) cm_Frame_begin lk_Machine_50 (fx_Frame_begin_c l E σ4 q3 x1 fq3 _ cσ12) (tx_fr0 fq3) (by decide) rfl rfl tx_fi_Machine_enter_Frame_begin (Nat.le_of_ble_eq_true rfl) d_Machine_enter_39 ?_
    change gx l E mi_Machine_enter _ σ12 [(5, .ref (E.1 q3)), (4, .int r2), (0, .ref (E.1 25)), (1, .int x1), (2, .int x2), (3, .int x3)] 42 []
    refine gx_aload (pc := 42) 0 d_Machine_enter_42 rfl ?_
    refine gx_getR (pc := 44) (q3 + 1) fl_Machine_54 d_Machine_enter_44 (tx_fr0 fq3) (by decide) rfl ?_
    refine gx_iconst (pc := 47) (0 : Int32) d_Machine_enter_47 (by decide) ?_
    refine gx_iload_n (pc := 48) 5 d_Machine_enter_48 rfl rfl ?_
    obtain ⟨σ13, gσ13, iσ13, hT⟩ := tx_wr_some hT
    refine gx_iast (pc := 49) d_Machine_enter_49 (tx_fr1 fq3) iσ13 ?_
    rw [gσ13]
    refine gx_goto (pc := 50) 93 d_Machine_enter_50 rfl ?_
    refine gx_sub [] rfl ?_
    exact fx_Machine_enter_b93_w  σ13 _ hT
theorem d_Frame_push_0 : decode c_Frame_push 0 = .ok (.aload_n 0, 1) := by decide +kernel
theorem d_Frame_push_1 : decode c_Frame_push 1 = .ok (.getfield 15, 3) := by decide +kernel
theorem d_Frame_push_4 : decode c_Frame_push 4 = .ok (.aload_n 0, 1) := by decide +kernel
theorem d_Frame_push_5 : decode c_Frame_push 5 = .ok (.getfield 25, 3) := by decide +kernel
theorem d_Frame_push_8 : decode c_Frame_push 8 = .ok (.iload_n 1, 1) := by decide +kernel
theorem d_Frame_push_9 : decode c_Frame_push 9 = .ok (.iastore, 1) := by decide +kernel
theorem d_Frame_push_10 : decode c_Frame_push 10 = .ok (.aload_n 0, 1) := by decide +kernel
theorem d_Frame_push_11 : decode c_Frame_push 11 = .ok (.dup, 1) := by decide +kernel
theorem d_Frame_push_12 : decode c_Frame_push 12 = .ok (.getfield 25, 3) := by decide +kernel
theorem d_Frame_push_15 : decode c_Frame_push 15 = .ok (.iconst (1), 1) := by decide +kernel
theorem d_Frame_push_16 : decode c_Frame_push 16 = .ok (.iadd, 1) := by decide +kernel
theorem d_Frame_push_17 : decode c_Frame_push 17 = .ok (.putfield 25, 3) := by decide +kernel
theorem d_Frame_push_20 : decode c_Frame_push 20 = .ok (.return_, 1) := by decide +kernel
def fx_Frame_push (σ : tx_St) (x0 : Nat) (x1 : Int32) : Option tx_St := tx_wr σ (x0 + 2) 4 (σ x0 4) x1 fun σ1 => tx_pt σ1 x0 4 ((σ1 x0 4) + (1 : Int32)) fun σ2 => some σ2
set_option maxRecDepth 100000 in
set_option maxHeartbeats 4000000 in
theorem fx_Frame_push_c (l : Launch) (E : tx_E) (σ : tx_St) (x0 : Nat) (x1 : Int32) (hx0 : tx_isFr x0) (t : tx_St) (hT : fx_Frame_push σ x0 x1 = some t) : tx_MX l E y_Frame_push mi_Frame_push (none, t) [.ref (E.1 x0), .int x1] σ := by
  refine tx_MX_of (by decide) rfl (Nat.le_of_ble_eq_true rfl) ?_
  show gx l E mi_Frame_push (none, t) σ [(0, .ref (E.1 x0)), (1, .int x1)] 0 []
  unfold fx_Frame_push at hT
  refine gx_aload_n (pc := 0) 0 d_Frame_push_0 rfl rfl ?_
  refine gx_getR (pc := 1) (x0 + 2) fl_Frame_15 d_Frame_push_1 (tx_fr0 hx0) (by decide) rfl ?_
  refine gx_aload_n (pc := 4) 0 d_Frame_push_4 rfl rfl ?_
  refine gx_getI (pc := 5) (σ x0 4) fl_Frame_25 d_Frame_push_5 (tx_fr0 hx0) (by decide) rfl rfl ?_
  refine gx_iload_n (pc := 8) 1 d_Frame_push_8 rfl rfl ?_
  obtain ⟨σ1, gσ1, iσ1, hT⟩ := tx_wr_some hT
  refine gx_iast (pc := 9) d_Frame_push_9 (tx_fr2 hx0) iσ1 ?_
  rw [gσ1]
  refine gx_aload_n (pc := 10) 0 d_Frame_push_10 rfl rfl ?_
  refine gx_dup (pc := 11) d_Frame_push_11 rfl ?_
  refine gx_getI (pc := 12) (σ1 x0 4) fl_Frame_25 d_Frame_push_12 (tx_fr0 hx0) (by decide) rfl rfl ?_
  refine gx_iconst (pc := 15) (1 : Int32) d_Frame_push_15 (by decide) ?_
  refine gx_iadd (pc := 16) d_Frame_push_16 ?_
  obtain ⟨σ2, gσ2, hT⟩ := tx_pt_some hT
  refine gx_putI (pc := 17) fp_Frame_25 d_Frame_push_17 (tx_fr0 hx0) (by decide) rfl ?_
  rw [gσ2]
  cases hT
  exact gx_vret (pc := 20) d_Frame_push_20 rfl rfl
theorem d_Frame_pop_0 : decode c_Frame_pop 0 = .ok (.aload_n 0, 1) := by decide +kernel
theorem d_Frame_pop_1 : decode c_Frame_pop 1 = .ok (.dup, 1) := by decide +kernel
theorem d_Frame_pop_2 : decode c_Frame_pop 2 = .ok (.getfield 25, 3) := by decide +kernel
theorem d_Frame_pop_5 : decode c_Frame_pop 5 = .ok (.iconst (1), 1) := by decide +kernel
theorem d_Frame_pop_6 : decode c_Frame_pop 6 = .ok (.isub, 1) := by decide +kernel
theorem d_Frame_pop_7 : decode c_Frame_pop 7 = .ok (.putfield 25, 3) := by decide +kernel
theorem d_Frame_pop_10 : decode c_Frame_pop 10 = .ok (.aload_n 0, 1) := by decide +kernel
theorem d_Frame_pop_11 : decode c_Frame_pop 11 = .ok (.getfield 15, 3) := by decide +kernel
theorem d_Frame_pop_14 : decode c_Frame_pop 14 = .ok (.aload_n 0, 1) := by decide +kernel
theorem d_Frame_pop_15 : decode c_Frame_pop 15 = .ok (.getfield 25, 3) := by decide +kernel
theorem d_Frame_pop_18 : decode c_Frame_pop 18 = .ok (.iaload, 1) := by decide +kernel
theorem d_Frame_pop_19 : decode c_Frame_pop 19 = .ok (.ireturn, 1) := by decide +kernel
def fx_Frame_pop (σ : tx_St) (x0 : Nat) : Option (Int32 × tx_St) := tx_pt σ x0 4 ((σ x0 4) - (1 : Int32)) fun σ1 => tx_rd σ1 (x0 + 2) 4 (σ1 x0 4) fun v2 => some (v2, σ1)
set_option maxRecDepth 100000 in
set_option maxHeartbeats 4000000 in
theorem fx_Frame_pop_c (l : Launch) (E : tx_E) (σ : tx_St) (x0 : Nat) (hx0 : tx_isFr x0) (t : Int32 × tx_St) (hT : fx_Frame_pop σ x0 = some t) : tx_MX l E y_Frame_pop mi_Frame_pop (some (.int t.1), t.2) [.ref (E.1 x0)] σ := by
  refine tx_MX_of (by decide) rfl (Nat.le_of_ble_eq_true rfl) ?_
  show gx l E mi_Frame_pop (some (.int t.1), t.2) σ [(0, .ref (E.1 x0))] 0 []
  unfold fx_Frame_pop at hT
  refine gx_aload_n (pc := 0) 0 d_Frame_pop_0 rfl rfl ?_
  refine gx_dup (pc := 1) d_Frame_pop_1 rfl ?_
  refine gx_getI (pc := 2) (σ x0 4) fl_Frame_25 d_Frame_pop_2 (tx_fr0 hx0) (by decide) rfl rfl ?_
  refine gx_iconst (pc := 5) (1 : Int32) d_Frame_pop_5 (by decide) ?_
  refine gx_isub (pc := 6) d_Frame_pop_6 ?_
  obtain ⟨σ1, gσ1, hT⟩ := tx_pt_some hT
  refine gx_putI (pc := 7) fp_Frame_25 d_Frame_pop_7 (tx_fr0 hx0) (by decide) rfl ?_
  rw [gσ1]
  refine gx_aload_n (pc := 10) 0 d_Frame_pop_10 rfl rfl ?_
  refine gx_getR (pc := 11) (x0 + 2) fl_Frame_15 d_Frame_pop_11 (tx_fr0 hx0) (by decide) rfl ?_
  refine gx_aload_n (pc := 14) 0 d_Frame_pop_14 rfl rfl ?_
  refine gx_getI (pc := 15) (σ1 x0 4) fl_Frame_25 d_Frame_pop_15 (tx_fr0 hx0) (by decide) rfl rfl ?_
  obtain ⟨v2, gv2, iv2, hT⟩ := tx_rd_some hT
  refine gx_iald (pc := 18) v2 d_Frame_pop_18 (tx_fr2 hx0) iv2 gv2 ?_
  cases hT
  exact gx_iret (pc := 19) d_Frame_pop_19 rfl rfl
theorem d_Machine_combine_0 : decode c_Machine_combine 0 = .ok (.aload_n 1, 1) := by decide +kernel
theorem d_Machine_combine_1 : decode c_Machine_combine 1 = .ok (.invokevirtual 82, 3) := by decide +kernel
theorem d_Machine_combine_4 : decode c_Machine_combine 4 = .ok (.istore_n 3, 1) := by decide +kernel
theorem d_Machine_combine_5 : decode c_Machine_combine 5 = .ok (.aload_n 1, 1) := by decide +kernel
theorem d_Machine_combine_6 : decode c_Machine_combine 6 = .ok (.invokevirtual 82, 3) := by decide +kernel
theorem d_Machine_combine_9 : decode c_Machine_combine 9 = .ok (.istore 4, 2) := by decide +kernel
theorem d_Machine_combine_11 : decode c_Machine_combine 11 = .ok (.iload_n 2, 1) := by decide +kernel
theorem d_Machine_combine_12 : decode c_Machine_combine 12 = .ok (.iconst (3), 1) := by decide +kernel
theorem d_Machine_combine_13 : decode c_Machine_combine 13 = .ok (.if_icmp .ne (11), 3) := by decide +kernel
theorem d_Machine_combine_16 : decode c_Machine_combine 16 = .ok (.aload_n 1, 1) := by decide +kernel
theorem d_Machine_combine_17 : decode c_Machine_combine 17 = .ok (.iload 4, 2) := by decide +kernel
theorem d_Machine_combine_19 : decode c_Machine_combine 19 = .ok (.iload_n 3, 1) := by decide +kernel
theorem d_Machine_combine_20 : decode c_Machine_combine 20 = .ok (.iadd, 1) := by decide +kernel
theorem d_Machine_combine_21 : decode c_Machine_combine 21 = .ok (.invokevirtual 79, 3) := by decide +kernel
theorem d_Machine_combine_24 : decode c_Machine_combine 24 = .ok (.iload_n 2, 1) := by decide +kernel
theorem d_Machine_combine_25 : decode c_Machine_combine 25 = .ok (.iconst (4), 1) := by decide +kernel
theorem d_Machine_combine_26 : decode c_Machine_combine 26 = .ok (.if_icmp .ne (11), 3) := by decide +kernel
theorem d_Machine_combine_29 : decode c_Machine_combine 29 = .ok (.aload_n 1, 1) := by decide +kernel
theorem d_Machine_combine_30 : decode c_Machine_combine 30 = .ok (.iload 4, 2) := by decide +kernel
theorem d_Machine_combine_32 : decode c_Machine_combine 32 = .ok (.iload_n 3, 1) := by decide +kernel
theorem d_Machine_combine_33 : decode c_Machine_combine 33 = .ok (.isub, 1) := by decide +kernel
theorem d_Machine_combine_34 : decode c_Machine_combine 34 = .ok (.invokevirtual 79, 3) := by decide +kernel
theorem d_Machine_combine_37 : decode c_Machine_combine 37 = .ok (.iload_n 2, 1) := by decide +kernel
theorem d_Machine_combine_38 : decode c_Machine_combine 38 = .ok (.bipush (16), 2) := by decide +kernel
theorem d_Machine_combine_40 : decode c_Machine_combine 40 = .ok (.if_icmp .ne (18), 3) := by decide +kernel
theorem d_Machine_combine_43 : decode c_Machine_combine 43 = .ok (.aload_n 1, 1) := by decide +kernel
theorem d_Machine_combine_44 : decode c_Machine_combine 44 = .ok (.iload 4, 2) := by decide +kernel
theorem d_Machine_combine_46 : decode c_Machine_combine 46 = .ok (.iload_n 3, 1) := by decide +kernel
theorem d_Machine_combine_47 : decode c_Machine_combine 47 = .ok (.if_icmp .ne (7), 3) := by decide +kernel
theorem d_Machine_combine_50 : decode c_Machine_combine 50 = .ok (.iconst (1), 1) := by decide +kernel
theorem d_Machine_combine_51 : decode c_Machine_combine 51 = .ok (.goto (4), 3) := by decide +kernel
theorem d_Machine_combine_54 : decode c_Machine_combine 54 = .ok (.iconst (0), 1) := by decide +kernel
theorem d_Machine_combine_55 : decode c_Machine_combine 55 = .ok (.invokevirtual 79, 3) := by decide +kernel
theorem d_Machine_combine_58 : decode c_Machine_combine 58 = .ok (.iconst (0), 1) := by decide +kernel
theorem d_Machine_combine_59 : decode c_Machine_combine 59 = .ok (.ireturn, 1) := by decide +kernel
def fx_Machine_combine_b58 (σ : tx_St) : Option (Int32 × tx_St) := some ((0 : Int32), σ)
def fx_Machine_combine_b55 (σ : tx_St) (s0 : Int32) (s1 : Nat) : Option (Int32 × tx_St) := tx_cv (fx_Frame_push σ s1 s0) fun σ11 => fx_Machine_combine_b58  σ11
def fx_Machine_combine_b37 (σ : tx_St) (x1 : Nat) (x2 : Int32) (x3 : Int32) (x4 : Int32) : Option (Int32 × tx_St) := (if x2 = (16 : Int32) then (if x4 = x3 then fx_Machine_combine_b55  σ (1 : Int32) x1 else fx_Machine_combine_b55  σ (0 : Int32) x1) else fx_Machine_combine_b58  σ)
def fx_Machine_combine_b24 (σ : tx_St) (x1 : Nat) (x2 : Int32) (x3 : Int32) (x4 : Int32) : Option (Int32 × tx_St) := (if x2 = (4 : Int32) then tx_cv (fx_Frame_push σ x1 (x4 - x3)) fun σ8 => fx_Machine_combine_b37  σ8 x1 x2 x3 x4 else fx_Machine_combine_b37  σ x1 x2 x3 x4)
def fx_Machine_combine (σ : tx_St) (x1 : Nat) (x2 : Int32) : Option (Int32 × tx_St) := tx_ci (fx_Frame_pop σ x1) fun r2 σ1 => tx_ci (fx_Frame_pop σ1 x1) fun r4 σ3 => (if x2 = (3 : Int32) then tx_cv (fx_Frame_push σ3 x1 (r4 + r2)) fun σ6 => fx_Machine_combine_b24  σ6 x1 x2 r2 r4 else fx_Machine_combine_b24  σ3 x1 x2 r2 r4)
set_option maxRecDepth 100000 in
set_option maxHeartbeats 4000000 in
theorem fx_Machine_combine_b58_w {l : Launch} {E : tx_E} (σ : tx_St) (t : Int32 × tx_St) (hT : fx_Machine_combine_b58 σ  = some t) : gx l E mi_Machine_combine (some (.int t.1), t.2) σ [] 58 [] := by
  unfold fx_Machine_combine_b58 at hT
  refine gx_iconst (pc := 58) (0 : Int32) d_Machine_combine_58 (by decide) ?_
  cases hT
  exact gx_iret (pc := 59) d_Machine_combine_59 rfl rfl
set_option maxRecDepth 100000 in
set_option maxHeartbeats 4000000 in
theorem fx_Machine_combine_b55_w {l : Launch} {E : tx_E} (σ : tx_St) (s0 : Int32) (s1 : Nat) (hs1 : tx_isFr s1) (t : Int32 × tx_St) (hT : fx_Machine_combine_b55 σ s0 s1 = some t) : gx l E mi_Machine_combine (some (.int t.1), t.2) σ [] 55 [.int s0, .ref (E.1 s1)] := by
  unfold fx_Machine_combine_b55 at hT
  obtain ⟨σ11, cσ11, hT⟩ := tx_cv_some hT
  refine gx_callV (pc := 55) (As := [.int s0]) (rest := []) cm_Frame_push lk_Machine_79 (fx_Frame_push_c l E σ s1 s0 hs1 _ cσ11) (tx_fr0 hs1) (by decide) rfl rfl tx_fi_Machine_combine_Frame_push (Nat.le_of_ble_eq_true rfl) d_Machine_combine_55 ?_
  change gx l E mi_Machine_combine _ σ11 [] 58 []
  exact fx_Machine_combine_b58_w  σ11 _ hT
set_option maxRecDepth 100000 in
set_option maxHeartbeats 4000000 in
theorem fx_Machine_combine_b37_w {l : Launch} {E : tx_E} (σ : tx_St) (x1 : Nat) (x2 : Int32) (x3 : Int32) (x4 : Int32) (hx1 : tx_isFr x1) (t : Int32 × tx_St) (hT : fx_Machine_combine_b37 σ x1 x2 x3 x4 = some t) : gx l E mi_Machine_combine (some (.int t.1), t.2) σ [(1, .ref (E.1 x1)), (2, .int x2), (3, .int x3), (4, .int x4)] 37 [] := by
  unfold fx_Machine_combine_b37 at hT
  refine gx_iload_n (pc := 37) 1 d_Machine_combine_37 rfl rfl ?_
  refine gx_bipush (pc := 38) (16 : Int32) d_Machine_combine_38 (by decide) ?_
  refine gx_icmp_ne (pc := 40) 58 d_Machine_combine_40 rfl (fun h9 => ?_) (fun h9 => ?_)
  · have hT := tx_ifn h9 hT
    refine gx_sub [] rfl ?_
    exact fx_Machine_combine_b58_w  σ _ hT
  · have hT := tx_ifp h9 hT
    refine gx_aload_n (pc := 43) 0 d_Machine_combine_43 rfl rfl ?_
    refine gx_iload (pc := 44) 3 d_Machine_combine_44 rfl ?_
    refine gx_iload_n (pc := 46) 2 d_Machine_combine_46 rfl rfl ?_
    refine gx_icmp_ne (pc := 47) 54 d_Machine_combine_47 rfl (fun h10 => ?_) (fun h10 => ?_)
    · have hT := tx_ifn h10 hT
      refine gx_iconst (pc := 54) (0 : Int32) d_Machine_combine_54 (by decide) ?_
      refine gx_sub [] rfl ?_
      exact fx_Machine_combine_b55_w  σ (0 : Int32) x1 hx1 _ hT
    · have hT := tx_ifp h10 hT
      refine gx_iconst (pc := 50) (1 : Int32) d_Machine_combine_50 (by decide) ?_
      refine gx_goto (pc := 51) 55 d_Machine_combine_51 rfl ?_
      refine gx_sub [] rfl ?_
      exact fx_Machine_combine_b55_w  σ (1 : Int32) x1 hx1 _ hT
set_option maxRecDepth 100000 in
set_option maxHeartbeats 4000000 in
theorem fx_Machine_combine_b24_w {l : Launch} {E : tx_E} (σ : tx_St) (x1 : Nat) (x2 : Int32) (x3 : Int32) (x4 : Int32) (hx1 : tx_isFr x1) (t : Int32 × tx_St) (hT : fx_Machine_combine_b24 σ x1 x2 x3 x4 = some t) : gx l E mi_Machine_combine (some (.int t.1), t.2) σ [(1, .ref (E.1 x1)), (2, .int x2), (3, .int x3), (4, .int x4)] 24 [] := by
  unfold fx_Machine_combine_b24 at hT
  refine gx_iload_n (pc := 24) 1 d_Machine_combine_24 rfl rfl ?_
  refine gx_iconst (pc := 25) (4 : Int32) d_Machine_combine_25 (by decide) ?_
  refine gx_icmp_ne (pc := 26) 37 d_Machine_combine_26 rfl (fun h7 => ?_) (fun h7 => ?_)
  · have hT := tx_ifn h7 hT
    exact fx_Machine_combine_b37_w  σ x1 x2 x3 x4 hx1 _ hT
  · have hT := tx_ifp h7 hT
    refine gx_aload_n (pc := 29) 0 d_Machine_combine_29 rfl rfl ?_
    refine gx_iload (pc := 30) 3 d_Machine_combine_30 rfl ?_
    refine gx_iload_n (pc := 32) 2 d_Machine_combine_32 rfl rfl ?_
    refine gx_isub (pc := 33) d_Machine_combine_33 ?_
    obtain ⟨σ8, cσ8, hT⟩ := tx_cv_some hT
    refine gx_callV (pc := 34) (As := [.int (x4 - x3)]) (rest := []) cm_Frame_push lk_Machine_79 (fx_Frame_push_c l E σ x1 (x4 - x3) hx1 _ cσ8) (tx_fr0 hx1) (by decide) rfl rfl tx_fi_Machine_combine_Frame_push (Nat.le_of_ble_eq_true rfl) d_Machine_combine_34 ?_
    change gx l E mi_Machine_combine _ σ8 [(1, .ref (E.1 x1)), (2, .int x2), (3, .int x3), (4, .int x4)] 37 []
    exact fx_Machine_combine_b37_w  σ8 x1 x2 x3 x4 hx1 _ hT
set_option maxRecDepth 100000 in
set_option maxHeartbeats 4000000 in
theorem fx_Machine_combine_c (l : Launch) (E : tx_E) (σ : tx_St) (x1 : Nat) (x2 : Int32) (hx1 : tx_isFr x1) (t : Int32 × tx_St) (hT : fx_Machine_combine σ x1 x2 = some t) : tx_MX l E y_Machine_combine mi_Machine_combine (some (.int t.1), t.2) [.ref (E.1 25), .ref (E.1 x1), .int x2] σ := by
  refine tx_MX_of (by decide) rfl (Nat.le_of_ble_eq_true rfl) ?_
  show gx l E mi_Machine_combine (some (.int t.1), t.2) σ [(0, .ref (E.1 25)), (1, .ref (E.1 x1)), (2, .int x2)] 0 []
  unfold fx_Machine_combine at hT
  refine gx_aload_n (pc := 0) 1 d_Machine_combine_0 rfl rfl ?_
  obtain ⟨r2, σ1, cσ1, hT⟩ := tx_ci_some hT
  refine gx_callV (pc := 1) (As := []) (rest := []) cm_Frame_pop lk_Machine_82 (fx_Frame_pop_c l E σ x1 hx1 _ cσ1) (tx_fr0 hx1) (by decide) rfl rfl tx_fi_Machine_combine_Frame_pop (Nat.le_of_ble_eq_true rfl) d_Machine_combine_1 ?_
  change gx l E mi_Machine_combine _ σ1 [(0, .ref (E.1 25)), (1, .ref (E.1 x1)), (2, .int x2)] 4 [.int r2]
  refine gx_istore_n (pc := 4) [(3, .int r2), (0, .ref (E.1 25)), (1, .ref (E.1 x1)), (2, .int x2)] d_Machine_combine_4 rfl (Nat.le_of_ble_eq_true rfl) rfl ?_
  refine gx_aload_n (pc := 5) 2 d_Machine_combine_5 rfl rfl ?_
  obtain ⟨r4, σ3, cσ3, hT⟩ := tx_ci_some hT
  refine gx_callV (pc := 6) (As := []) (rest := []) cm_Frame_pop lk_Machine_82 (fx_Frame_pop_c l E σ1 x1 hx1 _ cσ3) (tx_fr0 hx1) (by decide) rfl rfl tx_fi_Machine_combine_Frame_pop (Nat.le_of_ble_eq_true rfl) d_Machine_combine_6 ?_
  change gx l E mi_Machine_combine _ σ3 [(3, .int r2), (0, .ref (E.1 25)), (1, .ref (E.1 x1)), (2, .int x2)] 9 [.int r4]
  refine gx_istore (pc := 9) [(4, .int r4), (3, .int r2), (0, .ref (E.1 25)), (1, .ref (E.1 x1)), (2, .int x2)] d_Machine_combine_9 (Nat.le_of_ble_eq_true rfl) rfl ?_
  refine gx_iload_n (pc := 11) 4 d_Machine_combine_11 rfl rfl ?_
  refine gx_iconst (pc := 12) (3 : Int32) d_Machine_combine_12 (by decide) ?_
  refine gx_icmp_ne (pc := 13) 24 d_Machine_combine_13 rfl (fun h5 => ?_) (fun h5 => ?_)
  · have hT := tx_ifn h5 hT
    refine gx_sub [3, 4, 1, 0] rfl ?_
    exact fx_Machine_combine_b24_w  σ3 x1 x2 r2 r4 hx1 _ hT
  · have hT := tx_ifp h5 hT
    refine gx_aload_n (pc := 16) 3 d_Machine_combine_16 rfl rfl ?_
    refine gx_iload (pc := 17) 0 d_Machine_combine_17 rfl ?_
    refine gx_iload_n (pc := 19) 1 d_Machine_combine_19 rfl rfl ?_
    refine gx_iadd (pc := 20) d_Machine_combine_20 ?_
    obtain ⟨σ6, cσ6, hT⟩ := tx_cv_some hT
    refine gx_callV (pc := 21) (As := [.int (r4 + r2)]) (rest := []) cm_Frame_push lk_Machine_79 (fx_Frame_push_c l E σ3 x1 (r4 + r2) hx1 _ cσ6) (tx_fr0 hx1) (by decide) rfl rfl tx_fi_Machine_combine_Frame_push (Nat.le_of_ble_eq_true rfl) d_Machine_combine_21 ?_
    change gx l E mi_Machine_combine _ σ6 [(4, .int r4), (3, .int r2), (0, .ref (E.1 25)), (1, .ref (E.1 x1)), (2, .int x2)] 24 []
    refine gx_sub [3, 4, 1, 0] rfl ?_
    exact fx_Machine_combine_b24_w  σ6 x1 x2 r2 r4 hx1 _ hT
theorem d_Heap_newThing_0 : decode c_Heap_newThing 0 = .ok (.aload_n 0, 1) := by decide +kernel
theorem d_Heap_newThing_1 : decode c_Heap_newThing 1 = .ok (.dup, 1) := by decide +kernel
theorem d_Heap_newThing_2 : decode c_Heap_newThing 2 = .ok (.getfield 21, 3) := by decide +kernel
theorem d_Heap_newThing_5 : decode c_Heap_newThing 5 = .ok (.iconst (1), 1) := by decide +kernel
theorem d_Heap_newThing_6 : decode c_Heap_newThing 6 = .ok (.iadd, 1) := by decide +kernel
theorem d_Heap_newThing_7 : decode c_Heap_newThing 7 = .ok (.putfield 21, 3) := by decide +kernel
theorem d_Heap_newThing_10 : decode c_Heap_newThing 10 = .ok (.aload_n 0, 1) := by decide +kernel
theorem d_Heap_newThing_11 : decode c_Heap_newThing 11 = .ok (.getfield 9, 3) := by decide +kernel
theorem d_Heap_newThing_14 : decode c_Heap_newThing 14 = .ok (.aload_n 0, 1) := by decide +kernel
theorem d_Heap_newThing_15 : decode c_Heap_newThing 15 = .ok (.getfield 21, 3) := by decide +kernel
theorem d_Heap_newThing_18 : decode c_Heap_newThing 18 = .ok (.iload_n 1, 1) := by decide +kernel
theorem d_Heap_newThing_19 : decode c_Heap_newThing 19 = .ok (.iastore, 1) := by decide +kernel
theorem d_Heap_newThing_20 : decode c_Heap_newThing 20 = .ok (.aload_n 0, 1) := by decide +kernel
theorem d_Heap_newThing_21 : decode c_Heap_newThing 21 = .ok (.getfield 21, 3) := by decide +kernel
theorem d_Heap_newThing_24 : decode c_Heap_newThing 24 = .ok (.ireturn, 1) := by decide +kernel
def fx_Heap_newThing (σ : tx_St) (x1 : Int32) : Option (Int32 × tx_St) := tx_pt σ 21 3 ((σ 21 3) + (1 : Int32)) fun σ1 => tx_wr σ1 22 321 (σ1 21 3) x1 fun σ2 => some ((σ2 21 3), σ2)
set_option maxRecDepth 100000 in
set_option maxHeartbeats 4000000 in
theorem fx_Heap_newThing_c (l : Launch) (E : tx_E) (σ : tx_St) (x1 : Int32) (t : Int32 × tx_St) (hT : fx_Heap_newThing σ x1 = some t) : tx_MX l E y_Heap_newThing mi_Heap_newThing (some (.int t.1), t.2) [.ref (E.1 21), .int x1] σ := by
  refine tx_MX_of (by decide) rfl (Nat.le_of_ble_eq_true rfl) ?_
  show gx l E mi_Heap_newThing (some (.int t.1), t.2) σ [(0, .ref (E.1 21)), (1, .int x1)] 0 []
  unfold fx_Heap_newThing at hT
  refine gx_aload_n (pc := 0) 0 d_Heap_newThing_0 rfl rfl ?_
  refine gx_dup (pc := 1) d_Heap_newThing_1 rfl ?_
  refine gx_getI (pc := 2) (σ 21 3) fl_Heap_21 d_Heap_newThing_2 (rfl) (by decide) rfl rfl ?_
  refine gx_iconst (pc := 5) (1 : Int32) d_Heap_newThing_5 (by decide) ?_
  refine gx_iadd (pc := 6) d_Heap_newThing_6 ?_
  obtain ⟨σ1, gσ1, hT⟩ := tx_pt_some hT
  refine gx_putI (pc := 7) fp_Heap_21 d_Heap_newThing_7 (rfl) (by decide) rfl ?_
  rw [gσ1]
  refine gx_aload_n (pc := 10) 0 d_Heap_newThing_10 rfl rfl ?_
  refine gx_getR (pc := 11) 22 fl_Heap_9 d_Heap_newThing_11 (rfl) (by decide) rfl ?_
  refine gx_aload_n (pc := 14) 0 d_Heap_newThing_14 rfl rfl ?_
  refine gx_getI (pc := 15) (σ1 21 3) fl_Heap_21 d_Heap_newThing_15 (rfl) (by decide) rfl rfl ?_
  refine gx_iload_n (pc := 18) 1 d_Heap_newThing_18 rfl rfl ?_
  obtain ⟨σ2, gσ2, iσ2, hT⟩ := tx_wr_some hT
  refine gx_iast (pc := 19) d_Heap_newThing_19 (rfl) iσ2 ?_
  rw [gσ2]
  refine gx_aload_n (pc := 20) 0 d_Heap_newThing_20 rfl rfl ?_
  refine gx_getI (pc := 21) (σ2 21 3) fl_Heap_21 d_Heap_newThing_21 (rfl) (by decide) rfl rfl ?_
  cases hT
  exact gx_iret (pc := 24) d_Heap_newThing_24 rfl rfl
theorem d_Plan_slotOf_0 : decode c_Plan_slotOf 0 = .ok (.iconst (0), 1) := by decide +kernel
theorem d_Plan_slotOf_1 : decode c_Plan_slotOf 1 = .ok (.istore_n 3, 1) := by decide +kernel
theorem d_Plan_slotOf_2 : decode c_Plan_slotOf 2 = .ok (.iconst (0), 1) := by decide +kernel
theorem d_Plan_slotOf_3 : decode c_Plan_slotOf 3 = .ok (.istore 4, 2) := by decide +kernel
theorem d_Plan_slotOf_5 : decode c_Plan_slotOf 5 = .ok (.iload 4, 2) := by decide +kernel
theorem d_Plan_slotOf_7 : decode c_Plan_slotOf 7 = .ok (.iload_n 2, 1) := by decide +kernel
theorem d_Plan_slotOf_8 : decode c_Plan_slotOf 8 = .ok (.if_icmp .ge (22), 3) := by decide +kernel
theorem d_Plan_slotOf_11 : decode c_Plan_slotOf 11 = .ok (.aload_n 0, 1) := by decide +kernel
theorem d_Plan_slotOf_12 : decode c_Plan_slotOf 12 = .ok (.iload_n 1, 1) := by decide +kernel
theorem d_Plan_slotOf_13 : decode c_Plan_slotOf 13 = .ok (.iload 4, 2) := by decide +kernel
theorem d_Plan_slotOf_15 : decode c_Plan_slotOf 15 = .ok (.invokevirtual 69, 3) := by decide +kernel
theorem d_Plan_slotOf_18 : decode c_Plan_slotOf 18 = .ok (.ifCond .eq (6), 3) := by decide +kernel
theorem d_Plan_slotOf_21 : decode c_Plan_slotOf 21 = .ok (.iinc 3 (1), 3) := by decide +kernel
theorem d_Plan_slotOf_24 : decode c_Plan_slotOf 24 = .ok (.iinc 4 (1), 3) := by decide +kernel
theorem d_Plan_slotOf_27 : decode c_Plan_slotOf 27 = .ok (.goto (-22), 3) := by decide +kernel
theorem d_Plan_slotOf_30 : decode c_Plan_slotOf 30 = .ok (.iload_n 3, 1) := by decide +kernel
theorem d_Plan_slotOf_31 : decode c_Plan_slotOf 31 = .ok (.ireturn, 1) := by decide +kernel
def fx_Plan_slotOf_b24 (k5 : tx_St → Int32 → Int32 → Int32 → Int32 → Option (Int32 × tx_St)) (σ : tx_St) (x1 : Int32) (x2 : Int32) (x3 : Int32) (x4 : Int32) : Option (Int32 × tx_St) := k5 σ x1 x2 x3 (x4 + (1 : Int32))
def fx_Plan_slotOf_b5 : Nat → tx_St → Int32 → Int32 → Int32 → Int32 → Option (Int32 × tx_St)
  | 0, _, _, _, _, _ => none
  | n + 1, σ, x1, x2, x3, x4 => (if x2 ≤ x4 then some (x3, σ) else tx_ci (fx_Plan_owns σ x1 x4) fun r3 σ2 => (if r3 = 0 then fx_Plan_slotOf_b24 (fx_Plan_slotOf_b5 n) σ2 x1 x2 x3 x4 else fx_Plan_slotOf_b24 (fx_Plan_slotOf_b5 n) σ2 x1 x2 (x3 + (1 : Int32)) x4))
def fx_Plan_slotOf (σ : tx_St) (x1 : Int32) (x2 : Int32) : Option (Int32 × tx_St) := fx_Plan_slotOf_b5  tx_fu σ x1 x2 (0 : Int32) (0 : Int32)
set_option maxRecDepth 100000 in
set_option maxHeartbeats 4000000 in
theorem fx_Plan_slotOf_b24_w {l : Launch} {E : tx_E} (k5 : tx_St → Int32 → Int32 → Int32 → Int32 → Option (Int32 × tx_St)) (j5 : ∀ (σ : tx_St) (x1 : Int32) (x2 : Int32) (x3 : Int32) (x4 : Int32) (t : Int32 × tx_St), k5 σ x1 x2 x3 x4 = some t → gx l E mi_Plan_slotOf (some (.int t.1), t.2) σ [(0, .ref (E.1 1)), (1, .int x1), (2, .int x2), (3, .int x3), (4, .int x4)] 5 []) (σ : tx_St) (x1 : Int32) (x2 : Int32) (x3 : Int32) (x4 : Int32) (t : Int32 × tx_St) (hT : fx_Plan_slotOf_b24 k5 σ x1 x2 x3 x4 = some t) : gx l E mi_Plan_slotOf (some (.int t.1), t.2) σ [(0, .ref (E.1 1)), (1, .int x1), (2, .int x2), (3, .int x3), (4, .int x4)] 24 [] := by
  unfold fx_Plan_slotOf_b24 at hT
  refine gx_iinc (pc := 24) (x4 + (1 : Int32)) 4 [(4, .int (x4 + (1 : Int32))), (0, .ref (E.1 1)), (1, .int x1), (2, .int x2), (3, .int x3)] d_Plan_slotOf_24 rfl (tx_inc (by decide)) (Nat.le_of_ble_eq_true rfl) rfl ?_
  refine gx_goto (pc := 27) 5 d_Plan_slotOf_27 rfl ?_
  refine gx_sub [1, 2, 3, 4, 0] rfl ?_
  exact j5 σ x1 x2 x3 (x4 + (1 : Int32)) _ hT
set_option maxRecDepth 100000 in
set_option maxHeartbeats 4000000 in
theorem fx_Plan_slotOf_b5_w {l : Launch} {E : tx_E} : ∀ (n : Nat) (σ : tx_St) (x1 : Int32) (x2 : Int32) (x3 : Int32) (x4 : Int32) (t : Int32 × tx_St), fx_Plan_slotOf_b5 n σ x1 x2 x3 x4 = some t → gx l E mi_Plan_slotOf (some (.int t.1), t.2) σ [(0, .ref (E.1 1)), (1, .int x1), (2, .int x2), (3, .int x3), (4, .int x4)] 5 [] := by
  intro n
  induction n with
  | zero => intro σ x1 x2 x3 x4 t hT; cases hT
  | succ n ih =>
    intro σ x1 x2 x3 x4 t hT
    rw [fx_Plan_slotOf_b5] at hT
    refine gx_iload (pc := 5) 4 d_Plan_slotOf_5 rfl ?_
    refine gx_iload_n (pc := 7) 2 d_Plan_slotOf_7 rfl rfl ?_
    refine gx_icmp_ge (pc := 8) 30 d_Plan_slotOf_8 rfl (fun h1 => ?_) (fun h1 => ?_)
    · have hT := tx_ifp h1 hT
      refine gx_iload_n (pc := 30) 3 d_Plan_slotOf_30 rfl rfl ?_
      cases hT
      exact gx_iret (pc := 31) d_Plan_slotOf_31 rfl rfl
    · have hT := tx_ifn h1 hT
      refine gx_aload_n (pc := 11) 0 d_Plan_slotOf_11 rfl rfl ?_
      refine gx_iload_n (pc := 12) 1 d_Plan_slotOf_12 rfl rfl ?_
      refine gx_iload (pc := 13) 4 d_Plan_slotOf_13 rfl ?_
      obtain ⟨r3, σ2, cσ2, hT⟩ := tx_ci_some hT
      refine gx_callV (pc := 15) (As := [.int x1, .int x4]) (rest := []) cm_Plan_owns lk_Plan_69 (fx_Plan_owns_c l E σ x1 x4 _ cσ2) (rfl) (by decide) rfl rfl tx_fi_Plan_slotOf_Plan_owns (Nat.le_of_ble_eq_true rfl) d_Plan_slotOf_15 ?_
      change gx l E mi_Plan_slotOf _ σ2 [(0, .ref (E.1 1)), (1, .int x1), (2, .int x2), (3, .int x3), (4, .int x4)] 18 [.int r3]
      refine gx_if_eq (pc := 18) 24 d_Plan_slotOf_18 rfl (fun h4 => ?_) (fun h4 => ?_)
      · have hT := tx_ifp h4 hT
        exact fx_Plan_slotOf_b24_w (fx_Plan_slotOf_b5 n) (ih) σ2 x1 x2 x3 x4 _ hT
      · have hT := tx_ifn h4 hT
        refine gx_iinc (pc := 21) (x3 + (1 : Int32)) 3 [(3, .int (x3 + (1 : Int32))), (0, .ref (E.1 1)), (1, .int x1), (2, .int x2), (4, .int x4)] d_Plan_slotOf_21 rfl (tx_inc (by decide)) (Nat.le_of_ble_eq_true rfl) rfl ?_
        refine gx_sub [1, 2, 3, 0, 4] rfl ?_
        exact fx_Plan_slotOf_b24_w (fx_Plan_slotOf_b5 n) (ih) σ2 x1 x2 (x3 + (1 : Int32)) x4 _ hT
set_option maxRecDepth 100000 in
set_option maxHeartbeats 4000000 in
theorem fx_Plan_slotOf_c (l : Launch) (E : tx_E) (σ : tx_St) (x1 : Int32) (x2 : Int32) (t : Int32 × tx_St) (hT : fx_Plan_slotOf σ x1 x2 = some t) : tx_MX l E y_Plan_slotOf mi_Plan_slotOf (some (.int t.1), t.2) [.ref (E.1 1), .int x1, .int x2] σ := by
  refine tx_MX_of (by decide) rfl (Nat.le_of_ble_eq_true rfl) ?_
  show gx l E mi_Plan_slotOf (some (.int t.1), t.2) σ [(0, .ref (E.1 1)), (1, .int x1), (2, .int x2)] 0 []
  unfold fx_Plan_slotOf at hT
  refine gx_iconst (pc := 0) (0 : Int32) d_Plan_slotOf_0 (by decide) ?_
  refine gx_istore_n (pc := 1) [(3, .int (0 : Int32)), (0, .ref (E.1 1)), (1, .int x1), (2, .int x2)] d_Plan_slotOf_1 rfl (Nat.le_of_ble_eq_true rfl) rfl ?_
  refine gx_iconst (pc := 2) (0 : Int32) d_Plan_slotOf_2 (by decide) ?_
  refine gx_istore (pc := 3) [(4, .int (0 : Int32)), (3, .int (0 : Int32)), (0, .ref (E.1 1)), (1, .int x1), (2, .int x2)] d_Plan_slotOf_3 (Nat.le_of_ble_eq_true rfl) rfl ?_
  refine gx_sub [2, 3, 4, 1, 0] rfl ?_
  exact fx_Plan_slotOf_b5_w  tx_fu σ x1 x2 (0 : Int32) (0 : Int32) _ hT
theorem d_Heap_setSlot_0 : decode c_Heap_setSlot 0 = .ok (.aload_n 0, 1) := by decide +kernel
theorem d_Heap_setSlot_1 : decode c_Heap_setSlot 1 = .ok (.getfield 15, 3) := by decide +kernel
theorem d_Heap_setSlot_4 : decode c_Heap_setSlot 4 = .ok (.iload_n 1, 1) := by decide +kernel
theorem d_Heap_setSlot_5 : decode c_Heap_setSlot 5 = .ok (.iconst (4), 1) := by decide +kernel
theorem d_Heap_setSlot_6 : decode c_Heap_setSlot 6 = .ok (.imul, 1) := by decide +kernel
theorem d_Heap_setSlot_7 : decode c_Heap_setSlot 7 = .ok (.iload_n 2, 1) := by decide +kernel
theorem d_Heap_setSlot_8 : decode c_Heap_setSlot 8 = .ok (.iadd, 1) := by decide +kernel
theorem d_Heap_setSlot_9 : decode c_Heap_setSlot 9 = .ok (.iload_n 3, 1) := by decide +kernel
theorem d_Heap_setSlot_10 : decode c_Heap_setSlot 10 = .ok (.iastore, 1) := by decide +kernel
theorem d_Heap_setSlot_11 : decode c_Heap_setSlot 11 = .ok (.return_, 1) := by decide +kernel
def fx_Heap_setSlot (σ : tx_St) (x1 : Int32) (x2 : Int32) (x3 : Int32) : Option tx_St := tx_wr σ 23 1284 ((x1 * (4 : Int32)) + x2) x3 fun σ1 => some σ1
set_option maxRecDepth 100000 in
set_option maxHeartbeats 4000000 in
theorem fx_Heap_setSlot_c (l : Launch) (E : tx_E) (σ : tx_St) (x1 : Int32) (x2 : Int32) (x3 : Int32) (t : tx_St) (hT : fx_Heap_setSlot σ x1 x2 x3 = some t) : tx_MX l E y_Heap_setSlot mi_Heap_setSlot (none, t) [.ref (E.1 21), .int x1, .int x2, .int x3] σ := by
  refine tx_MX_of (by decide) rfl (Nat.le_of_ble_eq_true rfl) ?_
  show gx l E mi_Heap_setSlot (none, t) σ [(0, .ref (E.1 21)), (1, .int x1), (2, .int x2), (3, .int x3)] 0 []
  unfold fx_Heap_setSlot at hT
  refine gx_aload_n (pc := 0) 0 d_Heap_setSlot_0 rfl rfl ?_
  refine gx_getR (pc := 1) 23 fl_Heap_15 d_Heap_setSlot_1 (rfl) (by decide) rfl ?_
  refine gx_iload_n (pc := 4) 1 d_Heap_setSlot_4 rfl rfl ?_
  refine gx_iconst (pc := 5) (4 : Int32) d_Heap_setSlot_5 (by decide) ?_
  refine gx_imul (pc := 6) d_Heap_setSlot_6 ?_
  refine gx_iload_n (pc := 7) 2 d_Heap_setSlot_7 rfl rfl ?_
  refine gx_iadd (pc := 8) d_Heap_setSlot_8 ?_
  refine gx_iload_n (pc := 9) 3 d_Heap_setSlot_9 rfl rfl ?_
  obtain ⟨σ1, gσ1, iσ1, hT⟩ := tx_wr_some hT
  refine gx_iast (pc := 10) d_Heap_setSlot_10 (rfl) iσ1 ?_
  rw [gσ1]
  cases hT
  exact gx_vret (pc := 11) d_Heap_setSlot_11 rfl rfl
theorem d_Machine_make_0 : decode c_Machine_make 0 = .ok (.aload_n 0, 1) := by decide +kernel
theorem d_Machine_make_1 : decode c_Machine_make 1 = .ok (.getfield 30, 3) := by decide +kernel
theorem d_Machine_make_4 : decode c_Machine_make 4 = .ok (.bipush (8), 2) := by decide +kernel
theorem d_Machine_make_6 : decode c_Machine_make 6 = .ok (.if_icmp .ne (5), 3) := by decide +kernel
theorem d_Machine_make_9 : decode c_Machine_make 9 = .ok (.iconst (4), 1) := by decide +kernel
theorem d_Machine_make_10 : decode c_Machine_make 10 = .ok (.ireturn, 1) := by decide +kernel
theorem d_Machine_make_11 : decode c_Machine_make 11 = .ok (.aload_n 0, 1) := by decide +kernel
theorem d_Machine_make_12 : decode c_Machine_make 12 = .ok (.dup, 1) := by decide +kernel
theorem d_Machine_make_13 : decode c_Machine_make 13 = .ok (.getfield 30, 3) := by decide +kernel
theorem d_Machine_make_16 : decode c_Machine_make 16 = .ok (.iconst (1), 1) := by decide +kernel
theorem d_Machine_make_17 : decode c_Machine_make 17 = .ok (.iadd, 1) := by decide +kernel
theorem d_Machine_make_18 : decode c_Machine_make 18 = .ok (.putfield 30, 3) := by decide +kernel
theorem d_Machine_make_21 : decode c_Machine_make 21 = .ok (.aload_n 0, 1) := by decide +kernel
theorem d_Machine_make_22 : decode c_Machine_make 22 = .ok (.getfield 21, 3) := by decide +kernel
theorem d_Machine_make_25 : decode c_Machine_make 25 = .ok (.iconst (2), 1) := by decide +kernel
theorem d_Machine_make_26 : decode c_Machine_make 26 = .ok (.iload_n 2, 1) := by decide +kernel
theorem d_Machine_make_27 : decode c_Machine_make 27 = .ok (.iadd, 1) := by decide +kernel
theorem d_Machine_make_28 : decode c_Machine_make 28 = .ok (.invokevirtual 112, 3) := by decide +kernel
theorem d_Machine_make_31 : decode c_Machine_make 31 = .ok (.istore_n 3, 1) := by decide +kernel
theorem d_Machine_make_32 : decode c_Machine_make 32 = .ok (.aload_n 0, 1) := by decide +kernel
theorem d_Machine_make_33 : decode c_Machine_make 33 = .ok (.getfield 17, 3) := by decide +kernel
theorem d_Machine_make_36 : decode c_Machine_make 36 = .ok (.iload_n 2, 1) := by decide +kernel
theorem d_Machine_make_37 : decode c_Machine_make 37 = .ok (.aload_n 0, 1) := by decide +kernel
theorem d_Machine_make_38 : decode c_Machine_make 38 = .ok (.getfield 17, 3) := by decide +kernel
theorem d_Machine_make_41 : decode c_Machine_make 41 = .ok (.getfield 116, 3) := by decide +kernel
theorem d_Machine_make_44 : decode c_Machine_make 44 = .ok (.invokevirtual 119, 3) := by decide +kernel
theorem d_Machine_make_47 : decode c_Machine_make 47 = .ok (.istore 4, 2) := by decide +kernel
theorem d_Machine_make_49 : decode c_Machine_make 49 = .ok (.iload 4, 2) := by decide +kernel
theorem d_Machine_make_51 : decode c_Machine_make 51 = .ok (.iconst (1), 1) := by decide +kernel
theorem d_Machine_make_52 : decode c_Machine_make 52 = .ok (.isub, 1) := by decide +kernel
theorem d_Machine_make_53 : decode c_Machine_make 53 = .ok (.istore 5, 2) := by decide +kernel
theorem d_Machine_make_55 : decode c_Machine_make 55 = .ok (.iload 5, 2) := by decide +kernel
theorem d_Machine_make_57 : decode c_Machine_make 57 = .ok (.ifCond .lt (23), 3) := by decide +kernel
theorem d_Machine_make_60 : decode c_Machine_make 60 = .ok (.aload_n 0, 1) := by decide +kernel
theorem d_Machine_make_61 : decode c_Machine_make 61 = .ok (.getfield 21, 3) := by decide +kernel
theorem d_Machine_make_64 : decode c_Machine_make 64 = .ok (.iload_n 3, 1) := by decide +kernel
theorem d_Machine_make_65 : decode c_Machine_make 65 = .ok (.iload 5, 2) := by decide +kernel
theorem d_Machine_make_67 : decode c_Machine_make 67 = .ok (.aload_n 1, 1) := by decide +kernel
theorem d_Machine_make_68 : decode c_Machine_make 68 = .ok (.invokevirtual 82, 3) := by decide +kernel
theorem d_Machine_make_71 : decode c_Machine_make 71 = .ok (.invokevirtual 122, 3) := by decide +kernel
theorem d_Machine_make_74 : decode c_Machine_make 74 = .ok (.iinc 5 (-1), 3) := by decide +kernel
theorem d_Machine_make_77 : decode c_Machine_make 77 = .ok (.goto (-22), 3) := by decide +kernel
theorem d_Machine_make_80 : decode c_Machine_make 80 = .ok (.aload_n 1, 1) := by decide +kernel
theorem d_Machine_make_81 : decode c_Machine_make 81 = .ok (.iload_n 3, 1) := by decide +kernel
theorem d_Machine_make_82 : decode c_Machine_make 82 = .ok (.invokevirtual 79, 3) := by decide +kernel
theorem d_Machine_make_85 : decode c_Machine_make 85 = .ok (.iconst (0), 1) := by decide +kernel
theorem d_Machine_make_86 : decode c_Machine_make 86 = .ok (.ireturn, 1) := by decide +kernel
def fx_Machine_make_b55 : Nat → tx_St → Nat → Int32 → Int32 → Option (Int32 × tx_St)
  | 0, _, _, _, _ => none
  | n + 1, σ, x1, x3, x5 => (if x5 < 0 then tx_cv (fx_Frame_push σ x1 x3) fun σ8 => some ((0 : Int32), σ8) else tx_ci (fx_Frame_pop σ x1) fun r10 σ9 => tx_cv (fx_Heap_setSlot σ9 x3 x5 r10) fun σ11 => fx_Machine_make_b55 n σ11 x1 x3 (x5 + (-1 : Int32)))
def fx_Machine_make (σ : tx_St) (x1 : Nat) (x2 : Int32) : Option (Int32 × tx_St) := (if (σ 25 6) = (8 : Int32) then some ((4 : Int32), σ) else tx_pt σ 25 6 ((σ 25 6) + (1 : Int32)) fun σ2 => tx_ci (fx_Heap_newThing σ2 ((2 : Int32) + x2)) fun r4 σ3 => tx_ci (fx_Plan_slotOf σ3 x2 (σ3 1 1)) fun r6 σ5 => fx_Machine_make_b55  tx_fu σ5 x1 r4 (r6 - (1 : Int32)))
set_option maxRecDepth 100000 in
set_option maxHeartbeats 4000000 in
theorem fx_Machine_make_b55_w {l : Launch} {E : tx_E} : ∀ (n : Nat) (σ : tx_St) (x1 : Nat) (x3 : Int32) (x5 : Int32) (hx1 : tx_isFr x1) (t : Int32 × tx_St), fx_Machine_make_b55 n σ x1 x3 x5 = some t → gx l E mi_Machine_make (some (.int t.1), t.2) σ [(0, .ref (E.1 25)), (1, .ref (E.1 x1)), (3, .int x3), (5, .int x5)] 55 [] := by
  intro n
  induction n with
  | zero => intro σ x1 x3 x5 hx1 t hT; cases hT
  | succ n ih =>
    intro σ x1 x3 x5 hx1 t hT
    rw [fx_Machine_make_b55] at hT
    refine gx_iload (pc := 55) 3 d_Machine_make_55 rfl ?_
    refine gx_if_lt (pc := 57) 80 d_Machine_make_57 rfl (fun h7 => ?_) (fun h7 => ?_)
    · have hT := tx_ifp h7 hT
      refine gx_aload_n (pc := 80) 1 d_Machine_make_80 rfl rfl ?_
      refine gx_iload_n (pc := 81) 2 d_Machine_make_81 rfl rfl ?_
      obtain ⟨σ8, cσ8, hT⟩ := tx_cv_some hT
      refine gx_callV (pc := 82) (As := [.int x3]) (rest := []) cm_Frame_push lk_Machine_79 (fx_Frame_push_c l E σ x1 x3 hx1 _ cσ8) (tx_fr0 hx1) (by decide) rfl rfl tx_fi_Machine_make_Frame_push (Nat.le_of_ble_eq_true rfl) d_Machine_make_82 ?_
      change gx l E mi_Machine_make _ σ8 [(0, .ref (E.1 25)), (1, .ref (E.1 x1)), (3, .int x3), (5, .int x5)] 85 []
      refine gx_iconst (pc := 85) (0 : Int32) d_Machine_make_85 (by decide) ?_
      cases hT
      exact gx_iret (pc := 86) d_Machine_make_86 rfl rfl
    · have hT := tx_ifn h7 hT
      refine gx_aload_n (pc := 60) 0 d_Machine_make_60 rfl rfl ?_
      refine gx_getR (pc := 61) 21 fl_Machine_21 d_Machine_make_61 (rfl) (by decide) rfl ?_
      refine gx_iload_n (pc := 64) 2 d_Machine_make_64 rfl rfl ?_
      refine gx_iload (pc := 65) 3 d_Machine_make_65 rfl ?_
      refine gx_aload_n (pc := 67) 1 d_Machine_make_67 rfl rfl ?_
      obtain ⟨r10, σ9, cσ9, hT⟩ := tx_ci_some hT
      refine gx_callV (pc := 68) (As := []) (rest := [.int x5, .int x3, .ref (E.1 21)]) cm_Frame_pop lk_Machine_82 (fx_Frame_pop_c l E σ x1 hx1 _ cσ9) (tx_fr0 hx1) (by decide) rfl rfl tx_fi_Machine_make_Frame_pop (Nat.le_of_ble_eq_true rfl) d_Machine_make_68 ?_
      change gx l E mi_Machine_make _ σ9 [(0, .ref (E.1 25)), (1, .ref (E.1 x1)), (3, .int x3), (5, .int x5)] 71 [.int r10, .int x5, .int x3, .ref (E.1 21)]
      obtain ⟨σ11, cσ11, hT⟩ := tx_cv_some hT
      refine gx_callV (pc := 71) (As := [.int x3, .int x5, .int r10]) (rest := []) cm_Heap_setSlot lk_Machine_122 (fx_Heap_setSlot_c l E σ9 x3 x5 r10 _ cσ11) (rfl) (by decide) rfl rfl tx_fi_Machine_make_Heap_setSlot (Nat.le_of_ble_eq_true rfl) d_Machine_make_71 ?_
      change gx l E mi_Machine_make _ σ11 [(0, .ref (E.1 25)), (1, .ref (E.1 x1)), (3, .int x3), (5, .int x5)] 74 []
      refine gx_iinc (pc := 74) (x5 + (-1 : Int32)) 3 [(5, .int (x5 + (-1 : Int32))), (0, .ref (E.1 25)), (1, .ref (E.1 x1)), (3, .int x3)] d_Machine_make_74 rfl (tx_inc (by decide)) (Nat.le_of_ble_eq_true rfl) rfl ?_
      refine gx_goto (pc := 77) 55 d_Machine_make_77 rfl ?_
      refine gx_sub [1, 2, 3, 0] rfl ?_
      exact ih σ11 x1 x3 (x5 + (-1 : Int32)) hx1 _ hT
set_option maxRecDepth 100000 in
set_option maxHeartbeats 4000000 in
theorem fx_Machine_make_c (l : Launch) (E : tx_E) (σ : tx_St) (x1 : Nat) (x2 : Int32) (hx1 : tx_isFr x1) (t : Int32 × tx_St) (hT : fx_Machine_make σ x1 x2 = some t) : tx_MX l E y_Machine_make mi_Machine_make (some (.int t.1), t.2) [.ref (E.1 25), .ref (E.1 x1), .int x2] σ := by
  refine tx_MX_of (by decide) rfl (Nat.le_of_ble_eq_true rfl) ?_
  show gx l E mi_Machine_make (some (.int t.1), t.2) σ [(0, .ref (E.1 25)), (1, .ref (E.1 x1)), (2, .int x2)] 0 []
  unfold fx_Machine_make at hT
  refine gx_aload_n (pc := 0) 0 d_Machine_make_0 rfl rfl ?_
  refine gx_getI (pc := 1) (σ 25 6) fl_Machine_30 d_Machine_make_1 (rfl) (by decide) rfl rfl ?_
  refine gx_bipush (pc := 4) (8 : Int32) d_Machine_make_4 (by decide) ?_
  refine gx_icmp_ne (pc := 6) 11 d_Machine_make_6 rfl (fun h1 => ?_) (fun h1 => ?_)
  · have hT := tx_ifn h1 hT
    refine gx_aload_n (pc := 11) 0 d_Machine_make_11 rfl rfl ?_
    refine gx_dup (pc := 12) d_Machine_make_12 rfl ?_
    refine gx_getI (pc := 13) (σ 25 6) fl_Machine_30 d_Machine_make_13 (rfl) (by decide) rfl rfl ?_
    refine gx_iconst (pc := 16) (1 : Int32) d_Machine_make_16 (by decide) ?_
    refine gx_iadd (pc := 17) d_Machine_make_17 ?_
    obtain ⟨σ2, gσ2, hT⟩ := tx_pt_some hT
    refine gx_putI (pc := 18) fp_Machine_30 d_Machine_make_18 (rfl) (by decide) rfl ?_
    rw [gσ2]
    refine gx_aload_n (pc := 21) 0 d_Machine_make_21 rfl rfl ?_
    refine gx_getR (pc := 22) 21 fl_Machine_21 d_Machine_make_22 (rfl) (by decide) rfl ?_
    refine gx_iconst (pc := 25) (2 : Int32) d_Machine_make_25 (by decide) ?_
    refine gx_iload_n (pc := 26) 2 d_Machine_make_26 rfl rfl ?_
    refine gx_iadd (pc := 27) d_Machine_make_27 ?_
    obtain ⟨r4, σ3, cσ3, hT⟩ := tx_ci_some hT
    refine gx_callV (pc := 28) (As := [.int ((2 : Int32) + x2)]) (rest := []) cm_Heap_newThing lk_Machine_112 (fx_Heap_newThing_c l E σ2 ((2 : Int32) + x2) _ cσ3) (rfl) (by decide) rfl rfl tx_fi_Machine_make_Heap_newThing (Nat.le_of_ble_eq_true rfl) d_Machine_make_28 ?_
    change gx l E mi_Machine_make _ σ3 [(0, .ref (E.1 25)), (1, .ref (E.1 x1)), (2, .int x2)] 31 [.int r4]
    refine gx_istore_n (pc := 31) [(3, .int r4), (0, .ref (E.1 25)), (1, .ref (E.1 x1)), (2, .int x2)] d_Machine_make_31 rfl (Nat.le_of_ble_eq_true rfl) rfl ?_
    refine gx_aload_n (pc := 32) 1 d_Machine_make_32 rfl rfl ?_
    refine gx_getR (pc := 33) 1 fl_Machine_17 d_Machine_make_33 (rfl) (by decide) rfl ?_
    refine gx_iload_n (pc := 36) 3 d_Machine_make_36 rfl rfl ?_
    refine gx_aload_n (pc := 37) 1 d_Machine_make_37 rfl rfl ?_
    refine gx_getR (pc := 38) 1 fl_Machine_17 d_Machine_make_38 (rfl) (by decide) rfl ?_
    refine gx_getI (pc := 41) (σ3 1 1) fl_Machine_116 d_Machine_make_41 (rfl) (by decide) rfl rfl ?_
    obtain ⟨r6, σ5, cσ5, hT⟩ := tx_ci_some hT
    refine gx_callV (pc := 44) (As := [.int x2, .int (σ3 1 1)]) (rest := []) cm_Plan_slotOf lk_Machine_119 (fx_Plan_slotOf_c l E σ3 x2 (σ3 1 1) _ cσ5) (rfl) (by decide) rfl rfl tx_fi_Machine_make_Plan_slotOf (Nat.le_of_ble_eq_true rfl) d_Machine_make_44 ?_
    change gx l E mi_Machine_make _ σ5 [(3, .int r4), (0, .ref (E.1 25)), (1, .ref (E.1 x1)), (2, .int x2)] 47 [.int r6]
    refine gx_istore (pc := 47) [(4, .int r6), (3, .int r4), (0, .ref (E.1 25)), (1, .ref (E.1 x1)), (2, .int x2)] d_Machine_make_47 (Nat.le_of_ble_eq_true rfl) rfl ?_
    refine gx_iload (pc := 49) 0 d_Machine_make_49 rfl ?_
    refine gx_iconst (pc := 51) (1 : Int32) d_Machine_make_51 (by decide) ?_
    refine gx_isub (pc := 52) d_Machine_make_52 ?_
    refine gx_istore (pc := 53) [(5, .int (r6 - (1 : Int32))), (4, .int r6), (3, .int r4), (0, .ref (E.1 25)), (1, .ref (E.1 x1)), (2, .int x2)] d_Machine_make_53 (Nat.le_of_ble_eq_true rfl) rfl ?_
    refine gx_sub [3, 4, 2, 0] rfl ?_
    exact fx_Machine_make_b55_w  tx_fu σ5 x1 r4 (r6 - (1 : Int32)) hx1 _ hT
  · have hT := tx_ifp h1 hT
    refine gx_iconst (pc := 9) (4 : Int32) d_Machine_make_9 (by decide) ?_
    cases hT
    exact gx_iret (pc := 10) d_Machine_make_10 rfl rfl
theorem d_Heap_slotValue_0 : decode c_Heap_slotValue 0 = .ok (.aload_n 0, 1) := by decide +kernel
theorem d_Heap_slotValue_1 : decode c_Heap_slotValue 1 = .ok (.getfield 15, 3) := by decide +kernel
theorem d_Heap_slotValue_4 : decode c_Heap_slotValue 4 = .ok (.iload_n 1, 1) := by decide +kernel
theorem d_Heap_slotValue_5 : decode c_Heap_slotValue 5 = .ok (.iconst (4), 1) := by decide +kernel
theorem d_Heap_slotValue_6 : decode c_Heap_slotValue 6 = .ok (.imul, 1) := by decide +kernel
theorem d_Heap_slotValue_7 : decode c_Heap_slotValue 7 = .ok (.iload_n 2, 1) := by decide +kernel
theorem d_Heap_slotValue_8 : decode c_Heap_slotValue 8 = .ok (.iadd, 1) := by decide +kernel
theorem d_Heap_slotValue_9 : decode c_Heap_slotValue 9 = .ok (.iaload, 1) := by decide +kernel
theorem d_Heap_slotValue_10 : decode c_Heap_slotValue 10 = .ok (.ireturn, 1) := by decide +kernel
def fx_Heap_slotValue (σ : tx_St) (x1 : Int32) (x2 : Int32) : Option (Int32 × tx_St) := tx_rd σ 23 1284 ((x1 * (4 : Int32)) + x2) fun v1 => some (v1, σ)
set_option maxRecDepth 100000 in
set_option maxHeartbeats 4000000 in
theorem fx_Heap_slotValue_c (l : Launch) (E : tx_E) (σ : tx_St) (x1 : Int32) (x2 : Int32) (t : Int32 × tx_St) (hT : fx_Heap_slotValue σ x1 x2 = some t) : tx_MX l E y_Heap_slotValue mi_Heap_slotValue (some (.int t.1), t.2) [.ref (E.1 21), .int x1, .int x2] σ := by
  refine tx_MX_of (by decide) rfl (Nat.le_of_ble_eq_true rfl) ?_
  show gx l E mi_Heap_slotValue (some (.int t.1), t.2) σ [(0, .ref (E.1 21)), (1, .int x1), (2, .int x2)] 0 []
  unfold fx_Heap_slotValue at hT
  refine gx_aload_n (pc := 0) 0 d_Heap_slotValue_0 rfl rfl ?_
  refine gx_getR (pc := 1) 23 fl_Heap_15 d_Heap_slotValue_1 (rfl) (by decide) rfl ?_
  refine gx_iload_n (pc := 4) 1 d_Heap_slotValue_4 rfl rfl ?_
  refine gx_iconst (pc := 5) (4 : Int32) d_Heap_slotValue_5 (by decide) ?_
  refine gx_imul (pc := 6) d_Heap_slotValue_6 ?_
  refine gx_iload_n (pc := 7) 2 d_Heap_slotValue_7 rfl rfl ?_
  refine gx_iadd (pc := 8) d_Heap_slotValue_8 ?_
  obtain ⟨v1, gv1, iv1, hT⟩ := tx_rd_some hT
  refine gx_iald (pc := 9) v1 d_Heap_slotValue_9 (rfl) iv1 gv1 ?_
  cases hT
  exact gx_iret (pc := 10) d_Heap_slotValue_10 rfl rfl
theorem d_Machine_useField_0 : decode c_Machine_useField 0 = .ok (.iload_n 2, 1) := by decide +kernel
theorem d_Machine_useField_1 : decode c_Machine_useField 1 = .ok (.bipush (9), 2) := by decide +kernel
theorem d_Machine_useField_3 : decode c_Machine_useField 3 = .ok (.if_icmp .ne (10), 3) := by decide +kernel
theorem d_Machine_useField_6 : decode c_Machine_useField 6 = .ok (.aload_n 1, 1) := by decide +kernel
theorem d_Machine_useField_7 : decode c_Machine_useField 7 = .ok (.invokevirtual 82, 3) := by decide +kernel
theorem d_Machine_useField_10 : decode c_Machine_useField 10 = .ok (.goto (4), 3) := by decide +kernel
theorem d_Machine_useField_13 : decode c_Machine_useField 13 = .ok (.iconst (0), 1) := by decide +kernel
theorem d_Machine_useField_14 : decode c_Machine_useField 14 = .ok (.istore 4, 2) := by decide +kernel
theorem d_Machine_useField_16 : decode c_Machine_useField 16 = .ok (.aload_n 1, 1) := by decide +kernel
theorem d_Machine_useField_17 : decode c_Machine_useField 17 = .ok (.invokevirtual 82, 3) := by decide +kernel
theorem d_Machine_useField_20 : decode c_Machine_useField 20 = .ok (.istore 5, 2) := by decide +kernel
theorem d_Machine_useField_22 : decode c_Machine_useField 22 = .ok (.iload 5, 2) := by decide +kernel
theorem d_Machine_useField_24 : decode c_Machine_useField 24 = .ok (.ifCond .ne (5), 3) := by decide +kernel
theorem d_Machine_useField_27 : decode c_Machine_useField 27 = .ok (.iconst (1), 1) := by decide +kernel
theorem d_Machine_useField_28 : decode c_Machine_useField 28 = .ok (.ireturn, 1) := by decide +kernel
theorem d_Machine_useField_29 : decode c_Machine_useField 29 = .ok (.aload_n 0, 1) := by decide +kernel
theorem d_Machine_useField_30 : decode c_Machine_useField 30 = .ok (.getfield 17, 3) := by decide +kernel
theorem d_Machine_useField_33 : decode c_Machine_useField 33 = .ok (.aload_n 0, 1) := by decide +kernel
theorem d_Machine_useField_34 : decode c_Machine_useField 34 = .ok (.getfield 21, 3) := by decide +kernel
theorem d_Machine_useField_37 : decode c_Machine_useField 37 = .ok (.getfield 58, 3) := by decide +kernel
theorem d_Machine_useField_40 : decode c_Machine_useField 40 = .ok (.iload 5, 2) := by decide +kernel
theorem d_Machine_useField_42 : decode c_Machine_useField 42 = .ok (.iaload, 1) := by decide +kernel
theorem d_Machine_useField_43 : decode c_Machine_useField 43 = .ok (.iconst (2), 1) := by decide +kernel
theorem d_Machine_useField_44 : decode c_Machine_useField 44 = .ok (.isub, 1) := by decide +kernel
theorem d_Machine_useField_45 : decode c_Machine_useField 45 = .ok (.iload_n 3, 1) := by decide +kernel
theorem d_Machine_useField_46 : decode c_Machine_useField 46 = .ok (.invokevirtual 119, 3) := by decide +kernel
theorem d_Machine_useField_49 : decode c_Machine_useField 49 = .ok (.istore 6, 2) := by decide +kernel
theorem d_Machine_useField_51 : decode c_Machine_useField 51 = .ok (.iload_n 2, 1) := by decide +kernel
theorem d_Machine_useField_52 : decode c_Machine_useField 52 = .ok (.bipush (9), 2) := by decide +kernel
theorem d_Machine_useField_54 : decode c_Machine_useField 54 = .ok (.if_icmp .ne (19), 3) := by decide +kernel
theorem d_Machine_useField_57 : decode c_Machine_useField 57 = .ok (.aload_n 0, 1) := by decide +kernel
theorem d_Machine_useField_58 : decode c_Machine_useField 58 = .ok (.getfield 21, 3) := by decide +kernel
theorem d_Machine_useField_61 : decode c_Machine_useField 61 = .ok (.iload 5, 2) := by decide +kernel
theorem d_Machine_useField_63 : decode c_Machine_useField 63 = .ok (.iload 6, 2) := by decide +kernel
theorem d_Machine_useField_65 : decode c_Machine_useField 65 = .ok (.iload 4, 2) := by decide +kernel
theorem d_Machine_useField_67 : decode c_Machine_useField 67 = .ok (.invokevirtual 122, 3) := by decide +kernel
theorem d_Machine_useField_70 : decode c_Machine_useField 70 = .ok (.goto (18), 3) := by decide +kernel
theorem d_Machine_useField_73 : decode c_Machine_useField 73 = .ok (.aload_n 1, 1) := by decide +kernel
theorem d_Machine_useField_74 : decode c_Machine_useField 74 = .ok (.aload_n 0, 1) := by decide +kernel
theorem d_Machine_useField_75 : decode c_Machine_useField 75 = .ok (.getfield 21, 3) := by decide +kernel
theorem d_Machine_useField_78 : decode c_Machine_useField 78 = .ok (.iload 5, 2) := by decide +kernel
theorem d_Machine_useField_80 : decode c_Machine_useField 80 = .ok (.iload 6, 2) := by decide +kernel
theorem d_Machine_useField_82 : decode c_Machine_useField 82 = .ok (.invokevirtual 125, 3) := by decide +kernel
theorem d_Machine_useField_85 : decode c_Machine_useField 85 = .ok (.invokevirtual 79, 3) := by decide +kernel
theorem d_Machine_useField_88 : decode c_Machine_useField 88 = .ok (.iconst (0), 1) := by decide +kernel
theorem d_Machine_useField_89 : decode c_Machine_useField 89 = .ok (.ireturn, 1) := by decide +kernel
def fx_Machine_useField_b88 (σ : tx_St) : Option (Int32 × tx_St) := some ((0 : Int32), σ)
def fx_Machine_useField_b14 (σ : tx_St) (x1 : Nat) (x2 : Int32) (x3 : Int32) (s0 : Int32) : Option (Int32 × tx_St) := tx_ci (fx_Frame_pop σ x1) fun r5 σ4 => (if r5 = 0 then some ((1 : Int32), σ4) else tx_rd σ4 22 321 r5 fun v7 => tx_ci (fx_Plan_slotOf σ4 (v7 - (2 : Int32)) x3) fun r9 σ8 => (if x2 = (9 : Int32) then tx_cv (fx_Heap_setSlot σ8 r5 r9 s0) fun σ14 => fx_Machine_useField_b88  σ14 else tx_ci (fx_Heap_slotValue σ8 r5 r9) fun r12 σ11 => tx_cv (fx_Frame_push σ11 x1 r12) fun σ13 => fx_Machine_useField_b88  σ13))
def fx_Machine_useField (σ : tx_St) (x1 : Nat) (x2 : Int32) (x3 : Int32) : Option (Int32 × tx_St) := (if x2 = (9 : Int32) then tx_ci (fx_Frame_pop σ x1) fun r3 σ2 => fx_Machine_useField_b14  σ2 x1 x2 x3 r3 else fx_Machine_useField_b14  σ x1 x2 x3 (0 : Int32))
set_option maxRecDepth 100000 in
set_option maxHeartbeats 4000000 in
theorem fx_Machine_useField_b88_w {l : Launch} {E : tx_E} (σ : tx_St) (t : Int32 × tx_St) (hT : fx_Machine_useField_b88 σ  = some t) : gx l E mi_Machine_useField (some (.int t.1), t.2) σ [] 88 [] := by
  unfold fx_Machine_useField_b88 at hT
  refine gx_iconst (pc := 88) (0 : Int32) d_Machine_useField_88 (by decide) ?_
  cases hT
  exact gx_iret (pc := 89) d_Machine_useField_89 rfl rfl
set_option maxRecDepth 100000 in
set_option maxHeartbeats 4000000 in
theorem fx_Machine_useField_b14_w {l : Launch} {E : tx_E} (σ : tx_St) (x1 : Nat) (x2 : Int32) (x3 : Int32) (s0 : Int32) (hx1 : tx_isFr x1) (t : Int32 × tx_St) (hT : fx_Machine_useField_b14 σ x1 x2 x3 s0 = some t) : gx l E mi_Machine_useField (some (.int t.1), t.2) σ [(0, .ref (E.1 25)), (1, .ref (E.1 x1)), (2, .int x2), (3, .int x3)] 14 [.int s0] := by
  unfold fx_Machine_useField_b14 at hT
  refine gx_istore (pc := 14) [(4, .int s0), (0, .ref (E.1 25)), (1, .ref (E.1 x1)), (2, .int x2), (3, .int x3)] d_Machine_useField_14 (Nat.le_of_ble_eq_true rfl) rfl ?_
  refine gx_aload_n (pc := 16) 2 d_Machine_useField_16 rfl rfl ?_
  obtain ⟨r5, σ4, cσ4, hT⟩ := tx_ci_some hT
  refine gx_callV (pc := 17) (As := []) (rest := []) cm_Frame_pop lk_Machine_82 (fx_Frame_pop_c l E σ x1 hx1 _ cσ4) (tx_fr0 hx1) (by decide) rfl rfl tx_fi_Machine_useField_Frame_pop (Nat.le_of_ble_eq_true rfl) d_Machine_useField_17 ?_
  change gx l E mi_Machine_useField _ σ4 [(4, .int s0), (0, .ref (E.1 25)), (1, .ref (E.1 x1)), (2, .int x2), (3, .int x3)] 20 [.int r5]
  refine gx_istore (pc := 20) [(5, .int r5), (4, .int s0), (0, .ref (E.1 25)), (1, .ref (E.1 x1)), (2, .int x2), (3, .int x3)] d_Machine_useField_20 (Nat.le_of_ble_eq_true rfl) rfl ?_
  refine gx_iload (pc := 22) 0 d_Machine_useField_22 rfl ?_
  refine gx_if_ne (pc := 24) 29 d_Machine_useField_24 rfl (fun h6 => ?_) (fun h6 => ?_)
  · have hT := tx_ifn h6 hT
    refine gx_aload_n (pc := 29) 2 d_Machine_useField_29 rfl rfl ?_
    refine gx_getR (pc := 30) 1 fl_Machine_17 d_Machine_useField_30 (rfl) (by decide) rfl ?_
    refine gx_aload_n (pc := 33) 2 d_Machine_useField_33 rfl rfl ?_
    refine gx_getR (pc := 34) 21 fl_Machine_21 d_Machine_useField_34 (rfl) (by decide) rfl ?_
    refine gx_getR (pc := 37) 22 fl_Machine_58 d_Machine_useField_37 (rfl) (by decide) rfl ?_
    refine gx_iload (pc := 40) 0 d_Machine_useField_40 rfl ?_
    obtain ⟨v7, gv7, iv7, hT⟩ := tx_rd_some hT
    refine gx_iald (pc := 42) v7 d_Machine_useField_42 (rfl) iv7 gv7 ?_
    refine gx_iconst (pc := 43) (2 : Int32) d_Machine_useField_43 (by decide) ?_
    refine gx_isub (pc := 44) d_Machine_useField_44 ?_
    refine gx_iload_n (pc := 45) 5 d_Machine_useField_45 rfl rfl ?_
    obtain ⟨r9, σ8, cσ8, hT⟩ := tx_ci_some hT
    refine gx_callV (pc := 46) (As := [.int (v7 - (2 : Int32)), .int x3]) (rest := []) cm_Plan_slotOf lk_Machine_119 (fx_Plan_slotOf_c l E σ4 (v7 - (2 : Int32)) x3 _ cσ8) (rfl) (by decide) rfl rfl tx_fi_Machine_useField_Plan_slotOf (Nat.le_of_ble_eq_true rfl) d_Machine_useField_46 ?_
    change gx l E mi_Machine_useField _ σ8 [(5, .int r5), (4, .int s0), (0, .ref (E.1 25)), (1, .ref (E.1 x1)), (2, .int x2), (3, .int x3)] 49 [.int r9]
    refine gx_istore (pc := 49) [(6, .int r9), (5, .int r5), (4, .int s0), (0, .ref (E.1 25)), (1, .ref (E.1 x1)), (2, .int x2), (3, .int x3)] d_Machine_useField_49 (Nat.le_of_ble_eq_true rfl) rfl ?_
    refine gx_iload_n (pc := 51) 5 d_Machine_useField_51 rfl rfl ?_
    refine gx_bipush (pc := 52) (9 : Int32) d_Machine_useField_52 (by decide) ?_
    refine gx_icmp_ne (pc := 54) 73 d_Machine_useField_54 rfl (fun h10 => ?_) (fun h10 => ?_)
    · have hT := tx_ifn h10 hT
      refine gx_aload_n (pc := 73) 4 d_Machine_useField_73 rfl rfl ?_
      refine gx_aload_n (pc := 74) 3 d_Machine_useField_74 rfl rfl ?_
      refine gx_getR (pc := 75) 21 fl_Machine_21 d_Machine_useField_75 (rfl) (by decide) rfl ?_
      refine gx_iload (pc := 78) 1 d_Machine_useField_78 rfl ?_
      refine gx_iload (pc := 80) 0 d_Machine_useField_80 rfl ?_
      obtain ⟨r12, σ11, cσ11, hT⟩ := tx_ci_some hT
      refine gx_callV (pc := 82) (As := [.int r5, .int r9]) (rest := [.ref (E.1 x1)]) cm_Heap_slotValue lk_Machine_125 (fx_Heap_slotValue_c l E σ8 r5 r9 _ cσ11) (rfl) (by decide) rfl rfl tx_fi_Machine_useField_Heap_slotValue (Nat.le_of_ble_eq_true rfl) d_Machine_useField_82 ?_
      change gx l E mi_Machine_useField _ σ11 [(6, .int r9), (5, .int r5), (4, .int s0), (0, .ref (E.1 25)), (1, .ref (E.1 x1)), (2, .int x2), (3, .int x3)] 85 [.int r12, .ref (E.1 x1)]
      obtain ⟨σ13, cσ13, hT⟩ := tx_cv_some hT
      refine gx_callV (pc := 85) (As := [.int r12]) (rest := []) cm_Frame_push lk_Machine_79 (fx_Frame_push_c l E σ11 x1 r12 hx1 _ cσ13) (tx_fr0 hx1) (by decide) rfl rfl tx_fi_Machine_useField_Frame_push (Nat.le_of_ble_eq_true rfl) d_Machine_useField_85 ?_
      change gx l E mi_Machine_useField _ σ13 [(6, .int r9), (5, .int r5), (4, .int s0), (0, .ref (E.1 25)), (1, .ref (E.1 x1)), (2, .int x2), (3, .int x3)] 88 []
      refine gx_sub [] rfl ?_
      exact fx_Machine_useField_b88_w  σ13 _ hT
    · have hT := tx_ifp h10 hT
      refine gx_aload_n (pc := 57) 3 d_Machine_useField_57 rfl rfl ?_
      refine gx_getR (pc := 58) 21 fl_Machine_21 d_Machine_useField_58 (rfl) (by decide) rfl ?_
      refine gx_iload (pc := 61) 1 d_Machine_useField_61 rfl ?_
      refine gx_iload (pc := 63) 0 d_Machine_useField_63 rfl ?_
      refine gx_iload (pc := 65) 2 d_Machine_useField_65 rfl ?_
      obtain ⟨σ14, cσ14, hT⟩ := tx_cv_some hT
      refine gx_callV (pc := 67) (As := [.int r5, .int r9, .int s0]) (rest := []) cm_Heap_setSlot lk_Machine_122 (fx_Heap_setSlot_c l E σ8 r5 r9 s0 _ cσ14) (rfl) (by decide) rfl rfl tx_fi_Machine_useField_Heap_setSlot (Nat.le_of_ble_eq_true rfl) d_Machine_useField_67 ?_
      change gx l E mi_Machine_useField _ σ14 [(6, .int r9), (5, .int r5), (4, .int s0), (0, .ref (E.1 25)), (1, .ref (E.1 x1)), (2, .int x2), (3, .int x3)] 70 []
      refine gx_goto (pc := 70) 88 d_Machine_useField_70 rfl ?_
      refine gx_sub [] rfl ?_
      exact fx_Machine_useField_b88_w  σ14 _ hT
  · have hT := tx_ifp h6 hT
    refine gx_iconst (pc := 27) (1 : Int32) d_Machine_useField_27 (by decide) ?_
    cases hT
    exact gx_iret (pc := 28) d_Machine_useField_28 rfl rfl
set_option maxRecDepth 100000 in
set_option maxHeartbeats 4000000 in
theorem fx_Machine_useField_c (l : Launch) (E : tx_E) (σ : tx_St) (x1 : Nat) (x2 : Int32) (x3 : Int32) (hx1 : tx_isFr x1) (t : Int32 × tx_St) (hT : fx_Machine_useField σ x1 x2 x3 = some t) : tx_MX l E y_Machine_useField mi_Machine_useField (some (.int t.1), t.2) [.ref (E.1 25), .ref (E.1 x1), .int x2, .int x3] σ := by
  refine tx_MX_of (by decide) rfl (Nat.le_of_ble_eq_true rfl) ?_
  show gx l E mi_Machine_useField (some (.int t.1), t.2) σ [(0, .ref (E.1 25)), (1, .ref (E.1 x1)), (2, .int x2), (3, .int x3)] 0 []
  unfold fx_Machine_useField at hT
  refine gx_iload_n (pc := 0) 2 d_Machine_useField_0 rfl rfl ?_
  refine gx_bipush (pc := 1) (9 : Int32) d_Machine_useField_1 (by decide) ?_
  refine gx_icmp_ne (pc := 3) 13 d_Machine_useField_3 rfl (fun h1 => ?_) (fun h1 => ?_)
  · have hT := tx_ifn h1 hT
    refine gx_iconst (pc := 13) (0 : Int32) d_Machine_useField_13 (by decide) ?_
    exact fx_Machine_useField_b14_w  σ x1 x2 x3 (0 : Int32) hx1 _ hT
  · have hT := tx_ifp h1 hT
    refine gx_aload_n (pc := 6) 1 d_Machine_useField_6 rfl rfl ?_
    obtain ⟨r3, σ2, cσ2, hT⟩ := tx_ci_some hT
    refine gx_callV (pc := 7) (As := []) (rest := []) cm_Frame_pop lk_Machine_82 (fx_Frame_pop_c l E σ x1 hx1 _ cσ2) (tx_fr0 hx1) (by decide) rfl rfl tx_fi_Machine_useField_Frame_pop (Nat.le_of_ble_eq_true rfl) d_Machine_useField_7 ?_
    change gx l E mi_Machine_useField _ σ2 [(0, .ref (E.1 25)), (1, .ref (E.1 x1)), (2, .int x2), (3, .int x3)] 10 [.int r3]
    refine gx_goto (pc := 10) 14 d_Machine_useField_10 rfl ?_
    exact fx_Machine_useField_b14_w  σ2 x1 x2 x3 r3 hx1 _ hT
theorem d_Machine_callMethod_0 : decode c_Machine_callMethod 0 = .ok (.aload_n 0, 1) := by decide +kernel
theorem d_Machine_callMethod_1 : decode c_Machine_callMethod 1 = .ok (.getfield 17, 3) := by decide +kernel
theorem d_Machine_callMethod_4 : decode c_Machine_callMethod 4 = .ok (.iload_n 2, 1) := by decide +kernel
theorem d_Machine_callMethod_5 : decode c_Machine_callMethod 5 = .ok (.invokevirtual 44, 3) := by decide +kernel
theorem d_Machine_callMethod_8 : decode c_Machine_callMethod 8 = .ok (.ifCond .ne (7), 3) := by decide +kernel
theorem d_Machine_callMethod_11 : decode c_Machine_callMethod 11 = .ok (.iconst (1), 1) := by decide +kernel
theorem d_Machine_callMethod_12 : decode c_Machine_callMethod 12 = .ok (.goto (4), 3) := by decide +kernel
theorem d_Machine_callMethod_15 : decode c_Machine_callMethod 15 = .ok (.iconst (0), 1) := by decide +kernel
theorem d_Machine_callMethod_16 : decode c_Machine_callMethod 16 = .ok (.istore_n 3, 1) := by decide +kernel
theorem d_Machine_callMethod_17 : decode c_Machine_callMethod 17 = .ok (.aload_n 0, 1) := by decide +kernel
theorem d_Machine_callMethod_18 : decode c_Machine_callMethod 18 = .ok (.getfield 17, 3) := by decide +kernel
theorem d_Machine_callMethod_21 : decode c_Machine_callMethod 21 = .ok (.getfield 128, 3) := by decide +kernel
theorem d_Machine_callMethod_24 : decode c_Machine_callMethod 24 = .ok (.iload_n 2, 1) := by decide +kernel
theorem d_Machine_callMethod_25 : decode c_Machine_callMethod 25 = .ok (.iaload, 1) := by decide +kernel
theorem d_Machine_callMethod_26 : decode c_Machine_callMethod 26 = .ok (.iconst (-1), 1) := by decide +kernel
theorem d_Machine_callMethod_27 : decode c_Machine_callMethod 27 = .ok (.if_icmp .ne (7), 3) := by decide +kernel
theorem d_Machine_callMethod_30 : decode c_Machine_callMethod 30 = .ok (.iconst (0), 1) := by decide +kernel
theorem d_Machine_callMethod_31 : decode c_Machine_callMethod 31 = .ok (.goto (7), 3) := by decide +kernel
theorem d_Machine_callMethod_34 : decode c_Machine_callMethod 34 = .ok (.aload_n 1, 1) := by decide +kernel
theorem d_Machine_callMethod_35 : decode c_Machine_callMethod 35 = .ok (.invokevirtual 82, 3) := by decide +kernel
theorem d_Machine_callMethod_38 : decode c_Machine_callMethod 38 = .ok (.istore 4, 2) := by decide +kernel
theorem d_Machine_callMethod_40 : decode c_Machine_callMethod 40 = .ok (.iload_n 3, 1) := by decide +kernel
theorem d_Machine_callMethod_41 : decode c_Machine_callMethod 41 = .ok (.ifCond .eq (10), 3) := by decide +kernel
theorem d_Machine_callMethod_44 : decode c_Machine_callMethod 44 = .ok (.aload_n 1, 1) := by decide +kernel
theorem d_Machine_callMethod_45 : decode c_Machine_callMethod 45 = .ok (.invokevirtual 82, 3) := by decide +kernel
theorem d_Machine_callMethod_48 : decode c_Machine_callMethod 48 = .ok (.goto (4), 3) := by decide +kernel
theorem d_Machine_callMethod_51 : decode c_Machine_callMethod 51 = .ok (.iconst (0), 1) := by decide +kernel
theorem d_Machine_callMethod_52 : decode c_Machine_callMethod 52 = .ok (.istore 5, 2) := by decide +kernel
theorem d_Machine_callMethod_54 : decode c_Machine_callMethod 54 = .ok (.iload_n 3, 1) := by decide +kernel
theorem d_Machine_callMethod_55 : decode c_Machine_callMethod 55 = .ok (.ifCond .eq (10), 3) := by decide +kernel
theorem d_Machine_callMethod_58 : decode c_Machine_callMethod 58 = .ok (.iload 5, 2) := by decide +kernel
theorem d_Machine_callMethod_60 : decode c_Machine_callMethod 60 = .ok (.ifCond .ne (5), 3) := by decide +kernel
theorem d_Machine_callMethod_63 : decode c_Machine_callMethod 63 = .ok (.iconst (1), 1) := by decide +kernel
theorem d_Machine_callMethod_64 : decode c_Machine_callMethod 64 = .ok (.ireturn, 1) := by decide +kernel
theorem d_Machine_callMethod_65 : decode c_Machine_callMethod 65 = .ok (.aload_n 0, 1) := by decide +kernel
theorem d_Machine_callMethod_66 : decode c_Machine_callMethod 66 = .ok (.getfield 26, 3) := by decide +kernel
theorem d_Machine_callMethod_69 : decode c_Machine_callMethod 69 = .ok (.bipush (6), 2) := by decide +kernel
theorem d_Machine_callMethod_71 : decode c_Machine_callMethod 71 = .ok (.if_icmp .ne (5), 3) := by decide +kernel
theorem d_Machine_callMethod_74 : decode c_Machine_callMethod 74 = .ok (.iconst (3), 1) := by decide +kernel
theorem d_Machine_callMethod_75 : decode c_Machine_callMethod 75 = .ok (.ireturn, 1) := by decide +kernel
theorem d_Machine_callMethod_76 : decode c_Machine_callMethod 76 = .ok (.aload_n 0, 1) := by decide +kernel
theorem d_Machine_callMethod_77 : decode c_Machine_callMethod 77 = .ok (.iload_n 2, 1) := by decide +kernel
theorem d_Machine_callMethod_78 : decode c_Machine_callMethod 78 = .ok (.iload 5, 2) := by decide +kernel
theorem d_Machine_callMethod_80 : decode c_Machine_callMethod 80 = .ok (.iload 4, 2) := by decide +kernel
theorem d_Machine_callMethod_82 : decode c_Machine_callMethod 82 = .ok (.invokevirtual 33, 3) := by decide +kernel
theorem d_Machine_callMethod_85 : decode c_Machine_callMethod 85 = .ok (.iconst (0), 1) := by decide +kernel
theorem d_Machine_callMethod_86 : decode c_Machine_callMethod 86 = .ok (.ireturn, 1) := by decide +kernel
def fx_Machine_callMethod_b65 (σ : tx_St) (x2 : Int32) (x4 : Int32) (x5 : Int32) : Option (Int32 × tx_St) := (if (σ 25 5) = (6 : Int32) then some ((3 : Int32), σ) else tx_cv (fx_Machine_enter σ x2 x5 x4) fun σ14 => some ((0 : Int32), σ14))
def fx_Machine_callMethod_b52 (σ : tx_St) (x2 : Int32) (x3 : Int32) (x4 : Int32) (s0 : Int32) : Option (Int32 × tx_St) := (if x3 = 0 then fx_Machine_callMethod_b65  σ x2 x4 s0 else (if s0 = 0 then some ((1 : Int32), σ) else fx_Machine_callMethod_b65  σ x2 x4 s0))
def fx_Machine_callMethod_b38 (σ : tx_St) (x1 : Nat) (x2 : Int32) (x3 : Int32) (s0 : Int32) : Option (Int32 × tx_St) := (if x3 = 0 then fx_Machine_callMethod_b52  σ x2 x3 s0 (0 : Int32) else tx_ci (fx_Frame_pop σ x1) fun r10 σ9 => fx_Machine_callMethod_b52  σ9 x2 x3 s0 r10)
def fx_Machine_callMethod_b16 (σ : tx_St) (x1 : Nat) (x2 : Int32) (s0 : Int32) : Option (Int32 × tx_St) := tx_rd σ 10 8 x2 fun v4 => (if v4 = (-1 : Int32) then fx_Machine_callMethod_b38  σ x1 x2 s0 (0 : Int32) else tx_ci (fx_Frame_pop σ x1) fun r7 σ6 => fx_Machine_callMethod_b38  σ6 x1 x2 s0 r7)
def fx_Machine_callMethod (σ : tx_St) (x1 : Nat) (x2 : Int32) : Option (Int32 × tx_St) := tx_ci (fx_Plan_isStaticMethod σ x2) fun r2 σ1 => (if r2 = 0 then fx_Machine_callMethod_b16  σ1 x1 x2 (1 : Int32) else fx_Machine_callMethod_b16  σ1 x1 x2 (0 : Int32))
set_option maxRecDepth 100000 in
set_option maxHeartbeats 4000000 in
theorem fx_Machine_callMethod_b65_w {l : Launch} {E : tx_E} (σ : tx_St) (x2 : Int32) (x4 : Int32) (x5 : Int32) (t : Int32 × tx_St) (hT : fx_Machine_callMethod_b65 σ x2 x4 x5 = some t) : gx l E mi_Machine_callMethod (some (.int t.1), t.2) σ [(0, .ref (E.1 25)), (2, .int x2), (4, .int x4), (5, .int x5)] 65 [] := by
  unfold fx_Machine_callMethod_b65 at hT
  refine gx_aload_n (pc := 65) 0 d_Machine_callMethod_65 rfl rfl ?_
  refine gx_getI (pc := 66) (σ 25 5) fl_Machine_26 d_Machine_callMethod_66 (rfl) (by decide) rfl rfl ?_
  refine gx_bipush (pc := 69) (6 : Int32) d_Machine_callMethod_69 (by decide) ?_
  refine gx_icmp_ne (pc := 71) 76 d_Machine_callMethod_71 rfl (fun h13 => ?_) (fun h13 => ?_)
  · have hT := tx_ifn h13 hT
    refine gx_aload_n (pc := 76) 0 d_Machine_callMethod_76 rfl rfl ?_
    refine gx_iload_n (pc := 77) 1 d_Machine_callMethod_77 rfl rfl ?_
    refine gx_iload (pc := 78) 3 d_Machine_callMethod_78 rfl ?_
    refine gx_iload (pc := 80) 2 d_Machine_callMethod_80 rfl ?_
    obtain ⟨σ14, cσ14, hT⟩ := tx_cv_some hT
    refine gx_callV (pc := 82) (As := [.int x2, .int x5, .int x4]) (rest := []) cm_Machine_enter lk_Machine_33 (fx_Machine_enter_c l E σ x2 x5 x4 _ cσ14) (rfl) (by decide) rfl rfl tx_fi_Machine_callMethod_Machine_enter (Nat.le_of_ble_eq_true rfl) d_Machine_callMethod_82 ?_
    change gx l E mi_Machine_callMethod _ σ14 [(0, .ref (E.1 25)), (2, .int x2), (4, .int x4), (5, .int x5)] 85 []
    refine gx_iconst (pc := 85) (0 : Int32) d_Machine_callMethod_85 (by decide) ?_
    cases hT
    exact gx_iret (pc := 86) d_Machine_callMethod_86 rfl rfl
  · have hT := tx_ifp h13 hT
    refine gx_iconst (pc := 74) (3 : Int32) d_Machine_callMethod_74 (by decide) ?_
    cases hT
    exact gx_iret (pc := 75) d_Machine_callMethod_75 rfl rfl
set_option maxRecDepth 100000 in
set_option maxHeartbeats 4000000 in
theorem fx_Machine_callMethod_b52_w {l : Launch} {E : tx_E} (σ : tx_St) (x2 : Int32) (x3 : Int32) (x4 : Int32) (s0 : Int32) (t : Int32 × tx_St) (hT : fx_Machine_callMethod_b52 σ x2 x3 x4 s0 = some t) : gx l E mi_Machine_callMethod (some (.int t.1), t.2) σ [(0, .ref (E.1 25)), (2, .int x2), (3, .int x3), (4, .int x4)] 52 [.int s0] := by
  unfold fx_Machine_callMethod_b52 at hT
  refine gx_istore (pc := 52) [(5, .int s0), (0, .ref (E.1 25)), (2, .int x2), (3, .int x3), (4, .int x4)] d_Machine_callMethod_52 (Nat.le_of_ble_eq_true rfl) rfl ?_
  refine gx_iload_n (pc := 54) 3 d_Machine_callMethod_54 rfl rfl ?_
  refine gx_if_eq (pc := 55) 65 d_Machine_callMethod_55 rfl (fun h11 => ?_) (fun h11 => ?_)
  · have hT := tx_ifp h11 hT
    refine gx_sub [1, 2, 4, 0] rfl ?_
    exact fx_Machine_callMethod_b65_w  σ x2 x4 s0 _ hT
  · have hT := tx_ifn h11 hT
    refine gx_iload (pc := 58) 0 d_Machine_callMethod_58 rfl ?_
    refine gx_if_ne (pc := 60) 65 d_Machine_callMethod_60 rfl (fun h12 => ?_) (fun h12 => ?_)
    · have hT := tx_ifn h12 hT
      refine gx_sub [1, 2, 4, 0] rfl ?_
      exact fx_Machine_callMethod_b65_w  σ x2 x4 s0 _ hT
    · have hT := tx_ifp h12 hT
      refine gx_iconst (pc := 63) (1 : Int32) d_Machine_callMethod_63 (by decide) ?_
      cases hT
      exact gx_iret (pc := 64) d_Machine_callMethod_64 rfl rfl
set_option maxRecDepth 100000 in
set_option maxHeartbeats 4000000 in
theorem fx_Machine_callMethod_b38_w {l : Launch} {E : tx_E} (σ : tx_St) (x1 : Nat) (x2 : Int32) (x3 : Int32) (s0 : Int32) (hx1 : tx_isFr x1) (t : Int32 × tx_St) (hT : fx_Machine_callMethod_b38 σ x1 x2 x3 s0 = some t) : gx l E mi_Machine_callMethod (some (.int t.1), t.2) σ [(0, .ref (E.1 25)), (1, .ref (E.1 x1)), (2, .int x2), (3, .int x3)] 38 [.int s0] := by
  unfold fx_Machine_callMethod_b38 at hT
  refine gx_istore (pc := 38) [(4, .int s0), (0, .ref (E.1 25)), (1, .ref (E.1 x1)), (2, .int x2), (3, .int x3)] d_Machine_callMethod_38 (Nat.le_of_ble_eq_true rfl) rfl ?_
  refine gx_iload_n (pc := 40) 4 d_Machine_callMethod_40 rfl rfl ?_
  refine gx_if_eq (pc := 41) 51 d_Machine_callMethod_41 rfl (fun h8 => ?_) (fun h8 => ?_)
  · have hT := tx_ifp h8 hT
    refine gx_iconst (pc := 51) (0 : Int32) d_Machine_callMethod_51 (by decide) ?_
    refine gx_sub [1, 3, 4, 0] rfl ?_
    exact fx_Machine_callMethod_b52_w  σ x2 x3 s0 (0 : Int32) _ hT
  · have hT := tx_ifn h8 hT
    refine gx_aload_n (pc := 44) 2 d_Machine_callMethod_44 rfl rfl ?_
    obtain ⟨r10, σ9, cσ9, hT⟩ := tx_ci_some hT
    refine gx_callV (pc := 45) (As := []) (rest := []) cm_Frame_pop lk_Machine_82 (fx_Frame_pop_c l E σ x1 hx1 _ cσ9) (tx_fr0 hx1) (by decide) rfl rfl tx_fi_Machine_callMethod_Frame_pop (Nat.le_of_ble_eq_true rfl) d_Machine_callMethod_45 ?_
    change gx l E mi_Machine_callMethod _ σ9 [(4, .int s0), (0, .ref (E.1 25)), (1, .ref (E.1 x1)), (2, .int x2), (3, .int x3)] 48 [.int r10]
    refine gx_goto (pc := 48) 52 d_Machine_callMethod_48 rfl ?_
    refine gx_sub [1, 3, 4, 0] rfl ?_
    exact fx_Machine_callMethod_b52_w  σ9 x2 x3 s0 r10 _ hT
set_option maxRecDepth 100000 in
set_option maxHeartbeats 4000000 in
theorem fx_Machine_callMethod_b16_w {l : Launch} {E : tx_E} (σ : tx_St) (x1 : Nat) (x2 : Int32) (s0 : Int32) (hx1 : tx_isFr x1) (t : Int32 × tx_St) (hT : fx_Machine_callMethod_b16 σ x1 x2 s0 = some t) : gx l E mi_Machine_callMethod (some (.int t.1), t.2) σ [(0, .ref (E.1 25)), (1, .ref (E.1 x1)), (2, .int x2)] 16 [.int s0] := by
  unfold fx_Machine_callMethod_b16 at hT
  refine gx_istore_n (pc := 16) [(3, .int s0), (0, .ref (E.1 25)), (1, .ref (E.1 x1)), (2, .int x2)] d_Machine_callMethod_16 rfl (Nat.le_of_ble_eq_true rfl) rfl ?_
  refine gx_aload_n (pc := 17) 1 d_Machine_callMethod_17 rfl rfl ?_
  refine gx_getR (pc := 18) 1 fl_Machine_17 d_Machine_callMethod_18 (rfl) (by decide) rfl ?_
  refine gx_getR (pc := 21) 10 fl_Machine_128 d_Machine_callMethod_21 (rfl) (by decide) rfl ?_
  refine gx_iload_n (pc := 24) 3 d_Machine_callMethod_24 rfl rfl ?_
  obtain ⟨v4, gv4, iv4, hT⟩ := tx_rd_some hT
  refine gx_iald (pc := 25) v4 d_Machine_callMethod_25 (rfl) iv4 gv4 ?_
  refine gx_iconst (pc := 26) (-1 : Int32) d_Machine_callMethod_26 (by decide) ?_
  refine gx_icmp_ne (pc := 27) 34 d_Machine_callMethod_27 rfl (fun h5 => ?_) (fun h5 => ?_)
  · have hT := tx_ifn h5 hT
    refine gx_aload_n (pc := 34) 2 d_Machine_callMethod_34 rfl rfl ?_
    obtain ⟨r7, σ6, cσ6, hT⟩ := tx_ci_some hT
    refine gx_callV (pc := 35) (As := []) (rest := []) cm_Frame_pop lk_Machine_82 (fx_Frame_pop_c l E σ x1 hx1 _ cσ6) (tx_fr0 hx1) (by decide) rfl rfl tx_fi_Machine_callMethod_Frame_pop (Nat.le_of_ble_eq_true rfl) d_Machine_callMethod_35 ?_
    change gx l E mi_Machine_callMethod _ σ6 [(3, .int s0), (0, .ref (E.1 25)), (1, .ref (E.1 x1)), (2, .int x2)] 38 [.int r7]
    refine gx_sub [1, 2, 3, 0] rfl ?_
    exact fx_Machine_callMethod_b38_w  σ6 x1 x2 s0 r7 hx1 _ hT
  · have hT := tx_ifp h5 hT
    refine gx_iconst (pc := 30) (0 : Int32) d_Machine_callMethod_30 (by decide) ?_
    refine gx_goto (pc := 31) 38 d_Machine_callMethod_31 rfl ?_
    refine gx_sub [1, 2, 3, 0] rfl ?_
    exact fx_Machine_callMethod_b38_w  σ x1 x2 s0 (0 : Int32) hx1 _ hT
set_option maxRecDepth 100000 in
set_option maxHeartbeats 4000000 in
theorem fx_Machine_callMethod_c (l : Launch) (E : tx_E) (σ : tx_St) (x1 : Nat) (x2 : Int32) (hx1 : tx_isFr x1) (t : Int32 × tx_St) (hT : fx_Machine_callMethod σ x1 x2 = some t) : tx_MX l E y_Machine_callMethod mi_Machine_callMethod (some (.int t.1), t.2) [.ref (E.1 25), .ref (E.1 x1), .int x2] σ := by
  refine tx_MX_of (by decide) rfl (Nat.le_of_ble_eq_true rfl) ?_
  show gx l E mi_Machine_callMethod (some (.int t.1), t.2) σ [(0, .ref (E.1 25)), (1, .ref (E.1 x1)), (2, .int x2)] 0 []
  unfold fx_Machine_callMethod at hT
  refine gx_aload_n (pc := 0) 0 d_Machine_callMethod_0 rfl rfl ?_
  refine gx_getR (pc := 1) 1 fl_Machine_17 d_Machine_callMethod_1 (rfl) (by decide) rfl ?_
  refine gx_iload_n (pc := 4) 2 d_Machine_callMethod_4 rfl rfl ?_
  obtain ⟨r2, σ1, cσ1, hT⟩ := tx_ci_some hT
  refine gx_callV (pc := 5) (As := [.int x2]) (rest := []) cm_Plan_isStaticMethod lk_Machine_44 (fx_Plan_isStaticMethod_c l E σ x2 _ cσ1) (rfl) (by decide) rfl rfl tx_fi_Machine_callMethod_Plan_isStaticMethod (Nat.le_of_ble_eq_true rfl) d_Machine_callMethod_5 ?_
  change gx l E mi_Machine_callMethod _ σ1 [(0, .ref (E.1 25)), (1, .ref (E.1 x1)), (2, .int x2)] 8 [.int r2]
  refine gx_if_ne (pc := 8) 15 d_Machine_callMethod_8 rfl (fun h3 => ?_) (fun h3 => ?_)
  · have hT := tx_ifn h3 hT
    refine gx_iconst (pc := 15) (0 : Int32) d_Machine_callMethod_15 (by decide) ?_
    exact fx_Machine_callMethod_b16_w  σ1 x1 x2 (0 : Int32) hx1 _ hT
  · have hT := tx_ifp h3 hT
    refine gx_iconst (pc := 11) (1 : Int32) d_Machine_callMethod_11 (by decide) ?_
    refine gx_goto (pc := 12) 16 d_Machine_callMethod_12 rfl ?_
    exact fx_Machine_callMethod_b16_w  σ1 x1 x2 (1 : Int32) hx1 _ hT
