theorem d_Plan_isClass_0 : decode c_Plan_isClass 0 = .ok (.iload_n 1, 1) := by decide +kernel
theorem d_Plan_isClass_1 : decode c_Plan_isClass 1 = .ok (.ifCond .lt (15), 3) := by decide +kernel
theorem d_Plan_isClass_4 : decode c_Plan_isClass 4 = .ok (.iload_n 1, 1) := by decide +kernel
theorem d_Plan_isClass_5 : decode c_Plan_isClass 5 = .ok (.aload_n 0, 1) := by decide +kernel
theorem d_Plan_isClass_6 : decode c_Plan_isClass 6 = .ok (.getfield 51, 3) := by decide +kernel
theorem d_Plan_isClass_9 : decode c_Plan_isClass 9 = .ok (.if_icmp .ge (7), 3) := by decide +kernel
theorem d_Plan_isClass_12 : decode c_Plan_isClass 12 = .ok (.iconst (1), 1) := by decide +kernel
theorem d_Plan_isClass_13 : decode c_Plan_isClass 13 = .ok (.goto (4), 3) := by decide +kernel
theorem d_Plan_isClass_16 : decode c_Plan_isClass 16 = .ok (.iconst (0), 1) := by decide +kernel
theorem d_Plan_isClass_17 : decode c_Plan_isClass 17 = .ok (.ireturn, 1) := by decide +kernel
def fx_Plan_isClass_b17 (σ : tx_St) (s0 : Int32) : Option (Int32 × tx_St) := tx_rz s0 σ
def fx_Plan_isClass_b16 (σ : tx_St) : Option (Int32 × tx_St) := fx_Plan_isClass_b17  σ (0 : Int32)
def fx_Plan_isClass (σ : tx_St) (x1 : Int32) : Option (Int32 × tx_St) := (if x1 < 0 then fx_Plan_isClass_b16  σ else (if (σ 1 0) ≤ x1 then fx_Plan_isClass_b16  σ else fx_Plan_isClass_b17  σ (1 : Int32)))
set_option maxRecDepth 100000 in
set_option maxHeartbeats 4000000 in
theorem fx_Plan_isClass_b17_w {l : Launch} {E : tx_E} (σ : tx_St) (s0 : Int32) (t : Int32 × tx_St) (hT : fx_Plan_isClass_b17 σ s0 = some t) : gx l E mi_Plan_isClass (some (.int t.1), t.2) σ [] 17 [.int s0] := by
  unfold fx_Plan_isClass_b17 at hT
  obtain ⟨hz, hT⟩ := tx_rz_some hT
  cases hT
  exact gx_zret (pc := 17) d_Plan_isClass_17 rfl hz rfl
set_option maxRecDepth 100000 in
set_option maxHeartbeats 4000000 in
theorem fx_Plan_isClass_b16_w {l : Launch} {E : tx_E} (σ : tx_St) (t : Int32 × tx_St) (hT : fx_Plan_isClass_b16 σ  = some t) : gx l E mi_Plan_isClass (some (.int t.1), t.2) σ [] 16 [] := by
  unfold fx_Plan_isClass_b16 at hT
  refine gx_iconst (pc := 16) (0 : Int32) d_Plan_isClass_16 (by decide) ?_
  exact fx_Plan_isClass_b17_w  σ (0 : Int32) _ hT
set_option maxRecDepth 100000 in
set_option maxHeartbeats 4000000 in
theorem fx_Plan_isClass_c (l : Launch) (E : tx_E) (σ : tx_St) (x1 : Int32) (t : Int32 × tx_St) (hT : fx_Plan_isClass σ x1 = some t) : tx_MX l E y_Plan_isClass mi_Plan_isClass (some (.int t.1), t.2) [.ref (E.1 1), .int x1] σ := by
  refine tx_MX_of (by decide) rfl (Nat.le_of_ble_eq_true rfl) ?_
  show gx l E mi_Plan_isClass (some (.int t.1), t.2) σ [(0, .ref (E.1 1)), (1, .int x1)] 0 []
  unfold fx_Plan_isClass at hT
  refine gx_iload_n (pc := 0) 1 d_Plan_isClass_0 rfl rfl ?_
  refine gx_if_lt (pc := 1) 16 d_Plan_isClass_1 rfl (fun h1 => ?_) (fun h1 => ?_)
  · have hT := tx_ifp h1 hT
    refine gx_sub [] rfl ?_
    exact fx_Plan_isClass_b16_w  σ _ hT
  · have hT := tx_ifn h1 hT
    refine gx_iload_n (pc := 4) 1 d_Plan_isClass_4 rfl rfl ?_
    refine gx_aload_n (pc := 5) 0 d_Plan_isClass_5 rfl rfl ?_
    refine gx_getI (pc := 6) (σ 1 0) fl_Plan_51 d_Plan_isClass_6 (rfl) (by decide) rfl rfl ?_
    refine gx_icmp_ge (pc := 9) 16 d_Plan_isClass_9 rfl (fun h2 => ?_) (fun h2 => ?_)
    · have hT := tx_ifp h2 hT
      refine gx_sub [] rfl ?_
      exact fx_Plan_isClass_b16_w  σ _ hT
    · have hT := tx_ifn h2 hT
      refine gx_iconst (pc := 12) (1 : Int32) d_Plan_isClass_12 (by decide) ?_
      refine gx_goto (pc := 13) 17 d_Plan_isClass_13 rfl ?_
      refine gx_sub [] rfl ?_
      exact fx_Plan_isClass_b17_w  σ (1 : Int32) _ hT
theorem d_Plan_newClass_0 : decode c_Plan_newClass 0 = .ok (.aload_n 0, 1) := by decide +kernel
theorem d_Plan_newClass_1 : decode c_Plan_newClass 1 = .ok (.getfield 51, 3) := by decide +kernel
theorem d_Plan_newClass_4 : decode c_Plan_newClass 4 = .ok (.istore_n 3, 1) := by decide +kernel
theorem d_Plan_newClass_5 : decode c_Plan_newClass 5 = .ok (.iload_n 1, 1) := by decide +kernel
theorem d_Plan_newClass_6 : decode c_Plan_newClass 6 = .ok (.iconst (-1), 1) := by decide +kernel
theorem d_Plan_newClass_7 : decode c_Plan_newClass 7 = .ok (.if_icmp .ne (7), 3) := by decide +kernel
theorem d_Plan_newClass_10 : decode c_Plan_newClass 10 = .ok (.iconst (0), 1) := by decide +kernel
theorem d_Plan_newClass_11 : decode c_Plan_newClass 11 = .ok (.goto (9), 3) := by decide +kernel
theorem d_Plan_newClass_14 : decode c_Plan_newClass 14 = .ok (.aload_n 0, 1) := by decide +kernel
theorem d_Plan_newClass_15 : decode c_Plan_newClass 15 = .ok (.getfield 9, 3) := by decide +kernel
theorem d_Plan_newClass_18 : decode c_Plan_newClass 18 = .ok (.iload_n 1, 1) := by decide +kernel
theorem d_Plan_newClass_19 : decode c_Plan_newClass 19 = .ok (.iaload, 1) := by decide +kernel
theorem d_Plan_newClass_20 : decode c_Plan_newClass 20 = .ok (.istore 4, 2) := by decide +kernel
theorem d_Plan_newClass_22 : decode c_Plan_newClass 22 = .ok (.iload_n 1, 1) := by decide +kernel
theorem d_Plan_newClass_23 : decode c_Plan_newClass 23 = .ok (.iconst (-1), 1) := by decide +kernel
theorem d_Plan_newClass_24 : decode c_Plan_newClass 24 = .ok (.if_icmp .ne (7), 3) := by decide +kernel
theorem d_Plan_newClass_27 : decode c_Plan_newClass 27 = .ok (.iconst (0), 1) := by decide +kernel
theorem d_Plan_newClass_28 : decode c_Plan_newClass 28 = .ok (.goto (9), 3) := by decide +kernel
theorem d_Plan_newClass_31 : decode c_Plan_newClass 31 = .ok (.aload_n 0, 1) := by decide +kernel
theorem d_Plan_newClass_32 : decode c_Plan_newClass 32 = .ok (.getfield 15, 3) := by decide +kernel
theorem d_Plan_newClass_35 : decode c_Plan_newClass 35 = .ok (.iload_n 1, 1) := by decide +kernel
theorem d_Plan_newClass_36 : decode c_Plan_newClass 36 = .ok (.iaload, 1) := by decide +kernel
theorem d_Plan_newClass_37 : decode c_Plan_newClass 37 = .ok (.istore 5, 2) := by decide +kernel
theorem d_Plan_newClass_39 : decode c_Plan_newClass 39 = .ok (.aload_n 0, 1) := by decide +kernel
theorem d_Plan_newClass_40 : decode c_Plan_newClass 40 = .ok (.getfield 9, 3) := by decide +kernel
theorem d_Plan_newClass_43 : decode c_Plan_newClass 43 = .ok (.iload_n 3, 1) := by decide +kernel
theorem d_Plan_newClass_44 : decode c_Plan_newClass 44 = .ok (.iload 4, 2) := by decide +kernel
theorem d_Plan_newClass_46 : decode c_Plan_newClass 46 = .ok (.iconst (1), 1) := by decide +kernel
theorem d_Plan_newClass_47 : decode c_Plan_newClass 47 = .ok (.iload_n 3, 1) := by decide +kernel
theorem d_Plan_newClass_48 : decode c_Plan_newClass 48 = .ok (.ishl, 1) := by decide +kernel
theorem d_Plan_newClass_49 : decode c_Plan_newClass 49 = .ok (.ior, 1) := by decide +kernel
theorem d_Plan_newClass_50 : decode c_Plan_newClass 50 = .ok (.iastore, 1) := by decide +kernel
theorem d_Plan_newClass_51 : decode c_Plan_newClass 51 = .ok (.aload_n 0, 1) := by decide +kernel
theorem d_Plan_newClass_52 : decode c_Plan_newClass 52 = .ok (.getfield 15, 3) := by decide +kernel
theorem d_Plan_newClass_55 : decode c_Plan_newClass 55 = .ok (.iload_n 3, 1) := by decide +kernel
theorem d_Plan_newClass_56 : decode c_Plan_newClass 56 = .ok (.iload 5, 2) := by decide +kernel
theorem d_Plan_newClass_58 : decode c_Plan_newClass 58 = .ok (.iload_n 2, 1) := by decide +kernel
theorem d_Plan_newClass_59 : decode c_Plan_newClass 59 = .ok (.ior, 1) := by decide +kernel
theorem d_Plan_newClass_60 : decode c_Plan_newClass 60 = .ok (.iastore, 1) := by decide +kernel
theorem d_Plan_newClass_61 : decode c_Plan_newClass 61 = .ok (.aload_n 0, 1) := by decide +kernel
theorem d_Plan_newClass_62 : decode c_Plan_newClass 62 = .ok (.dup, 1) := by decide +kernel
theorem d_Plan_newClass_63 : decode c_Plan_newClass 63 = .ok (.getfield 51, 3) := by decide +kernel
theorem d_Plan_newClass_66 : decode c_Plan_newClass 66 = .ok (.iconst (1), 1) := by decide +kernel
theorem d_Plan_newClass_67 : decode c_Plan_newClass 67 = .ok (.iadd, 1) := by decide +kernel
theorem d_Plan_newClass_68 : decode c_Plan_newClass 68 = .ok (.putfield 51, 3) := by decide +kernel
theorem d_Plan_newClass_71 : decode c_Plan_newClass 71 = .ok (.iload_n 3, 1) := by decide +kernel
theorem d_Plan_newClass_72 : decode c_Plan_newClass 72 = .ok (.ireturn, 1) := by decide +kernel
def fx_Plan_newClass_b37 (σ : tx_St) (x2 : Int32) (x3 : Int32) (x4 : Int32) (s0 : Int32) : Option (Int32 × tx_St) := tx_wr σ 2 8 x3 (x4 ||| ((1 : Int32) <<< (x3 &&& 31))) fun σ5 => tx_wr σ5 3 8 x3 (s0 ||| x2) fun σ6 => tx_pt σ6 1 0 ((σ6 1 0) + (1 : Int32)) fun σ7 => some (x3, σ7)
def fx_Plan_newClass_b20 (σ : tx_St) (x1 : Int32) (x2 : Int32) (x3 : Int32) (s0 : Int32) : Option (Int32 × tx_St) := (if x1 = (-1 : Int32) then fx_Plan_newClass_b37  σ x2 x3 s0 (0 : Int32) else tx_rd σ 3 8 x1 fun v4 => fx_Plan_newClass_b37  σ x2 x3 s0 v4)
def fx_Plan_newClass (σ : tx_St) (x1 : Int32) (x2 : Int32) : Option (Int32 × tx_St) := (if x1 = (-1 : Int32) then fx_Plan_newClass_b20  σ x1 x2 (σ 1 0) (0 : Int32) else tx_rd σ 2 8 x1 fun v2 => fx_Plan_newClass_b20  σ x1 x2 (σ 1 0) v2)
set_option maxRecDepth 100000 in
set_option maxHeartbeats 4000000 in
theorem fx_Plan_newClass_b37_w {l : Launch} {E : tx_E} (σ : tx_St) (x2 : Int32) (x3 : Int32) (x4 : Int32) (s0 : Int32) (t : Int32 × tx_St) (hT : fx_Plan_newClass_b37 σ x2 x3 x4 s0 = some t) : gx l E mi_Plan_newClass (some (.int t.1), t.2) σ [(0, .ref (E.1 1)), (2, .int x2), (3, .int x3), (4, .int x4)] 37 [.int s0] := by
  unfold fx_Plan_newClass_b37 at hT
  refine gx_istore (pc := 37) [(5, .int s0), (0, .ref (E.1 1)), (2, .int x2), (3, .int x3), (4, .int x4)] d_Plan_newClass_37 (Nat.le_of_ble_eq_true rfl) rfl ?_
  refine gx_aload_n (pc := 39) 1 d_Plan_newClass_39 rfl rfl ?_
  refine gx_getR (pc := 40) 2 fl_Plan_9 d_Plan_newClass_40 (rfl) (by decide) rfl ?_
  refine gx_iload_n (pc := 43) 3 d_Plan_newClass_43 rfl rfl ?_
  refine gx_iload (pc := 44) 4 d_Plan_newClass_44 rfl ?_
  refine gx_iconst (pc := 46) (1 : Int32) d_Plan_newClass_46 (by decide) ?_
  refine gx_iload_n (pc := 47) 3 d_Plan_newClass_47 rfl rfl ?_
  refine gx_ishl (pc := 48) d_Plan_newClass_48 ?_
  refine gx_ior (pc := 49) d_Plan_newClass_49 ?_
  obtain ⟨σ5, gσ5, iσ5, hT⟩ := tx_wr_some hT
  refine gx_iast (pc := 50) d_Plan_newClass_50 (rfl) iσ5 ?_
  rw [gσ5]
  refine gx_aload_n (pc := 51) 1 d_Plan_newClass_51 rfl rfl ?_
  refine gx_getR (pc := 52) 3 fl_Plan_15 d_Plan_newClass_52 (rfl) (by decide) rfl ?_
  refine gx_iload_n (pc := 55) 3 d_Plan_newClass_55 rfl rfl ?_
  refine gx_iload (pc := 56) 0 d_Plan_newClass_56 rfl ?_
  refine gx_iload_n (pc := 58) 2 d_Plan_newClass_58 rfl rfl ?_
  refine gx_ior (pc := 59) d_Plan_newClass_59 ?_
  obtain ⟨σ6, gσ6, iσ6, hT⟩ := tx_wr_some hT
  refine gx_iast (pc := 60) d_Plan_newClass_60 (rfl) iσ6 ?_
  rw [gσ6]
  refine gx_aload_n (pc := 61) 1 d_Plan_newClass_61 rfl rfl ?_
  refine gx_dup (pc := 62) d_Plan_newClass_62 rfl ?_
  refine gx_getI (pc := 63) (σ6 1 0) fl_Plan_51 d_Plan_newClass_63 (rfl) (by decide) rfl rfl ?_
  refine gx_iconst (pc := 66) (1 : Int32) d_Plan_newClass_66 (by decide) ?_
  refine gx_iadd (pc := 67) d_Plan_newClass_67 ?_
  obtain ⟨σ7, gσ7, hT⟩ := tx_pt_some hT
  refine gx_putI (pc := 68) fp_Plan_51 d_Plan_newClass_68 (rfl) (by decide) rfl ?_
  rw [gσ7]
  refine gx_iload_n (pc := 71) 3 d_Plan_newClass_71 rfl rfl ?_
  cases hT
  exact gx_iret (pc := 72) d_Plan_newClass_72 rfl rfl
set_option maxRecDepth 100000 in
set_option maxHeartbeats 4000000 in
theorem fx_Plan_newClass_b20_w {l : Launch} {E : tx_E} (σ : tx_St) (x1 : Int32) (x2 : Int32) (x3 : Int32) (s0 : Int32) (t : Int32 × tx_St) (hT : fx_Plan_newClass_b20 σ x1 x2 x3 s0 = some t) : gx l E mi_Plan_newClass (some (.int t.1), t.2) σ [(0, .ref (E.1 1)), (1, .int x1), (2, .int x2), (3, .int x3)] 20 [.int s0] := by
  unfold fx_Plan_newClass_b20 at hT
  refine gx_istore (pc := 20) [(4, .int s0), (0, .ref (E.1 1)), (1, .int x1), (2, .int x2), (3, .int x3)] d_Plan_newClass_20 (Nat.le_of_ble_eq_true rfl) rfl ?_
  refine gx_iload_n (pc := 22) 2 d_Plan_newClass_22 rfl rfl ?_
  refine gx_iconst (pc := 23) (-1 : Int32) d_Plan_newClass_23 (by decide) ?_
  refine gx_icmp_ne (pc := 24) 31 d_Plan_newClass_24 rfl (fun h3 => ?_) (fun h3 => ?_)
  · have hT := tx_ifn h3 hT
    refine gx_aload_n (pc := 31) 1 d_Plan_newClass_31 rfl rfl ?_
    refine gx_getR (pc := 32) 3 fl_Plan_15 d_Plan_newClass_32 (rfl) (by decide) rfl ?_
    refine gx_iload_n (pc := 35) 2 d_Plan_newClass_35 rfl rfl ?_
    obtain ⟨v4, gv4, iv4, hT⟩ := tx_rd_some hT
    refine gx_iald (pc := 36) v4 d_Plan_newClass_36 (rfl) iv4 gv4 ?_
    refine gx_sub [1, 3, 4, 0] rfl ?_
    exact fx_Plan_newClass_b37_w  σ x2 x3 s0 v4 _ hT
  · have hT := tx_ifp h3 hT
    refine gx_iconst (pc := 27) (0 : Int32) d_Plan_newClass_27 (by decide) ?_
    refine gx_goto (pc := 28) 37 d_Plan_newClass_28 rfl ?_
    refine gx_sub [1, 3, 4, 0] rfl ?_
    exact fx_Plan_newClass_b37_w  σ x2 x3 s0 (0 : Int32) _ hT
set_option maxRecDepth 100000 in
set_option maxHeartbeats 4000000 in
theorem fx_Plan_newClass_c (l : Launch) (E : tx_E) (σ : tx_St) (x1 : Int32) (x2 : Int32) (t : Int32 × tx_St) (hT : fx_Plan_newClass σ x1 x2 = some t) : tx_MX l E y_Plan_newClass mi_Plan_newClass (some (.int t.1), t.2) [.ref (E.1 1), .int x1, .int x2] σ := by
  refine tx_MX_of (by decide) rfl (Nat.le_of_ble_eq_true rfl) ?_
  show gx l E mi_Plan_newClass (some (.int t.1), t.2) σ [(0, .ref (E.1 1)), (1, .int x1), (2, .int x2)] 0 []
  unfold fx_Plan_newClass at hT
  refine gx_aload_n (pc := 0) 0 d_Plan_newClass_0 rfl rfl ?_
  refine gx_getI (pc := 1) (σ 1 0) fl_Plan_51 d_Plan_newClass_1 (rfl) (by decide) rfl rfl ?_
  refine gx_istore_n (pc := 4) [(3, .int (σ 1 0)), (0, .ref (E.1 1)), (1, .int x1), (2, .int x2)] d_Plan_newClass_4 rfl (Nat.le_of_ble_eq_true rfl) rfl ?_
  refine gx_iload_n (pc := 5) 2 d_Plan_newClass_5 rfl rfl ?_
  refine gx_iconst (pc := 6) (-1 : Int32) d_Plan_newClass_6 (by decide) ?_
  refine gx_icmp_ne (pc := 7) 14 d_Plan_newClass_7 rfl (fun h1 => ?_) (fun h1 => ?_)
  · have hT := tx_ifn h1 hT
    refine gx_aload_n (pc := 14) 1 d_Plan_newClass_14 rfl rfl ?_
    refine gx_getR (pc := 15) 2 fl_Plan_9 d_Plan_newClass_15 (rfl) (by decide) rfl ?_
    refine gx_iload_n (pc := 18) 2 d_Plan_newClass_18 rfl rfl ?_
    obtain ⟨v2, gv2, iv2, hT⟩ := tx_rd_some hT
    refine gx_iald (pc := 19) v2 d_Plan_newClass_19 (rfl) iv2 gv2 ?_
    refine gx_sub [1, 2, 3, 0] rfl ?_
    exact fx_Plan_newClass_b20_w  σ x1 x2 (σ 1 0) v2 _ hT
  · have hT := tx_ifp h1 hT
    refine gx_iconst (pc := 10) (0 : Int32) d_Plan_newClass_10 (by decide) ?_
    refine gx_goto (pc := 11) 20 d_Plan_newClass_11 rfl ?_
    refine gx_sub [1, 2, 3, 0] rfl ?_
    exact fx_Plan_newClass_b20_w  σ x1 x2 (σ 1 0) (0 : Int32) _ hT
theorem d_X_addClass_0 : decode c_X_addClass 0 = .ok (.aload_n 0, 1) := by decide +kernel
theorem d_X_addClass_1 : decode c_X_addClass 1 = .ok (.getfield 50, 3) := by decide +kernel
theorem d_X_addClass_4 : decode c_X_addClass 4 = .ok (.ifCond .eq (6), 3) := by decide +kernel
theorem d_X_addClass_7 : decode c_X_addClass 7 = .ok (.bipush (-3), 2) := by decide +kernel
theorem d_X_addClass_9 : decode c_X_addClass 9 = .ok (.ireturn, 1) := by decide +kernel
theorem d_X_addClass_10 : decode c_X_addClass 10 = .ok (.iload_n 1, 1) := by decide +kernel
theorem d_X_addClass_11 : decode c_X_addClass 11 = .ok (.iconst (-1), 1) := by decide +kernel
theorem d_X_addClass_12 : decode c_X_addClass 12 = .ok (.if_icmp .eq (14), 3) := by decide +kernel
theorem d_X_addClass_15 : decode c_X_addClass 15 = .ok (.aload_n 0, 1) := by decide +kernel
theorem d_X_addClass_16 : decode c_X_addClass 16 = .ok (.getfield 10, 3) := by decide +kernel
theorem d_X_addClass_19 : decode c_X_addClass 19 = .ok (.iload_n 1, 1) := by decide +kernel
theorem d_X_addClass_20 : decode c_X_addClass 20 = .ok (.invokevirtual 61, 3) := by decide +kernel
theorem d_X_addClass_23 : decode c_X_addClass 23 = .ok (.ifCond .eq (7), 3) := by decide +kernel
theorem d_X_addClass_26 : decode c_X_addClass 26 = .ok (.iconst (1), 1) := by decide +kernel
theorem d_X_addClass_27 : decode c_X_addClass 27 = .ok (.goto (4), 3) := by decide +kernel
theorem d_X_addClass_30 : decode c_X_addClass 30 = .ok (.iconst (0), 1) := by decide +kernel
theorem d_X_addClass_31 : decode c_X_addClass 31 = .ok (.istore_n 3, 1) := by decide +kernel
theorem d_X_addClass_32 : decode c_X_addClass 32 = .ok (.iload_n 3, 1) := by decide +kernel
theorem d_X_addClass_33 : decode c_X_addClass 33 = .ok (.ifCond .eq (12), 3) := by decide +kernel
theorem d_X_addClass_36 : decode c_X_addClass 36 = .ok (.iload_n 2, 1) := by decide +kernel
theorem d_X_addClass_37 : decode c_X_addClass 37 = .ok (.ifCond .lt (8), 3) := by decide +kernel
theorem d_X_addClass_40 : decode c_X_addClass 40 = .ok (.iload_n 2, 1) := by decide +kernel
theorem d_X_addClass_41 : decode c_X_addClass 41 = .ok (.iconst (3), 1) := by decide +kernel
theorem d_X_addClass_42 : decode c_X_addClass 42 = .ok (.if_icmp .le (5), 3) := by decide +kernel
theorem d_X_addClass_45 : decode c_X_addClass 45 = .ok (.iconst (-1), 1) := by decide +kernel
theorem d_X_addClass_46 : decode c_X_addClass 46 = .ok (.ireturn, 1) := by decide +kernel
theorem d_X_addClass_47 : decode c_X_addClass 47 = .ok (.aload_n 0, 1) := by decide +kernel
theorem d_X_addClass_48 : decode c_X_addClass 48 = .ok (.getfield 10, 3) := by decide +kernel
theorem d_X_addClass_51 : decode c_X_addClass 51 = .ok (.getfield 65, 3) := by decide +kernel
theorem d_X_addClass_54 : decode c_X_addClass 54 = .ok (.bipush (8), 2) := by decide +kernel
theorem d_X_addClass_56 : decode c_X_addClass 56 = .ok (.if_icmp .ne (6), 3) := by decide +kernel
theorem d_X_addClass_59 : decode c_X_addClass 59 = .ok (.bipush (-2), 2) := by decide +kernel
theorem d_X_addClass_61 : decode c_X_addClass 61 = .ok (.ireturn, 1) := by decide +kernel
theorem d_X_addClass_62 : decode c_X_addClass 62 = .ok (.aload_n 0, 1) := by decide +kernel
theorem d_X_addClass_63 : decode c_X_addClass 63 = .ok (.getfield 10, 3) := by decide +kernel
theorem d_X_addClass_66 : decode c_X_addClass 66 = .ok (.iload_n 1, 1) := by decide +kernel
theorem d_X_addClass_67 : decode c_X_addClass 67 = .ok (.iload_n 2, 1) := by decide +kernel
theorem d_X_addClass_68 : decode c_X_addClass 68 = .ok (.invokevirtual 68, 3) := by decide +kernel
theorem d_X_addClass_71 : decode c_X_addClass 71 = .ok (.ireturn, 1) := by decide +kernel
def fx_X_addClass_b45 (σ : tx_St) : Option (Int32 × tx_St) := some ((-1 : Int32), σ)
def fx_X_addClass_b31 (σ : tx_St) (x1 : Int32) (x2 : Int32) (s0 : Int32) : Option (Int32 × tx_St) := (if s0 = 0 then fx_X_addClass_b45  σ else (if x2 < 0 then fx_X_addClass_b45  σ else (if x2 ≤ (3 : Int32) then (if (σ 1 0) = (8 : Int32) then some ((-2 : Int32), σ) else tx_ci (fx_Plan_newClass σ x1 x2) fun r11 σ10 => some (r11, σ10)) else fx_X_addClass_b45  σ)))
def fx_X_addClass_b26 (σ : tx_St) (x1 : Int32) (x2 : Int32) : Option (Int32 × tx_St) := fx_X_addClass_b31  σ x1 x2 (1 : Int32)
def fx_X_addClass (σ : tx_St) (x1 : Int32) (x2 : Int32) : Option (Int32 × tx_St) := (if (σ 0 5) = 0 then (if x1 = (-1 : Int32) then fx_X_addClass_b26  σ x1 x2 else tx_ci (fx_Plan_isClass σ x1) fun r4 σ3 => (if r4 = 0 then fx_X_addClass_b31  σ3 x1 x2 (0 : Int32) else fx_X_addClass_b26  σ3 x1 x2)) else some ((-3 : Int32), σ))
set_option maxRecDepth 100000 in
set_option maxHeartbeats 4000000 in
theorem fx_X_addClass_b45_w {l : Launch} {E : tx_E} (σ : tx_St) (t : Int32 × tx_St) (hT : fx_X_addClass_b45 σ  = some t) : gx l E mi_X_addClass (some (.int t.1), t.2) σ [] 45 [] := by
  unfold fx_X_addClass_b45 at hT
  refine gx_iconst (pc := 45) (-1 : Int32) d_X_addClass_45 (by decide) ?_
  cases hT
  exact gx_iret (pc := 46) d_X_addClass_46 rfl rfl
set_option maxRecDepth 100000 in
set_option maxHeartbeats 4000000 in
theorem fx_X_addClass_b31_w {l : Launch} {E : tx_E} (σ : tx_St) (x1 : Int32) (x2 : Int32) (s0 : Int32) (t : Int32 × tx_St) (hT : fx_X_addClass_b31 σ x1 x2 s0 = some t) : gx l E mi_X_addClass (some (.int t.1), t.2) σ [(0, .ref (E.1 0)), (1, .int x1), (2, .int x2)] 31 [.int s0] := by
  unfold fx_X_addClass_b31 at hT
  refine gx_istore_n (pc := 31) [(3, .int s0), (0, .ref (E.1 0)), (1, .int x1), (2, .int x2)] d_X_addClass_31 rfl (Nat.le_of_ble_eq_true rfl) rfl ?_
  refine gx_iload_n (pc := 32) 0 d_X_addClass_32 rfl rfl ?_
  refine gx_if_eq (pc := 33) 45 d_X_addClass_33 rfl (fun h6 => ?_) (fun h6 => ?_)
  · have hT := tx_ifp h6 hT
    refine gx_sub [] rfl ?_
    exact fx_X_addClass_b45_w  σ _ hT
  · have hT := tx_ifn h6 hT
    refine gx_iload_n (pc := 36) 3 d_X_addClass_36 rfl rfl ?_
    refine gx_if_lt (pc := 37) 45 d_X_addClass_37 rfl (fun h7 => ?_) (fun h7 => ?_)
    · have hT := tx_ifp h7 hT
      refine gx_sub [] rfl ?_
      exact fx_X_addClass_b45_w  σ _ hT
    · have hT := tx_ifn h7 hT
      refine gx_iload_n (pc := 40) 3 d_X_addClass_40 rfl rfl ?_
      refine gx_iconst (pc := 41) (3 : Int32) d_X_addClass_41 (by decide) ?_
      refine gx_icmp_le (pc := 42) 47 d_X_addClass_42 rfl (fun h8 => ?_) (fun h8 => ?_)
      · have hT := tx_ifp h8 hT
        refine gx_aload_n (pc := 47) 1 d_X_addClass_47 rfl rfl ?_
        refine gx_getR (pc := 48) 1 fl_X_10 d_X_addClass_48 (rfl) (by decide) rfl ?_
        refine gx_getI (pc := 51) (σ 1 0) fl_X_65 d_X_addClass_51 (rfl) (by decide) rfl rfl ?_
        refine gx_bipush (pc := 54) (8 : Int32) d_X_addClass_54 (by decide) ?_
        refine gx_icmp_ne (pc := 56) 62 d_X_addClass_56 rfl (fun h9 => ?_) (fun h9 => ?_)
        · have hT := tx_ifn h9 hT
          refine gx_aload_n (pc := 62) 1 d_X_addClass_62 rfl rfl ?_
          refine gx_getR (pc := 63) 1 fl_X_10 d_X_addClass_63 (rfl) (by decide) rfl ?_
          refine gx_iload_n (pc := 66) 2 d_X_addClass_66 rfl rfl ?_
          refine gx_iload_n (pc := 67) 3 d_X_addClass_67 rfl rfl ?_
          obtain ⟨r11, σ10, cσ10, hT⟩ := tx_ci_some hT
          refine gx_callV (pc := 68) (As := [.int x1, .int x2]) (rest := []) cm_Plan_newClass lk_X_68 (fx_Plan_newClass_c l E σ x1 x2 _ cσ10) (rfl) (by decide) rfl rfl tx_fi_X_addClass_Plan_newClass (Nat.le_of_ble_eq_true rfl) d_X_addClass_68 ?_
          change gx l E mi_X_addClass _ σ10 [(3, .int s0), (0, .ref (E.1 0)), (1, .int x1), (2, .int x2)] 71 [.int r11]
          cases hT
          exact gx_iret (pc := 71) d_X_addClass_71 rfl rfl
        · have hT := tx_ifp h9 hT
          refine gx_bipush (pc := 59) (-2 : Int32) d_X_addClass_59 (by decide) ?_
          cases hT
          exact gx_iret (pc := 61) d_X_addClass_61 rfl rfl
      · have hT := tx_ifn h8 hT
        refine gx_sub [] rfl ?_
        exact fx_X_addClass_b45_w  σ _ hT
set_option maxRecDepth 100000 in
set_option maxHeartbeats 4000000 in
theorem fx_X_addClass_b26_w {l : Launch} {E : tx_E} (σ : tx_St) (x1 : Int32) (x2 : Int32) (t : Int32 × tx_St) (hT : fx_X_addClass_b26 σ x1 x2 = some t) : gx l E mi_X_addClass (some (.int t.1), t.2) σ [(0, .ref (E.1 0)), (1, .int x1), (2, .int x2)] 26 [] := by
  unfold fx_X_addClass_b26 at hT
  refine gx_iconst (pc := 26) (1 : Int32) d_X_addClass_26 (by decide) ?_
  refine gx_goto (pc := 27) 31 d_X_addClass_27 rfl ?_
  exact fx_X_addClass_b31_w  σ x1 x2 (1 : Int32) _ hT
set_option maxRecDepth 100000 in
set_option maxHeartbeats 4000000 in
theorem fx_X_addClass_c (l : Launch) (E : tx_E) (σ : tx_St) (x1 : Int32) (x2 : Int32) (t : Int32 × tx_St) (hT : fx_X_addClass σ x1 x2 = some t) : tx_MX l E y_X_addClass mi_X_addClass (some (.int t.1), t.2) [.ref (E.1 0), .int x1, .int x2] σ := by
  refine tx_MX_of (by decide) rfl (Nat.le_of_ble_eq_true rfl) ?_
  show gx l E mi_X_addClass (some (.int t.1), t.2) σ [(0, .ref (E.1 0)), (1, .int x1), (2, .int x2)] 0 []
  unfold fx_X_addClass at hT
  refine gx_aload_n (pc := 0) 0 d_X_addClass_0 rfl rfl ?_
  refine gx_getI (pc := 1) (σ 0 5) fl_X_50 d_X_addClass_1 (rfl) (by decide) rfl rfl ?_
  refine gx_if_eq (pc := 4) 10 d_X_addClass_4 rfl (fun h1 => ?_) (fun h1 => ?_)
  · have hT := tx_ifp h1 hT
    refine gx_iload_n (pc := 10) 1 d_X_addClass_10 rfl rfl ?_
    refine gx_iconst (pc := 11) (-1 : Int32) d_X_addClass_11 (by decide) ?_
    refine gx_icmp_eq (pc := 12) 26 d_X_addClass_12 rfl (fun h2 => ?_) (fun h2 => ?_)
    · have hT := tx_ifp h2 hT
      exact fx_X_addClass_b26_w  σ x1 x2 _ hT
    · have hT := tx_ifn h2 hT
      refine gx_aload_n (pc := 15) 0 d_X_addClass_15 rfl rfl ?_
      refine gx_getR (pc := 16) 1 fl_X_10 d_X_addClass_16 (rfl) (by decide) rfl ?_
      refine gx_iload_n (pc := 19) 1 d_X_addClass_19 rfl rfl ?_
      obtain ⟨r4, σ3, cσ3, hT⟩ := tx_ci_some hT
      refine gx_callV (pc := 20) (As := [.int x1]) (rest := []) cm_Plan_isClass lk_X_61 (fx_Plan_isClass_c l E σ x1 _ cσ3) (rfl) (by decide) rfl rfl tx_fi_X_addClass_Plan_isClass (Nat.le_of_ble_eq_true rfl) d_X_addClass_20 ?_
      change gx l E mi_X_addClass _ σ3 [(0, .ref (E.1 0)), (1, .int x1), (2, .int x2)] 23 [.int r4]
      refine gx_if_eq (pc := 23) 30 d_X_addClass_23 rfl (fun h5 => ?_) (fun h5 => ?_)
      · have hT := tx_ifp h5 hT
        refine gx_iconst (pc := 30) (0 : Int32) d_X_addClass_30 (by decide) ?_
        exact fx_X_addClass_b31_w  σ3 x1 x2 (0 : Int32) _ hT
      · have hT := tx_ifn h5 hT
        exact fx_X_addClass_b26_w  σ3 x1 x2 _ hT
  · have hT := tx_ifn h1 hT
    refine gx_bipush (pc := 7) (-3 : Int32) d_X_addClass_7 (by decide) ?_
    cases hT
    exact gx_iret (pc := 9) d_X_addClass_9 rfl rfl
theorem d_Plan_isType_0 : decode c_Plan_isType 0 = .ok (.iload_n 1, 1) := by decide +kernel
theorem d_Plan_isType_1 : decode c_Plan_isType 1 = .ok (.ifCond .lt (17), 3) := by decide +kernel
theorem d_Plan_isType_4 : decode c_Plan_isType 4 = .ok (.iload_n 1, 1) := by decide +kernel
theorem d_Plan_isType_5 : decode c_Plan_isType 5 = .ok (.iconst (2), 1) := by decide +kernel
theorem d_Plan_isType_6 : decode c_Plan_isType 6 = .ok (.aload_n 0, 1) := by decide +kernel
theorem d_Plan_isType_7 : decode c_Plan_isType 7 = .ok (.getfield 51, 3) := by decide +kernel
theorem d_Plan_isType_10 : decode c_Plan_isType 10 = .ok (.iadd, 1) := by decide +kernel
theorem d_Plan_isType_11 : decode c_Plan_isType 11 = .ok (.if_icmp .ge (7), 3) := by decide +kernel
theorem d_Plan_isType_14 : decode c_Plan_isType 14 = .ok (.iconst (1), 1) := by decide +kernel
theorem d_Plan_isType_15 : decode c_Plan_isType 15 = .ok (.goto (4), 3) := by decide +kernel
theorem d_Plan_isType_18 : decode c_Plan_isType 18 = .ok (.iconst (0), 1) := by decide +kernel
theorem d_Plan_isType_19 : decode c_Plan_isType 19 = .ok (.ireturn, 1) := by decide +kernel
def fx_Plan_isType_b19 (σ : tx_St) (s0 : Int32) : Option (Int32 × tx_St) := tx_rz s0 σ
def fx_Plan_isType_b18 (σ : tx_St) : Option (Int32 × tx_St) := fx_Plan_isType_b19  σ (0 : Int32)
def fx_Plan_isType (σ : tx_St) (x1 : Int32) : Option (Int32 × tx_St) := (if x1 < 0 then fx_Plan_isType_b18  σ else (if ((2 : Int32) + (σ 1 0)) ≤ x1 then fx_Plan_isType_b18  σ else fx_Plan_isType_b19  σ (1 : Int32)))
set_option maxRecDepth 100000 in
set_option maxHeartbeats 4000000 in
theorem fx_Plan_isType_b19_w {l : Launch} {E : tx_E} (σ : tx_St) (s0 : Int32) (t : Int32 × tx_St) (hT : fx_Plan_isType_b19 σ s0 = some t) : gx l E mi_Plan_isType (some (.int t.1), t.2) σ [] 19 [.int s0] := by
  unfold fx_Plan_isType_b19 at hT
  obtain ⟨hz, hT⟩ := tx_rz_some hT
  cases hT
  exact gx_zret (pc := 19) d_Plan_isType_19 rfl hz rfl
set_option maxRecDepth 100000 in
set_option maxHeartbeats 4000000 in
theorem fx_Plan_isType_b18_w {l : Launch} {E : tx_E} (σ : tx_St) (t : Int32 × tx_St) (hT : fx_Plan_isType_b18 σ  = some t) : gx l E mi_Plan_isType (some (.int t.1), t.2) σ [] 18 [] := by
  unfold fx_Plan_isType_b18 at hT
  refine gx_iconst (pc := 18) (0 : Int32) d_Plan_isType_18 (by decide) ?_
  exact fx_Plan_isType_b19_w  σ (0 : Int32) _ hT
set_option maxRecDepth 100000 in
set_option maxHeartbeats 4000000 in
theorem fx_Plan_isType_c (l : Launch) (E : tx_E) (σ : tx_St) (x1 : Int32) (t : Int32 × tx_St) (hT : fx_Plan_isType σ x1 = some t) : tx_MX l E y_Plan_isType mi_Plan_isType (some (.int t.1), t.2) [.ref (E.1 1), .int x1] σ := by
  refine tx_MX_of (by decide) rfl (Nat.le_of_ble_eq_true rfl) ?_
  show gx l E mi_Plan_isType (some (.int t.1), t.2) σ [(0, .ref (E.1 1)), (1, .int x1)] 0 []
  unfold fx_Plan_isType at hT
  refine gx_iload_n (pc := 0) 1 d_Plan_isType_0 rfl rfl ?_
  refine gx_if_lt (pc := 1) 18 d_Plan_isType_1 rfl (fun h1 => ?_) (fun h1 => ?_)
  · have hT := tx_ifp h1 hT
    refine gx_sub [] rfl ?_
    exact fx_Plan_isType_b18_w  σ _ hT
  · have hT := tx_ifn h1 hT
    refine gx_iload_n (pc := 4) 1 d_Plan_isType_4 rfl rfl ?_
    refine gx_iconst (pc := 5) (2 : Int32) d_Plan_isType_5 (by decide) ?_
    refine gx_aload_n (pc := 6) 0 d_Plan_isType_6 rfl rfl ?_
    refine gx_getI (pc := 7) (σ 1 0) fl_Plan_51 d_Plan_isType_7 (rfl) (by decide) rfl rfl ?_
    refine gx_iadd (pc := 10) d_Plan_isType_10 ?_
    refine gx_icmp_ge (pc := 11) 18 d_Plan_isType_11 rfl (fun h2 => ?_) (fun h2 => ?_)
    · have hT := tx_ifp h2 hT
      refine gx_sub [] rfl ?_
      exact fx_Plan_isType_b18_w  σ _ hT
    · have hT := tx_ifn h2 hT
      refine gx_iconst (pc := 14) (1 : Int32) d_Plan_isType_14 (by decide) ?_
      refine gx_goto (pc := 15) 19 d_Plan_isType_15 rfl ?_
      refine gx_sub [] rfl ?_
      exact fx_Plan_isType_b19_w  σ (1 : Int32) _ hT
theorem d_Plan_newField_0 : decode c_Plan_newField 0 = .ok (.aload_n 0, 1) := by decide +kernel
theorem d_Plan_newField_1 : decode c_Plan_newField 1 = .ok (.getfield 55, 3) := by decide +kernel
theorem d_Plan_newField_4 : decode c_Plan_newField 4 = .ok (.istore 4, 2) := by decide +kernel
theorem d_Plan_newField_6 : decode c_Plan_newField 6 = .ok (.aload_n 0, 1) := by decide +kernel
theorem d_Plan_newField_7 : decode c_Plan_newField 7 = .ok (.getfield 18, 3) := by decide +kernel
theorem d_Plan_newField_10 : decode c_Plan_newField 10 = .ok (.iload 4, 2) := by decide +kernel
theorem d_Plan_newField_12 : decode c_Plan_newField 12 = .ok (.iload_n 1, 1) := by decide +kernel
theorem d_Plan_newField_13 : decode c_Plan_newField 13 = .ok (.iastore, 1) := by decide +kernel
theorem d_Plan_newField_14 : decode c_Plan_newField 14 = .ok (.aload_n 0, 1) := by decide +kernel
theorem d_Plan_newField_15 : decode c_Plan_newField 15 = .ok (.getfield 21, 3) := by decide +kernel
theorem d_Plan_newField_18 : decode c_Plan_newField 18 = .ok (.iload 4, 2) := by decide +kernel
theorem d_Plan_newField_20 : decode c_Plan_newField 20 = .ok (.iload_n 2, 1) := by decide +kernel
theorem d_Plan_newField_21 : decode c_Plan_newField 21 = .ok (.iastore, 1) := by decide +kernel
theorem d_Plan_newField_22 : decode c_Plan_newField 22 = .ok (.aload_n 0, 1) := by decide +kernel
theorem d_Plan_newField_23 : decode c_Plan_newField 23 = .ok (.getfield 24, 3) := by decide +kernel
theorem d_Plan_newField_26 : decode c_Plan_newField 26 = .ok (.iload 4, 2) := by decide +kernel
theorem d_Plan_newField_28 : decode c_Plan_newField 28 = .ok (.iload_n 3, 1) := by decide +kernel
theorem d_Plan_newField_29 : decode c_Plan_newField 29 = .ok (.iastore, 1) := by decide +kernel
theorem d_Plan_newField_30 : decode c_Plan_newField 30 = .ok (.aload_n 0, 1) := by decide +kernel
theorem d_Plan_newField_31 : decode c_Plan_newField 31 = .ok (.dup, 1) := by decide +kernel
theorem d_Plan_newField_32 : decode c_Plan_newField 32 = .ok (.getfield 55, 3) := by decide +kernel
theorem d_Plan_newField_35 : decode c_Plan_newField 35 = .ok (.iconst (1), 1) := by decide +kernel
theorem d_Plan_newField_36 : decode c_Plan_newField 36 = .ok (.iadd, 1) := by decide +kernel
theorem d_Plan_newField_37 : decode c_Plan_newField 37 = .ok (.putfield 55, 3) := by decide +kernel
theorem d_Plan_newField_40 : decode c_Plan_newField 40 = .ok (.iload 4, 2) := by decide +kernel
theorem d_Plan_newField_42 : decode c_Plan_newField 42 = .ok (.ireturn, 1) := by decide +kernel
def fx_Plan_newField (σ : tx_St) (x1 : Int32) (x2 : Int32) (x3 : Int32) : Option (Int32 × tx_St) := tx_wr σ 4 12 (σ 1 1) x1 fun σ1 => tx_wr σ1 5 12 (σ 1 1) x2 fun σ2 => tx_wr σ2 6 12 (σ 1 1) x3 fun σ3 => tx_pt σ3 1 1 ((σ3 1 1) + (1 : Int32)) fun σ4 => some ((σ 1 1), σ4)
set_option maxRecDepth 100000 in
set_option maxHeartbeats 4000000 in
theorem fx_Plan_newField_c (l : Launch) (E : tx_E) (σ : tx_St) (x1 : Int32) (x2 : Int32) (x3 : Int32) (t : Int32 × tx_St) (hT : fx_Plan_newField σ x1 x2 x3 = some t) : tx_MX l E y_Plan_newField mi_Plan_newField (some (.int t.1), t.2) [.ref (E.1 1), .int x1, .int x2, .int x3] σ := by
  refine tx_MX_of (by decide) rfl (Nat.le_of_ble_eq_true rfl) ?_
  show gx l E mi_Plan_newField (some (.int t.1), t.2) σ [(0, .ref (E.1 1)), (1, .int x1), (2, .int x2), (3, .int x3)] 0 []
  unfold fx_Plan_newField at hT
  refine gx_aload_n (pc := 0) 0 d_Plan_newField_0 rfl rfl ?_
  refine gx_getI (pc := 1) (σ 1 1) fl_Plan_55 d_Plan_newField_1 (rfl) (by decide) rfl rfl ?_
  refine gx_istore (pc := 4) [(4, .int (σ 1 1)), (0, .ref (E.1 1)), (1, .int x1), (2, .int x2), (3, .int x3)] d_Plan_newField_4 (Nat.le_of_ble_eq_true rfl) rfl ?_
  refine gx_aload_n (pc := 6) 1 d_Plan_newField_6 rfl rfl ?_
  refine gx_getR (pc := 7) 4 fl_Plan_18 d_Plan_newField_7 (rfl) (by decide) rfl ?_
  refine gx_iload (pc := 10) 0 d_Plan_newField_10 rfl ?_
  refine gx_iload_n (pc := 12) 2 d_Plan_newField_12 rfl rfl ?_
  obtain ⟨σ1, gσ1, iσ1, hT⟩ := tx_wr_some hT
  refine gx_iast (pc := 13) d_Plan_newField_13 (rfl) iσ1 ?_
  rw [gσ1]
  refine gx_aload_n (pc := 14) 1 d_Plan_newField_14 rfl rfl ?_
  refine gx_getR (pc := 15) 5 fl_Plan_21 d_Plan_newField_15 (rfl) (by decide) rfl ?_
  refine gx_iload (pc := 18) 0 d_Plan_newField_18 rfl ?_
  refine gx_iload_n (pc := 20) 3 d_Plan_newField_20 rfl rfl ?_
  obtain ⟨σ2, gσ2, iσ2, hT⟩ := tx_wr_some hT
  refine gx_iast (pc := 21) d_Plan_newField_21 (rfl) iσ2 ?_
  rw [gσ2]
  refine gx_aload_n (pc := 22) 1 d_Plan_newField_22 rfl rfl ?_
  refine gx_getR (pc := 23) 6 fl_Plan_24 d_Plan_newField_23 (rfl) (by decide) rfl ?_
  refine gx_iload (pc := 26) 0 d_Plan_newField_26 rfl ?_
  refine gx_iload_n (pc := 28) 4 d_Plan_newField_28 rfl rfl ?_
  obtain ⟨σ3, gσ3, iσ3, hT⟩ := tx_wr_some hT
  refine gx_iast (pc := 29) d_Plan_newField_29 (rfl) iσ3 ?_
  rw [gσ3]
  refine gx_aload_n (pc := 30) 1 d_Plan_newField_30 rfl rfl ?_
  refine gx_dup (pc := 31) d_Plan_newField_31 rfl ?_
  refine gx_getI (pc := 32) (σ3 1 1) fl_Plan_55 d_Plan_newField_32 (rfl) (by decide) rfl rfl ?_
  refine gx_iconst (pc := 35) (1 : Int32) d_Plan_newField_35 (by decide) ?_
  refine gx_iadd (pc := 36) d_Plan_newField_36 ?_
  obtain ⟨σ4, gσ4, hT⟩ := tx_pt_some hT
  refine gx_putI (pc := 37) fp_Plan_55 d_Plan_newField_37 (rfl) (by decide) rfl ?_
  rw [gσ4]
  refine gx_iload (pc := 40) 0 d_Plan_newField_40 rfl ?_
  cases hT
  exact gx_iret (pc := 42) d_Plan_newField_42 rfl rfl
theorem d_X_addField_0 : decode c_X_addField 0 = .ok (.aload_n 0, 1) := by decide +kernel
theorem d_X_addField_1 : decode c_X_addField 1 = .ok (.getfield 50, 3) := by decide +kernel
theorem d_X_addField_4 : decode c_X_addField 4 = .ok (.ifCond .eq (6), 3) := by decide +kernel
theorem d_X_addField_7 : decode c_X_addField 7 = .ok (.bipush (-3), 2) := by decide +kernel
theorem d_X_addField_9 : decode c_X_addField 9 = .ok (.ireturn, 1) := by decide +kernel
theorem d_X_addField_10 : decode c_X_addField 10 = .ok (.aload_n 0, 1) := by decide +kernel
theorem d_X_addField_11 : decode c_X_addField 11 = .ok (.getfield 10, 3) := by decide +kernel
theorem d_X_addField_14 : decode c_X_addField 14 = .ok (.iload_n 1, 1) := by decide +kernel
theorem d_X_addField_15 : decode c_X_addField 15 = .ok (.invokevirtual 61, 3) := by decide +kernel
theorem d_X_addField_18 : decode c_X_addField 18 = .ok (.ifCond .eq (23), 3) := by decide +kernel
theorem d_X_addField_21 : decode c_X_addField 21 = .ok (.iload_n 2, 1) := by decide +kernel
theorem d_X_addField_22 : decode c_X_addField 22 = .ok (.ifCond .lt (19), 3) := by decide +kernel
theorem d_X_addField_25 : decode c_X_addField 25 = .ok (.iload_n 2, 1) := by decide +kernel
theorem d_X_addField_26 : decode c_X_addField 26 = .ok (.iconst (3), 1) := by decide +kernel
theorem d_X_addField_27 : decode c_X_addField 27 = .ok (.if_icmp .gt (14), 3) := by decide +kernel
theorem d_X_addField_30 : decode c_X_addField 30 = .ok (.aload_n 0, 1) := by decide +kernel
theorem d_X_addField_31 : decode c_X_addField 31 = .ok (.getfield 10, 3) := by decide +kernel
theorem d_X_addField_34 : decode c_X_addField 34 = .ok (.iload_n 3, 1) := by decide +kernel
theorem d_X_addField_35 : decode c_X_addField 35 = .ok (.invokevirtual 72, 3) := by decide +kernel
theorem d_X_addField_38 : decode c_X_addField 38 = .ok (.ifCond .ne (5), 3) := by decide +kernel
theorem d_X_addField_41 : decode c_X_addField 41 = .ok (.iconst (-1), 1) := by decide +kernel
theorem d_X_addField_42 : decode c_X_addField 42 = .ok (.ireturn, 1) := by decide +kernel
theorem d_X_addField_43 : decode c_X_addField 43 = .ok (.aload_n 0, 1) := by decide +kernel
theorem d_X_addField_44 : decode c_X_addField 44 = .ok (.getfield 10, 3) := by decide +kernel
theorem d_X_addField_47 : decode c_X_addField 47 = .ok (.getfield 75, 3) := by decide +kernel
theorem d_X_addField_50 : decode c_X_addField 50 = .ok (.bipush (12), 2) := by decide +kernel
theorem d_X_addField_52 : decode c_X_addField 52 = .ok (.if_icmp .ne (6), 3) := by decide +kernel
theorem d_X_addField_55 : decode c_X_addField 55 = .ok (.bipush (-2), 2) := by decide +kernel
theorem d_X_addField_57 : decode c_X_addField 57 = .ok (.ireturn, 1) := by decide +kernel
theorem d_X_addField_58 : decode c_X_addField 58 = .ok (.aload_n 0, 1) := by decide +kernel
theorem d_X_addField_59 : decode c_X_addField 59 = .ok (.getfield 10, 3) := by decide +kernel
theorem d_X_addField_62 : decode c_X_addField 62 = .ok (.iload_n 1, 1) := by decide +kernel
theorem d_X_addField_63 : decode c_X_addField 63 = .ok (.iload_n 2, 1) := by decide +kernel
theorem d_X_addField_64 : decode c_X_addField 64 = .ok (.iload_n 3, 1) := by decide +kernel
theorem d_X_addField_65 : decode c_X_addField 65 = .ok (.invokevirtual 78, 3) := by decide +kernel
theorem d_X_addField_68 : decode c_X_addField 68 = .ok (.ireturn, 1) := by decide +kernel
def fx_X_addField_b41 (σ : tx_St) : Option (Int32 × tx_St) := some ((-1 : Int32), σ)
def fx_X_addField (σ : tx_St) (x1 : Int32) (x2 : Int32) (x3 : Int32) : Option (Int32 × tx_St) := (if (σ 0 5) = 0 then tx_ci (fx_Plan_isClass σ x1) fun r3 σ2 => (if r3 = 0 then fx_X_addField_b41  σ2 else (if x2 < 0 then fx_X_addField_b41  σ2 else (if (3 : Int32) < x2 then fx_X_addField_b41  σ2 else tx_ci (fx_Plan_isType σ2 x3) fun r8 σ7 => (if r8 = 0 then fx_X_addField_b41  σ7 else (if (σ7 1 1) = (12 : Int32) then some ((-2 : Int32), σ7) else tx_ci (fx_Plan_newField σ7 x1 x2 x3) fun r12 σ11 => some (r12, σ11)))))) else some ((-3 : Int32), σ))
set_option maxRecDepth 100000 in
set_option maxHeartbeats 4000000 in
theorem fx_X_addField_b41_w {l : Launch} {E : tx_E} (σ : tx_St) (t : Int32 × tx_St) (hT : fx_X_addField_b41 σ  = some t) : gx l E mi_X_addField (some (.int t.1), t.2) σ [] 41 [] := by
  unfold fx_X_addField_b41 at hT
  refine gx_iconst (pc := 41) (-1 : Int32) d_X_addField_41 (by decide) ?_
  cases hT
  exact gx_iret (pc := 42) d_X_addField_42 rfl rfl
set_option maxRecDepth 100000 in
set_option maxHeartbeats 4000000 in
theorem fx_X_addField_c (l : Launch) (E : tx_E) (σ : tx_St) (x1 : Int32) (x2 : Int32) (x3 : Int32) (t : Int32 × tx_St) (hT : fx_X_addField σ x1 x2 x3 = some t) : tx_MX l E y_X_addField mi_X_addField (some (.int t.1), t.2) [.ref (E.1 0), .int x1, .int x2, .int x3] σ := by
  refine tx_MX_of (by decide) rfl (Nat.le_of_ble_eq_true rfl) ?_
  show gx l E mi_X_addField (some (.int t.1), t.2) σ [(0, .ref (E.1 0)), (1, .int x1), (2, .int x2), (3, .int x3)] 0 []
  unfold fx_X_addField at hT
  refine gx_aload_n (pc := 0) 0 d_X_addField_0 rfl rfl ?_
  refine gx_getI (pc := 1) (σ 0 5) fl_X_50 d_X_addField_1 (rfl) (by decide) rfl rfl ?_
  refine gx_if_eq (pc := 4) 10 d_X_addField_4 rfl (fun h1 => ?_) (fun h1 => ?_)
  · have hT := tx_ifp h1 hT
    refine gx_aload_n (pc := 10) 0 d_X_addField_10 rfl rfl ?_
    refine gx_getR (pc := 11) 1 fl_X_10 d_X_addField_11 (rfl) (by decide) rfl ?_
    refine gx_iload_n (pc := 14) 1 d_X_addField_14 rfl rfl ?_
    obtain ⟨r3, σ2, cσ2, hT⟩ := tx_ci_some hT
    refine gx_callV (pc := 15) (As := [.int x1]) (rest := []) cm_Plan_isClass lk_X_61 (fx_Plan_isClass_c l E σ x1 _ cσ2) (rfl) (by decide) rfl rfl tx_fi_X_addField_Plan_isClass (Nat.le_of_ble_eq_true rfl) d_X_addField_15 ?_
    change gx l E mi_X_addField _ σ2 [(0, .ref (E.1 0)), (1, .int x1), (2, .int x2), (3, .int x3)] 18 [.int r3]
    refine gx_if_eq (pc := 18) 41 d_X_addField_18 rfl (fun h4 => ?_) (fun h4 => ?_)
    · have hT := tx_ifp h4 hT
      refine gx_sub [] rfl ?_
      exact fx_X_addField_b41_w  σ2 _ hT
    · have hT := tx_ifn h4 hT
      refine gx_iload_n (pc := 21) 2 d_X_addField_21 rfl rfl ?_
      refine gx_if_lt (pc := 22) 41 d_X_addField_22 rfl (fun h5 => ?_) (fun h5 => ?_)
      · have hT := tx_ifp h5 hT
        refine gx_sub [] rfl ?_
        exact fx_X_addField_b41_w  σ2 _ hT
      · have hT := tx_ifn h5 hT
        refine gx_iload_n (pc := 25) 2 d_X_addField_25 rfl rfl ?_
        refine gx_iconst (pc := 26) (3 : Int32) d_X_addField_26 (by decide) ?_
        refine gx_icmp_gt (pc := 27) 41 d_X_addField_27 rfl (fun h6 => ?_) (fun h6 => ?_)
        · have hT := tx_ifp h6 hT
          refine gx_sub [] rfl ?_
          exact fx_X_addField_b41_w  σ2 _ hT
        · have hT := tx_ifn h6 hT
          refine gx_aload_n (pc := 30) 0 d_X_addField_30 rfl rfl ?_
          refine gx_getR (pc := 31) 1 fl_X_10 d_X_addField_31 (rfl) (by decide) rfl ?_
          refine gx_iload_n (pc := 34) 3 d_X_addField_34 rfl rfl ?_
          obtain ⟨r8, σ7, cσ7, hT⟩ := tx_ci_some hT
          refine gx_callV (pc := 35) (As := [.int x3]) (rest := []) cm_Plan_isType lk_X_72 (fx_Plan_isType_c l E σ2 x3 _ cσ7) (rfl) (by decide) rfl rfl tx_fi_X_addField_Plan_isType (Nat.le_of_ble_eq_true rfl) d_X_addField_35 ?_
          change gx l E mi_X_addField _ σ7 [(0, .ref (E.1 0)), (1, .int x1), (2, .int x2), (3, .int x3)] 38 [.int r8]
          refine gx_if_ne (pc := 38) 43 d_X_addField_38 rfl (fun h9 => ?_) (fun h9 => ?_)
          · have hT := tx_ifn h9 hT
            refine gx_aload_n (pc := 43) 0 d_X_addField_43 rfl rfl ?_
            refine gx_getR (pc := 44) 1 fl_X_10 d_X_addField_44 (rfl) (by decide) rfl ?_
            refine gx_getI (pc := 47) (σ7 1 1) fl_X_75 d_X_addField_47 (rfl) (by decide) rfl rfl ?_
            refine gx_bipush (pc := 50) (12 : Int32) d_X_addField_50 (by decide) ?_
            refine gx_icmp_ne (pc := 52) 58 d_X_addField_52 rfl (fun h10 => ?_) (fun h10 => ?_)
            · have hT := tx_ifn h10 hT
              refine gx_aload_n (pc := 58) 0 d_X_addField_58 rfl rfl ?_
              refine gx_getR (pc := 59) 1 fl_X_10 d_X_addField_59 (rfl) (by decide) rfl ?_
              refine gx_iload_n (pc := 62) 1 d_X_addField_62 rfl rfl ?_
              refine gx_iload_n (pc := 63) 2 d_X_addField_63 rfl rfl ?_
              refine gx_iload_n (pc := 64) 3 d_X_addField_64 rfl rfl ?_
              obtain ⟨r12, σ11, cσ11, hT⟩ := tx_ci_some hT
              refine gx_callV (pc := 65) (As := [.int x1, .int x2, .int x3]) (rest := []) cm_Plan_newField lk_X_78 (fx_Plan_newField_c l E σ7 x1 x2 x3 _ cσ11) (rfl) (by decide) rfl rfl tx_fi_X_addField_Plan_newField (Nat.le_of_ble_eq_true rfl) d_X_addField_65 ?_
              change gx l E mi_X_addField _ σ11 [(0, .ref (E.1 0)), (1, .int x1), (2, .int x2), (3, .int x3)] 68 [.int r12]
              cases hT
              exact gx_iret (pc := 68) d_X_addField_68 rfl rfl
            · have hT := tx_ifp h10 hT
              refine gx_bipush (pc := 55) (-2 : Int32) d_X_addField_55 (by decide) ?_
              cases hT
              exact gx_iret (pc := 57) d_X_addField_57 rfl rfl
          · have hT := tx_ifp h9 hT
            refine gx_sub [] rfl ?_
            exact fx_X_addField_b41_w  σ7 _ hT
  · have hT := tx_ifn h1 hT
    refine gx_bipush (pc := 7) (-3 : Int32) d_X_addField_7 (by decide) ?_
    cases hT
    exact gx_iret (pc := 9) d_X_addField_9 rfl rfl
theorem d_Plan_methodNamed_0 : decode c_Plan_methodNamed 0 = .ok (.iconst (0), 1) := by decide +kernel
theorem d_Plan_methodNamed_1 : decode c_Plan_methodNamed 1 = .ok (.istore_n 3, 1) := by decide +kernel
theorem d_Plan_methodNamed_2 : decode c_Plan_methodNamed 2 = .ok (.iload_n 3, 1) := by decide +kernel
theorem d_Plan_methodNamed_3 : decode c_Plan_methodNamed 3 = .ok (.aload_n 0, 1) := by decide +kernel
theorem d_Plan_methodNamed_4 : decode c_Plan_methodNamed 4 = .ok (.getfield 58, 3) := by decide +kernel
theorem d_Plan_methodNamed_7 : decode c_Plan_methodNamed 7 = .ok (.if_icmp .ge (31), 3) := by decide +kernel
theorem d_Plan_methodNamed_10 : decode c_Plan_methodNamed 10 = .ok (.aload_n 0, 1) := by decide +kernel
theorem d_Plan_methodNamed_11 : decode c_Plan_methodNamed 11 = .ok (.getfield 27, 3) := by decide +kernel
theorem d_Plan_methodNamed_14 : decode c_Plan_methodNamed 14 = .ok (.iload_n 3, 1) := by decide +kernel
theorem d_Plan_methodNamed_15 : decode c_Plan_methodNamed 15 = .ok (.iaload, 1) := by decide +kernel
theorem d_Plan_methodNamed_16 : decode c_Plan_methodNamed 16 = .ok (.iload_n 1, 1) := by decide +kernel
theorem d_Plan_methodNamed_17 : decode c_Plan_methodNamed 17 = .ok (.if_icmp .ne (15), 3) := by decide +kernel
theorem d_Plan_methodNamed_20 : decode c_Plan_methodNamed 20 = .ok (.aload_n 0, 1) := by decide +kernel
theorem d_Plan_methodNamed_21 : decode c_Plan_methodNamed 21 = .ok (.getfield 33, 3) := by decide +kernel
theorem d_Plan_methodNamed_24 : decode c_Plan_methodNamed 24 = .ok (.iload_n 3, 1) := by decide +kernel
theorem d_Plan_methodNamed_25 : decode c_Plan_methodNamed 25 = .ok (.iaload, 1) := by decide +kernel
theorem d_Plan_methodNamed_26 : decode c_Plan_methodNamed 26 = .ok (.iload_n 2, 1) := by decide +kernel
theorem d_Plan_methodNamed_27 : decode c_Plan_methodNamed 27 = .ok (.if_icmp .ne (5), 3) := by decide +kernel
theorem d_Plan_methodNamed_30 : decode c_Plan_methodNamed 30 = .ok (.iload_n 3, 1) := by decide +kernel
theorem d_Plan_methodNamed_31 : decode c_Plan_methodNamed 31 = .ok (.ireturn, 1) := by decide +kernel
theorem d_Plan_methodNamed_32 : decode c_Plan_methodNamed 32 = .ok (.iinc 3 (1), 3) := by decide +kernel
theorem d_Plan_methodNamed_35 : decode c_Plan_methodNamed 35 = .ok (.goto (-33), 3) := by decide +kernel
theorem d_Plan_methodNamed_38 : decode c_Plan_methodNamed 38 = .ok (.iconst (-1), 1) := by decide +kernel
theorem d_Plan_methodNamed_39 : decode c_Plan_methodNamed 39 = .ok (.ireturn, 1) := by decide +kernel
def fx_Plan_methodNamed_b32 (k2 : tx_St → Int32 → Int32 → Int32 → Option (Int32 × tx_St)) (σ : tx_St) (x1 : Int32) (x2 : Int32) (x3 : Int32) : Option (Int32 × tx_St) := k2 σ x1 x2 (x3 + (1 : Int32))
def fx_Plan_methodNamed_b2 : Nat → tx_St → Int32 → Int32 → Int32 → Option (Int32 × tx_St)
  | 0, _, _, _, _ => none
  | n + 1, σ, x1, x2, x3 => (if (σ 1 2) ≤ x3 then some ((-1 : Int32), σ) else tx_rd σ 7 8 x3 fun v2 => (if v2 = x1 then tx_rd σ 9 8 x3 fun v4 => (if v4 = x2 then some (x3, σ) else fx_Plan_methodNamed_b32 (fx_Plan_methodNamed_b2 n) σ x1 x2 x3) else fx_Plan_methodNamed_b32 (fx_Plan_methodNamed_b2 n) σ x1 x2 x3))
def fx_Plan_methodNamed (σ : tx_St) (x1 : Int32) (x2 : Int32) : Option (Int32 × tx_St) := fx_Plan_methodNamed_b2  tx_fu σ x1 x2 (0 : Int32)
set_option maxRecDepth 100000 in
set_option maxHeartbeats 4000000 in
theorem fx_Plan_methodNamed_b32_w {l : Launch} {E : tx_E} (k2 : tx_St → Int32 → Int32 → Int32 → Option (Int32 × tx_St)) (j2 : ∀ (σ : tx_St) (x1 : Int32) (x2 : Int32) (x3 : Int32) (t : Int32 × tx_St), k2 σ x1 x2 x3 = some t → gx l E mi_Plan_methodNamed (some (.int t.1), t.2) σ [(0, .ref (E.1 1)), (1, .int x1), (2, .int x2), (3, .int x3)] 2 []) (σ : tx_St) (x1 : Int32) (x2 : Int32) (x3 : Int32) (t : Int32 × tx_St) (hT : fx_Plan_methodNamed_b32 k2 σ x1 x2 x3 = some t) : gx l E mi_Plan_methodNamed (some (.int t.1), t.2) σ [(0, .ref (E.1 1)), (1, .int x1), (2, .int x2), (3, .int x3)] 32 [] := by
  unfold fx_Plan_methodNamed_b32 at hT
  refine gx_iinc (pc := 32) (x3 + (1 : Int32)) 3 [(3, .int (x3 + (1 : Int32))), (0, .ref (E.1 1)), (1, .int x1), (2, .int x2)] d_Plan_methodNamed_32 rfl (tx_inc (by decide)) (Nat.le_of_ble_eq_true rfl) rfl ?_
  refine gx_goto (pc := 35) 2 d_Plan_methodNamed_35 rfl ?_
  refine gx_sub [1, 2, 3, 0] rfl ?_
  exact j2 σ x1 x2 (x3 + (1 : Int32)) _ hT
set_option maxRecDepth 100000 in
set_option maxHeartbeats 4000000 in
theorem fx_Plan_methodNamed_b2_w {l : Launch} {E : tx_E} : ∀ (n : Nat) (σ : tx_St) (x1 : Int32) (x2 : Int32) (x3 : Int32) (t : Int32 × tx_St), fx_Plan_methodNamed_b2 n σ x1 x2 x3 = some t → gx l E mi_Plan_methodNamed (some (.int t.1), t.2) σ [(0, .ref (E.1 1)), (1, .int x1), (2, .int x2), (3, .int x3)] 2 [] := by
  intro n
  induction n with
  | zero => intro σ x1 x2 x3 t hT; cases hT
  | succ n ih =>
    intro σ x1 x2 x3 t hT
    rw [fx_Plan_methodNamed_b2] at hT
    refine gx_iload_n (pc := 2) 3 d_Plan_methodNamed_2 rfl rfl ?_
    refine gx_aload_n (pc := 3) 0 d_Plan_methodNamed_3 rfl rfl ?_
    refine gx_getI (pc := 4) (σ 1 2) fl_Plan_58 d_Plan_methodNamed_4 (rfl) (by decide) rfl rfl ?_
    refine gx_icmp_ge (pc := 7) 38 d_Plan_methodNamed_7 rfl (fun h1 => ?_) (fun h1 => ?_)
    · have hT := tx_ifp h1 hT
      refine gx_iconst (pc := 38) (-1 : Int32) d_Plan_methodNamed_38 (by decide) ?_
      cases hT
      exact gx_iret (pc := 39) d_Plan_methodNamed_39 rfl rfl
    · have hT := tx_ifn h1 hT
      refine gx_aload_n (pc := 10) 0 d_Plan_methodNamed_10 rfl rfl ?_
      refine gx_getR (pc := 11) 7 fl_Plan_27 d_Plan_methodNamed_11 (rfl) (by decide) rfl ?_
      refine gx_iload_n (pc := 14) 3 d_Plan_methodNamed_14 rfl rfl ?_
      obtain ⟨v2, gv2, iv2, hT⟩ := tx_rd_some hT
      refine gx_iald (pc := 15) v2 d_Plan_methodNamed_15 (rfl) iv2 gv2 ?_
      refine gx_iload_n (pc := 16) 1 d_Plan_methodNamed_16 rfl rfl ?_
      refine gx_icmp_ne (pc := 17) 32 d_Plan_methodNamed_17 rfl (fun h3 => ?_) (fun h3 => ?_)
      · have hT := tx_ifn h3 hT
        exact fx_Plan_methodNamed_b32_w (fx_Plan_methodNamed_b2 n) (ih) σ x1 x2 x3 _ hT
      · have hT := tx_ifp h3 hT
        refine gx_aload_n (pc := 20) 0 d_Plan_methodNamed_20 rfl rfl ?_
        refine gx_getR (pc := 21) 9 fl_Plan_33 d_Plan_methodNamed_21 (rfl) (by decide) rfl ?_
        refine gx_iload_n (pc := 24) 3 d_Plan_methodNamed_24 rfl rfl ?_
        obtain ⟨v4, gv4, iv4, hT⟩ := tx_rd_some hT
        refine gx_iald (pc := 25) v4 d_Plan_methodNamed_25 (rfl) iv4 gv4 ?_
        refine gx_iload_n (pc := 26) 2 d_Plan_methodNamed_26 rfl rfl ?_
        refine gx_icmp_ne (pc := 27) 32 d_Plan_methodNamed_27 rfl (fun h5 => ?_) (fun h5 => ?_)
        · have hT := tx_ifn h5 hT
          exact fx_Plan_methodNamed_b32_w (fx_Plan_methodNamed_b2 n) (ih) σ x1 x2 x3 _ hT
        · have hT := tx_ifp h5 hT
          refine gx_iload_n (pc := 30) 3 d_Plan_methodNamed_30 rfl rfl ?_
          cases hT
          exact gx_iret (pc := 31) d_Plan_methodNamed_31 rfl rfl
set_option maxRecDepth 100000 in
set_option maxHeartbeats 4000000 in
theorem fx_Plan_methodNamed_c (l : Launch) (E : tx_E) (σ : tx_St) (x1 : Int32) (x2 : Int32) (t : Int32 × tx_St) (hT : fx_Plan_methodNamed σ x1 x2 = some t) : tx_MX l E y_Plan_methodNamed mi_Plan_methodNamed (some (.int t.1), t.2) [.ref (E.1 1), .int x1, .int x2] σ := by
  refine tx_MX_of (by decide) rfl (Nat.le_of_ble_eq_true rfl) ?_
  show gx l E mi_Plan_methodNamed (some (.int t.1), t.2) σ [(0, .ref (E.1 1)), (1, .int x1), (2, .int x2)] 0 []
  unfold fx_Plan_methodNamed at hT
  refine gx_iconst (pc := 0) (0 : Int32) d_Plan_methodNamed_0 (by decide) ?_
  refine gx_istore_n (pc := 1) [(3, .int (0 : Int32)), (0, .ref (E.1 1)), (1, .int x1), (2, .int x2)] d_Plan_methodNamed_1 rfl (Nat.le_of_ble_eq_true rfl) rfl ?_
  refine gx_sub [1, 2, 3, 0] rfl ?_
  exact fx_Plan_methodNamed_b2_w  tx_fu σ x1 x2 (0 : Int32) _ hT
theorem d_Plan_newMethod_0 : decode c_Plan_newMethod 0 = .ok (.aload_n 0, 1) := by decide +kernel
theorem d_Plan_newMethod_1 : decode c_Plan_newMethod 1 = .ok (.getfield 58, 3) := by decide +kernel
theorem d_Plan_newMethod_4 : decode c_Plan_newMethod 4 = .ok (.istore 6, 2) := by decide +kernel
theorem d_Plan_newMethod_6 : decode c_Plan_newMethod 6 = .ok (.aload_n 0, 1) := by decide +kernel
theorem d_Plan_newMethod_7 : decode c_Plan_newMethod 7 = .ok (.getfield 27, 3) := by decide +kernel
theorem d_Plan_newMethod_10 : decode c_Plan_newMethod 10 = .ok (.iload 6, 2) := by decide +kernel
theorem d_Plan_newMethod_12 : decode c_Plan_newMethod 12 = .ok (.iload_n 1, 1) := by decide +kernel
theorem d_Plan_newMethod_13 : decode c_Plan_newMethod 13 = .ok (.iastore, 1) := by decide +kernel
theorem d_Plan_newMethod_14 : decode c_Plan_newMethod 14 = .ok (.aload_n 0, 1) := by decide +kernel
theorem d_Plan_newMethod_15 : decode c_Plan_newMethod 15 = .ok (.getfield 30, 3) := by decide +kernel
theorem d_Plan_newMethod_18 : decode c_Plan_newMethod 18 = .ok (.iload 6, 2) := by decide +kernel
theorem d_Plan_newMethod_20 : decode c_Plan_newMethod 20 = .ok (.iload_n 2, 1) := by decide +kernel
theorem d_Plan_newMethod_21 : decode c_Plan_newMethod 21 = .ok (.iastore, 1) := by decide +kernel
theorem d_Plan_newMethod_22 : decode c_Plan_newMethod 22 = .ok (.aload_n 0, 1) := by decide +kernel
theorem d_Plan_newMethod_23 : decode c_Plan_newMethod 23 = .ok (.getfield 33, 3) := by decide +kernel
theorem d_Plan_newMethod_26 : decode c_Plan_newMethod 26 = .ok (.iload 6, 2) := by decide +kernel
theorem d_Plan_newMethod_28 : decode c_Plan_newMethod 28 = .ok (.iload_n 3, 1) := by decide +kernel
theorem d_Plan_newMethod_29 : decode c_Plan_newMethod 29 = .ok (.iastore, 1) := by decide +kernel
theorem d_Plan_newMethod_30 : decode c_Plan_newMethod 30 = .ok (.aload_n 0, 1) := by decide +kernel
theorem d_Plan_newMethod_31 : decode c_Plan_newMethod 31 = .ok (.getfield 36, 3) := by decide +kernel
theorem d_Plan_newMethod_34 : decode c_Plan_newMethod 34 = .ok (.iload 6, 2) := by decide +kernel
theorem d_Plan_newMethod_36 : decode c_Plan_newMethod 36 = .ok (.iload 4, 2) := by decide +kernel
theorem d_Plan_newMethod_38 : decode c_Plan_newMethod 38 = .ok (.iastore, 1) := by decide +kernel
theorem d_Plan_newMethod_39 : decode c_Plan_newMethod 39 = .ok (.aload_n 0, 1) := by decide +kernel
theorem d_Plan_newMethod_40 : decode c_Plan_newMethod 40 = .ok (.getfield 39, 3) := by decide +kernel
theorem d_Plan_newMethod_43 : decode c_Plan_newMethod 43 = .ok (.iload 6, 2) := by decide +kernel
theorem d_Plan_newMethod_45 : decode c_Plan_newMethod 45 = .ok (.iload 5, 2) := by decide +kernel
theorem d_Plan_newMethod_47 : decode c_Plan_newMethod 47 = .ok (.iastore, 1) := by decide +kernel
theorem d_Plan_newMethod_48 : decode c_Plan_newMethod 48 = .ok (.aload_n 0, 1) := by decide +kernel
theorem d_Plan_newMethod_49 : decode c_Plan_newMethod 49 = .ok (.getfield 42, 3) := by decide +kernel
theorem d_Plan_newMethod_52 : decode c_Plan_newMethod 52 = .ok (.iload 6, 2) := by decide +kernel
theorem d_Plan_newMethod_54 : decode c_Plan_newMethod 54 = .ok (.iconst (0), 1) := by decide +kernel
theorem d_Plan_newMethod_55 : decode c_Plan_newMethod 55 = .ok (.iastore, 1) := by decide +kernel
theorem d_Plan_newMethod_56 : decode c_Plan_newMethod 56 = .ok (.aload_n 0, 1) := by decide +kernel
theorem d_Plan_newMethod_57 : decode c_Plan_newMethod 57 = .ok (.dup, 1) := by decide +kernel
theorem d_Plan_newMethod_58 : decode c_Plan_newMethod 58 = .ok (.getfield 58, 3) := by decide +kernel
theorem d_Plan_newMethod_61 : decode c_Plan_newMethod 61 = .ok (.iconst (1), 1) := by decide +kernel
theorem d_Plan_newMethod_62 : decode c_Plan_newMethod 62 = .ok (.iadd, 1) := by decide +kernel
theorem d_Plan_newMethod_63 : decode c_Plan_newMethod 63 = .ok (.putfield 58, 3) := by decide +kernel
theorem d_Plan_newMethod_66 : decode c_Plan_newMethod 66 = .ok (.iload 6, 2) := by decide +kernel
theorem d_Plan_newMethod_68 : decode c_Plan_newMethod 68 = .ok (.ireturn, 1) := by decide +kernel
def fx_Plan_newMethod (σ : tx_St) (x1 : Int32) (x2 : Int32) (x3 : Int32) (x4 : Int32) (x5 : Int32) : Option (Int32 × tx_St) := tx_wr σ 7 8 (σ 1 2) x1 fun σ1 => tx_wr σ1 8 8 (σ 1 2) x2 fun σ2 => tx_wr σ2 9 8 (σ 1 2) x3 fun σ3 => tx_wr σ3 10 8 (σ 1 2) x4 fun σ4 => tx_wr σ4 11 8 (σ 1 2) x5 fun σ5 => tx_wr σ5 12 8 (σ 1 2) (0 : Int32) fun σ6 => tx_pt σ6 1 2 ((σ6 1 2) + (1 : Int32)) fun σ7 => some ((σ 1 2), σ7)
set_option maxRecDepth 100000 in
set_option maxHeartbeats 4000000 in
theorem fx_Plan_newMethod_c (l : Launch) (E : tx_E) (σ : tx_St) (x1 : Int32) (x2 : Int32) (x3 : Int32) (x4 : Int32) (x5 : Int32) (t : Int32 × tx_St) (hT : fx_Plan_newMethod σ x1 x2 x3 x4 x5 = some t) : tx_MX l E y_Plan_newMethod mi_Plan_newMethod (some (.int t.1), t.2) [.ref (E.1 1), .int x1, .int x2, .int x3, .int x4, .int x5] σ := by
  refine tx_MX_of (by decide) rfl (Nat.le_of_ble_eq_true rfl) ?_
  show gx l E mi_Plan_newMethod (some (.int t.1), t.2) σ [(0, .ref (E.1 1)), (1, .int x1), (2, .int x2), (3, .int x3), (4, .int x4), (5, .int x5)] 0 []
  unfold fx_Plan_newMethod at hT
  refine gx_aload_n (pc := 0) 0 d_Plan_newMethod_0 rfl rfl ?_
  refine gx_getI (pc := 1) (σ 1 2) fl_Plan_58 d_Plan_newMethod_1 (rfl) (by decide) rfl rfl ?_
  refine gx_istore (pc := 4) [(6, .int (σ 1 2)), (0, .ref (E.1 1)), (1, .int x1), (2, .int x2), (3, .int x3), (4, .int x4), (5, .int x5)] d_Plan_newMethod_4 (Nat.le_of_ble_eq_true rfl) rfl ?_
  refine gx_aload_n (pc := 6) 1 d_Plan_newMethod_6 rfl rfl ?_
  refine gx_getR (pc := 7) 7 fl_Plan_27 d_Plan_newMethod_7 (rfl) (by decide) rfl ?_
  refine gx_iload (pc := 10) 0 d_Plan_newMethod_10 rfl ?_
  refine gx_iload_n (pc := 12) 2 d_Plan_newMethod_12 rfl rfl ?_
  obtain ⟨σ1, gσ1, iσ1, hT⟩ := tx_wr_some hT
  refine gx_iast (pc := 13) d_Plan_newMethod_13 (rfl) iσ1 ?_
  rw [gσ1]
  refine gx_aload_n (pc := 14) 1 d_Plan_newMethod_14 rfl rfl ?_
  refine gx_getR (pc := 15) 8 fl_Plan_30 d_Plan_newMethod_15 (rfl) (by decide) rfl ?_
  refine gx_iload (pc := 18) 0 d_Plan_newMethod_18 rfl ?_
  refine gx_iload_n (pc := 20) 3 d_Plan_newMethod_20 rfl rfl ?_
  obtain ⟨σ2, gσ2, iσ2, hT⟩ := tx_wr_some hT
  refine gx_iast (pc := 21) d_Plan_newMethod_21 (rfl) iσ2 ?_
  rw [gσ2]
  refine gx_aload_n (pc := 22) 1 d_Plan_newMethod_22 rfl rfl ?_
  refine gx_getR (pc := 23) 9 fl_Plan_33 d_Plan_newMethod_23 (rfl) (by decide) rfl ?_
  refine gx_iload (pc := 26) 0 d_Plan_newMethod_26 rfl ?_
  refine gx_iload_n (pc := 28) 4 d_Plan_newMethod_28 rfl rfl ?_
  obtain ⟨σ3, gσ3, iσ3, hT⟩ := tx_wr_some hT
  refine gx_iast (pc := 29) d_Plan_newMethod_29 (rfl) iσ3 ?_
  rw [gσ3]
  refine gx_aload_n (pc := 30) 1 d_Plan_newMethod_30 rfl rfl ?_
  refine gx_getR (pc := 31) 10 fl_Plan_36 d_Plan_newMethod_31 (rfl) (by decide) rfl ?_
  refine gx_iload (pc := 34) 0 d_Plan_newMethod_34 rfl ?_
  refine gx_iload (pc := 36) 5 d_Plan_newMethod_36 rfl ?_
  obtain ⟨σ4, gσ4, iσ4, hT⟩ := tx_wr_some hT
  refine gx_iast (pc := 38) d_Plan_newMethod_38 (rfl) iσ4 ?_
  rw [gσ4]
  refine gx_aload_n (pc := 39) 1 d_Plan_newMethod_39 rfl rfl ?_
  refine gx_getR (pc := 40) 11 fl_Plan_39 d_Plan_newMethod_40 (rfl) (by decide) rfl ?_
  refine gx_iload (pc := 43) 0 d_Plan_newMethod_43 rfl ?_
  refine gx_iload (pc := 45) 6 d_Plan_newMethod_45 rfl ?_
  obtain ⟨σ5, gσ5, iσ5, hT⟩ := tx_wr_some hT
  refine gx_iast (pc := 47) d_Plan_newMethod_47 (rfl) iσ5 ?_
  rw [gσ5]
  refine gx_aload_n (pc := 48) 1 d_Plan_newMethod_48 rfl rfl ?_
  refine gx_getR (pc := 49) 12 fl_Plan_42 d_Plan_newMethod_49 (rfl) (by decide) rfl ?_
  refine gx_iload (pc := 52) 0 d_Plan_newMethod_52 rfl ?_
  refine gx_iconst (pc := 54) (0 : Int32) d_Plan_newMethod_54 (by decide) ?_
  obtain ⟨σ6, gσ6, iσ6, hT⟩ := tx_wr_some hT
  refine gx_iast (pc := 55) d_Plan_newMethod_55 (rfl) iσ6 ?_
  rw [gσ6]
  refine gx_aload_n (pc := 56) 1 d_Plan_newMethod_56 rfl rfl ?_
  refine gx_dup (pc := 57) d_Plan_newMethod_57 rfl ?_
  refine gx_getI (pc := 58) (σ6 1 2) fl_Plan_58 d_Plan_newMethod_58 (rfl) (by decide) rfl rfl ?_
  refine gx_iconst (pc := 61) (1 : Int32) d_Plan_newMethod_61 (by decide) ?_
  refine gx_iadd (pc := 62) d_Plan_newMethod_62 ?_
  obtain ⟨σ7, gσ7, hT⟩ := tx_pt_some hT
  refine gx_putI (pc := 63) fp_Plan_58 d_Plan_newMethod_63 (rfl) (by decide) rfl ?_
  rw [gσ7]
  refine gx_iload (pc := 66) 0 d_Plan_newMethod_66 rfl ?_
  cases hT
  exact gx_iret (pc := 68) d_Plan_newMethod_68 rfl rfl
theorem d_X_addMethod_0 : decode c_X_addMethod 0 = .ok (.aload_n 0, 1) := by decide +kernel
theorem d_X_addMethod_1 : decode c_X_addMethod 1 = .ok (.getfield 50, 3) := by decide +kernel
theorem d_X_addMethod_4 : decode c_X_addMethod 4 = .ok (.ifCond .eq (6), 3) := by decide +kernel
theorem d_X_addMethod_7 : decode c_X_addMethod 7 = .ok (.bipush (-3), 2) := by decide +kernel
theorem d_X_addMethod_9 : decode c_X_addMethod 9 = .ok (.ireturn, 1) := by decide +kernel
theorem d_X_addMethod_10 : decode c_X_addMethod 10 = .ok (.aload_n 0, 1) := by decide +kernel
theorem d_X_addMethod_11 : decode c_X_addMethod 11 = .ok (.getfield 10, 3) := by decide +kernel
theorem d_X_addMethod_14 : decode c_X_addMethod 14 = .ok (.iload_n 1, 1) := by decide +kernel
theorem d_X_addMethod_15 : decode c_X_addMethod 15 = .ok (.invokevirtual 61, 3) := by decide +kernel
theorem d_X_addMethod_18 : decode c_X_addMethod 18 = .ok (.ifCond .eq (22), 3) := by decide +kernel
theorem d_X_addMethod_21 : decode c_X_addMethod 21 = .ok (.iload_n 2, 1) := by decide +kernel
theorem d_X_addMethod_22 : decode c_X_addMethod 22 = .ok (.ifCond .lt (18), 3) := by decide +kernel
theorem d_X_addMethod_25 : decode c_X_addMethod 25 = .ok (.iload_n 2, 1) := by decide +kernel
theorem d_X_addMethod_26 : decode c_X_addMethod 26 = .ok (.iconst (1), 1) := by decide +kernel
theorem d_X_addMethod_27 : decode c_X_addMethod 27 = .ok (.if_icmp .gt (13), 3) := by decide +kernel
theorem d_X_addMethod_30 : decode c_X_addMethod 30 = .ok (.iload_n 3, 1) := by decide +kernel
theorem d_X_addMethod_31 : decode c_X_addMethod 31 = .ok (.ifCond .lt (9), 3) := by decide +kernel
theorem d_X_addMethod_34 : decode c_X_addMethod 34 = .ok (.iload_n 3, 1) := by decide +kernel
theorem d_X_addMethod_35 : decode c_X_addMethod 35 = .ok (.bipush (8), 2) := by decide +kernel
theorem d_X_addMethod_37 : decode c_X_addMethod 37 = .ok (.if_icmp .lt (5), 3) := by decide +kernel
theorem d_X_addMethod_40 : decode c_X_addMethod 40 = .ok (.iconst (-1), 1) := by decide +kernel
theorem d_X_addMethod_41 : decode c_X_addMethod 41 = .ok (.ireturn, 1) := by decide +kernel
theorem d_X_addMethod_42 : decode c_X_addMethod 42 = .ok (.iload 4, 2) := by decide +kernel
theorem d_X_addMethod_44 : decode c_X_addMethod 44 = .ok (.iconst (-1), 1) := by decide +kernel
theorem d_X_addMethod_45 : decode c_X_addMethod 45 = .ok (.if_icmp .eq (15), 3) := by decide +kernel
theorem d_X_addMethod_48 : decode c_X_addMethod 48 = .ok (.aload_n 0, 1) := by decide +kernel
theorem d_X_addMethod_49 : decode c_X_addMethod 49 = .ok (.getfield 10, 3) := by decide +kernel
theorem d_X_addMethod_52 : decode c_X_addMethod 52 = .ok (.iload 4, 2) := by decide +kernel
theorem d_X_addMethod_54 : decode c_X_addMethod 54 = .ok (.invokevirtual 72, 3) := by decide +kernel
theorem d_X_addMethod_57 : decode c_X_addMethod 57 = .ok (.ifCond .eq (7), 3) := by decide +kernel
theorem d_X_addMethod_60 : decode c_X_addMethod 60 = .ok (.iconst (1), 1) := by decide +kernel
theorem d_X_addMethod_61 : decode c_X_addMethod 61 = .ok (.goto (4), 3) := by decide +kernel
theorem d_X_addMethod_64 : decode c_X_addMethod 64 = .ok (.iconst (0), 1) := by decide +kernel
theorem d_X_addMethod_65 : decode c_X_addMethod 65 = .ok (.istore 6, 2) := by decide +kernel
theorem d_X_addMethod_67 : decode c_X_addMethod 67 = .ok (.iload 6, 2) := by decide +kernel
theorem d_X_addMethod_69 : decode c_X_addMethod 69 = .ok (.ifCond .eq (28), 3) := by decide +kernel
theorem d_X_addMethod_72 : decode c_X_addMethod 72 = .ok (.aload_n 0, 1) := by decide +kernel
theorem d_X_addMethod_73 : decode c_X_addMethod 73 = .ok (.getfield 10, 3) := by decide +kernel
theorem d_X_addMethod_76 : decode c_X_addMethod 76 = .ok (.iload 5, 2) := by decide +kernel
theorem d_X_addMethod_78 : decode c_X_addMethod 78 = .ok (.invokevirtual 72, 3) := by decide +kernel
theorem d_X_addMethod_81 : decode c_X_addMethod 81 = .ok (.ifCond .eq (16), 3) := by decide +kernel
theorem d_X_addMethod_84 : decode c_X_addMethod 84 = .ok (.aload_n 0, 1) := by decide +kernel
theorem d_X_addMethod_85 : decode c_X_addMethod 85 = .ok (.getfield 10, 3) := by decide +kernel
theorem d_X_addMethod_88 : decode c_X_addMethod 88 = .ok (.iload_n 1, 1) := by decide +kernel
theorem d_X_addMethod_89 : decode c_X_addMethod 89 = .ok (.iload_n 3, 1) := by decide +kernel
theorem d_X_addMethod_90 : decode c_X_addMethod 90 = .ok (.invokevirtual 82, 3) := by decide +kernel
theorem d_X_addMethod_93 : decode c_X_addMethod 93 = .ok (.iconst (-1), 1) := by decide +kernel
theorem d_X_addMethod_94 : decode c_X_addMethod 94 = .ok (.if_icmp .eq (5), 3) := by decide +kernel
theorem d_X_addMethod_97 : decode c_X_addMethod 97 = .ok (.iconst (-1), 1) := by decide +kernel
theorem d_X_addMethod_98 : decode c_X_addMethod 98 = .ok (.ireturn, 1) := by decide +kernel
theorem d_X_addMethod_99 : decode c_X_addMethod 99 = .ok (.aload_n 0, 1) := by decide +kernel
theorem d_X_addMethod_100 : decode c_X_addMethod 100 = .ok (.getfield 10, 3) := by decide +kernel
theorem d_X_addMethod_103 : decode c_X_addMethod 103 = .ok (.getfield 85, 3) := by decide +kernel
theorem d_X_addMethod_106 : decode c_X_addMethod 106 = .ok (.bipush (8), 2) := by decide +kernel
theorem d_X_addMethod_108 : decode c_X_addMethod 108 = .ok (.if_icmp .ne (6), 3) := by decide +kernel
theorem d_X_addMethod_111 : decode c_X_addMethod 111 = .ok (.bipush (-2), 2) := by decide +kernel
theorem d_X_addMethod_113 : decode c_X_addMethod 113 = .ok (.ireturn, 1) := by decide +kernel
theorem d_X_addMethod_114 : decode c_X_addMethod 114 = .ok (.aload_n 0, 1) := by decide +kernel
theorem d_X_addMethod_115 : decode c_X_addMethod 115 = .ok (.getfield 10, 3) := by decide +kernel
theorem d_X_addMethod_118 : decode c_X_addMethod 118 = .ok (.iload_n 1, 1) := by decide +kernel
theorem d_X_addMethod_119 : decode c_X_addMethod 119 = .ok (.iload_n 2, 1) := by decide +kernel
theorem d_X_addMethod_120 : decode c_X_addMethod 120 = .ok (.iload_n 3, 1) := by decide +kernel
theorem d_X_addMethod_121 : decode c_X_addMethod 121 = .ok (.iload 4, 2) := by decide +kernel
theorem d_X_addMethod_123 : decode c_X_addMethod 123 = .ok (.iload 5, 2) := by decide +kernel
theorem d_X_addMethod_125 : decode c_X_addMethod 125 = .ok (.invokevirtual 88, 3) := by decide +kernel
theorem d_X_addMethod_128 : decode c_X_addMethod 128 = .ok (.ireturn, 1) := by decide +kernel
def fx_X_addMethod_b40 (σ : tx_St) : Option (Int32 × tx_St) := some ((-1 : Int32), σ)
def fx_X_addMethod_b97 (σ : tx_St) : Option (Int32 × tx_St) := some ((-1 : Int32), σ)
def fx_X_addMethod_b65 (σ : tx_St) (x1 : Int32) (x2 : Int32) (x3 : Int32) (x4 : Int32) (x5 : Int32) (s0 : Int32) : Option (Int32 × tx_St) := (if s0 = 0 then fx_X_addMethod_b97  σ else tx_ci (fx_Plan_isType σ x5) fun r15 σ14 => (if r15 = 0 then fx_X_addMethod_b97  σ14 else tx_ci (fx_Plan_methodNamed σ14 x1 x3) fun r18 σ17 => (if r18 = (-1 : Int32) then (if (σ17 1 2) = (8 : Int32) then some ((-2 : Int32), σ17) else tx_ci (fx_Plan_newMethod σ17 x1 x2 x3 x4 x5) fun r22 σ21 => some (r22, σ21)) else fx_X_addMethod_b97  σ17)))
def fx_X_addMethod_b60 (σ : tx_St) (x1 : Int32) (x2 : Int32) (x3 : Int32) (x4 : Int32) (x5 : Int32) : Option (Int32 × tx_St) := fx_X_addMethod_b65  σ x1 x2 x3 x4 x5 (1 : Int32)
def fx_X_addMethod (σ : tx_St) (x1 : Int32) (x2 : Int32) (x3 : Int32) (x4 : Int32) (x5 : Int32) : Option (Int32 × tx_St) := (if (σ 0 5) = 0 then tx_ci (fx_Plan_isClass σ x1) fun r3 σ2 => (if r3 = 0 then fx_X_addMethod_b40  σ2 else (if x2 < 0 then fx_X_addMethod_b40  σ2 else (if (1 : Int32) < x2 then fx_X_addMethod_b40  σ2 else (if x3 < 0 then fx_X_addMethod_b40  σ2 else (if x3 < (8 : Int32) then (if x4 = (-1 : Int32) then fx_X_addMethod_b60  σ2 x1 x2 x3 x4 x5 else tx_ci (fx_Plan_isType σ2 x4) fun r11 σ10 => (if r11 = 0 then fx_X_addMethod_b65  σ10 x1 x2 x3 x4 x5 (0 : Int32) else fx_X_addMethod_b60  σ10 x1 x2 x3 x4 x5)) else fx_X_addMethod_b40  σ2))))) else some ((-3 : Int32), σ))
set_option maxRecDepth 100000 in
set_option maxHeartbeats 4000000 in
theorem fx_X_addMethod_b40_w {l : Launch} {E : tx_E} (σ : tx_St) (t : Int32 × tx_St) (hT : fx_X_addMethod_b40 σ  = some t) : gx l E mi_X_addMethod (some (.int t.1), t.2) σ [] 40 [] := by
  unfold fx_X_addMethod_b40 at hT
  refine gx_iconst (pc := 40) (-1 : Int32) d_X_addMethod_40 (by decide) ?_
  cases hT
  exact gx_iret (pc := 41) d_X_addMethod_41 rfl rfl
set_option maxRecDepth 100000 in
set_option maxHeartbeats 4000000 in
theorem fx_X_addMethod_b97_w {l : Launch} {E : tx_E} (σ : tx_St) (t : Int32 × tx_St) (hT : fx_X_addMethod_b97 σ  = some t) : gx l E mi_X_addMethod (some (.int t.1), t.2) σ [] 97 [] := by
  unfold fx_X_addMethod_b97 at hT
  refine gx_iconst (pc := 97) (-1 : Int32) d_X_addMethod_97 (by decide) ?_
  cases hT
  exact gx_iret (pc := 98) d_X_addMethod_98 rfl rfl
set_option maxRecDepth 100000 in
set_option maxHeartbeats 4000000 in
theorem fx_X_addMethod_b65_w {l : Launch} {E : tx_E} (σ : tx_St) (x1 : Int32) (x2 : Int32) (x3 : Int32) (x4 : Int32) (x5 : Int32) (s0 : Int32) (t : Int32 × tx_St) (hT : fx_X_addMethod_b65 σ x1 x2 x3 x4 x5 s0 = some t) : gx l E mi_X_addMethod (some (.int t.1), t.2) σ [(0, .ref (E.1 0)), (1, .int x1), (2, .int x2), (3, .int x3), (4, .int x4), (5, .int x5)] 65 [.int s0] := by
  unfold fx_X_addMethod_b65 at hT
  refine gx_istore (pc := 65) [(6, .int s0), (0, .ref (E.1 0)), (1, .int x1), (2, .int x2), (3, .int x3), (4, .int x4), (5, .int x5)] d_X_addMethod_65 (Nat.le_of_ble_eq_true rfl) rfl ?_
  refine gx_iload (pc := 67) 0 d_X_addMethod_67 rfl ?_
  refine gx_if_eq (pc := 69) 97 d_X_addMethod_69 rfl (fun h13 => ?_) (fun h13 => ?_)
  · have hT := tx_ifp h13 hT
    refine gx_sub [] rfl ?_
    exact fx_X_addMethod_b97_w  σ _ hT
  · have hT := tx_ifn h13 hT
    refine gx_aload_n (pc := 72) 1 d_X_addMethod_72 rfl rfl ?_
    refine gx_getR (pc := 73) 1 fl_X_10 d_X_addMethod_73 (rfl) (by decide) rfl ?_
    refine gx_iload (pc := 76) 6 d_X_addMethod_76 rfl ?_
    obtain ⟨r15, σ14, cσ14, hT⟩ := tx_ci_some hT
    refine gx_callV (pc := 78) (As := [.int x5]) (rest := []) cm_Plan_isType lk_X_72 (fx_Plan_isType_c l E σ x5 _ cσ14) (rfl) (by decide) rfl rfl tx_fi_X_addMethod_Plan_isType (Nat.le_of_ble_eq_true rfl) d_X_addMethod_78 ?_
    change gx l E mi_X_addMethod _ σ14 [(6, .int s0), (0, .ref (E.1 0)), (1, .int x1), (2, .int x2), (3, .int x3), (4, .int x4), (5, .int x5)] 81 [.int r15]
    refine gx_if_eq (pc := 81) 97 d_X_addMethod_81 rfl (fun h16 => ?_) (fun h16 => ?_)
    · have hT := tx_ifp h16 hT
      refine gx_sub [] rfl ?_
      exact fx_X_addMethod_b97_w  σ14 _ hT
    · have hT := tx_ifn h16 hT
      refine gx_aload_n (pc := 84) 1 d_X_addMethod_84 rfl rfl ?_
      refine gx_getR (pc := 85) 1 fl_X_10 d_X_addMethod_85 (rfl) (by decide) rfl ?_
      refine gx_iload_n (pc := 88) 2 d_X_addMethod_88 rfl rfl ?_
      refine gx_iload_n (pc := 89) 4 d_X_addMethod_89 rfl rfl ?_
      obtain ⟨r18, σ17, cσ17, hT⟩ := tx_ci_some hT
      refine gx_callV (pc := 90) (As := [.int x1, .int x3]) (rest := []) cm_Plan_methodNamed lk_X_82 (fx_Plan_methodNamed_c l E σ14 x1 x3 _ cσ17) (rfl) (by decide) rfl rfl tx_fi_X_addMethod_Plan_methodNamed (Nat.le_of_ble_eq_true rfl) d_X_addMethod_90 ?_
      change gx l E mi_X_addMethod _ σ17 [(6, .int s0), (0, .ref (E.1 0)), (1, .int x1), (2, .int x2), (3, .int x3), (4, .int x4), (5, .int x5)] 93 [.int r18]
      refine gx_iconst (pc := 93) (-1 : Int32) d_X_addMethod_93 (by decide) ?_
      refine gx_icmp_eq (pc := 94) 99 d_X_addMethod_94 rfl (fun h19 => ?_) (fun h19 => ?_)
      · have hT := tx_ifp h19 hT
        refine gx_aload_n (pc := 99) 1 d_X_addMethod_99 rfl rfl ?_
        refine gx_getR (pc := 100) 1 fl_X_10 d_X_addMethod_100 (rfl) (by decide) rfl ?_
        refine gx_getI (pc := 103) (σ17 1 2) fl_X_85 d_X_addMethod_103 (rfl) (by decide) rfl rfl ?_
        refine gx_bipush (pc := 106) (8 : Int32) d_X_addMethod_106 (by decide) ?_
        refine gx_icmp_ne (pc := 108) 114 d_X_addMethod_108 rfl (fun h20 => ?_) (fun h20 => ?_)
        · have hT := tx_ifn h20 hT
          refine gx_aload_n (pc := 114) 1 d_X_addMethod_114 rfl rfl ?_
          refine gx_getR (pc := 115) 1 fl_X_10 d_X_addMethod_115 (rfl) (by decide) rfl ?_
          refine gx_iload_n (pc := 118) 2 d_X_addMethod_118 rfl rfl ?_
          refine gx_iload_n (pc := 119) 3 d_X_addMethod_119 rfl rfl ?_
          refine gx_iload_n (pc := 120) 4 d_X_addMethod_120 rfl rfl ?_
          refine gx_iload (pc := 121) 5 d_X_addMethod_121 rfl ?_
          refine gx_iload (pc := 123) 6 d_X_addMethod_123 rfl ?_
          obtain ⟨r22, σ21, cσ21, hT⟩ := tx_ci_some hT
          refine gx_callV (pc := 125) (As := [.int x1, .int x2, .int x3, .int x4, .int x5]) (rest := []) cm_Plan_newMethod lk_X_88 (fx_Plan_newMethod_c l E σ17 x1 x2 x3 x4 x5 _ cσ21) (rfl) (by decide) rfl rfl tx_fi_X_addMethod_Plan_newMethod (Nat.le_of_ble_eq_true rfl) d_X_addMethod_125 ?_
          change gx l E mi_X_addMethod _ σ21 [(6, .int s0), (0, .ref (E.1 0)), (1, .int x1), (2, .int x2), (3, .int x3), (4, .int x4), (5, .int x5)] 128 [.int r22]
          cases hT
          exact gx_iret (pc := 128) d_X_addMethod_128 rfl rfl
        · have hT := tx_ifp h20 hT
          refine gx_bipush (pc := 111) (-2 : Int32) d_X_addMethod_111 (by decide) ?_
          cases hT
          exact gx_iret (pc := 113) d_X_addMethod_113 rfl rfl
      · have hT := tx_ifn h19 hT
        refine gx_sub [] rfl ?_
        exact fx_X_addMethod_b97_w  σ17 _ hT
set_option maxRecDepth 100000 in
set_option maxHeartbeats 4000000 in
theorem fx_X_addMethod_b60_w {l : Launch} {E : tx_E} (σ : tx_St) (x1 : Int32) (x2 : Int32) (x3 : Int32) (x4 : Int32) (x5 : Int32) (t : Int32 × tx_St) (hT : fx_X_addMethod_b60 σ x1 x2 x3 x4 x5 = some t) : gx l E mi_X_addMethod (some (.int t.1), t.2) σ [(0, .ref (E.1 0)), (1, .int x1), (2, .int x2), (3, .int x3), (4, .int x4), (5, .int x5)] 60 [] := by
  unfold fx_X_addMethod_b60 at hT
  refine gx_iconst (pc := 60) (1 : Int32) d_X_addMethod_60 (by decide) ?_
  refine gx_goto (pc := 61) 65 d_X_addMethod_61 rfl ?_
  exact fx_X_addMethod_b65_w  σ x1 x2 x3 x4 x5 (1 : Int32) _ hT
set_option maxRecDepth 100000 in
set_option maxHeartbeats 4000000 in
theorem fx_X_addMethod_c (l : Launch) (E : tx_E) (σ : tx_St) (x1 : Int32) (x2 : Int32) (x3 : Int32) (x4 : Int32) (x5 : Int32) (t : Int32 × tx_St) (hT : fx_X_addMethod σ x1 x2 x3 x4 x5 = some t) : tx_MX l E y_X_addMethod mi_X_addMethod (some (.int t.1), t.2) [.ref (E.1 0), .int x1, .int x2, .int x3, .int x4, .int x5] σ := by
  refine tx_MX_of (by decide) rfl (Nat.le_of_ble_eq_true rfl) ?_
  show gx l E mi_X_addMethod (some (.int t.1), t.2) σ [(0, .ref (E.1 0)), (1, .int x1), (2, .int x2), (3, .int x3), (4, .int x4), (5, .int x5)] 0 []
  unfold fx_X_addMethod at hT
  refine gx_aload_n (pc := 0) 0 d_X_addMethod_0 rfl rfl ?_
  refine gx_getI (pc := 1) (σ 0 5) fl_X_50 d_X_addMethod_1 (rfl) (by decide) rfl rfl ?_
  refine gx_if_eq (pc := 4) 10 d_X_addMethod_4 rfl (fun h1 => ?_) (fun h1 => ?_)
  · have hT := tx_ifp h1 hT
    refine gx_aload_n (pc := 10) 0 d_X_addMethod_10 rfl rfl ?_
    refine gx_getR (pc := 11) 1 fl_X_10 d_X_addMethod_11 (rfl) (by decide) rfl ?_
    refine gx_iload_n (pc := 14) 1 d_X_addMethod_14 rfl rfl ?_
    obtain ⟨r3, σ2, cσ2, hT⟩ := tx_ci_some hT
    refine gx_callV (pc := 15) (As := [.int x1]) (rest := []) cm_Plan_isClass lk_X_61 (fx_Plan_isClass_c l E σ x1 _ cσ2) (rfl) (by decide) rfl rfl tx_fi_X_addMethod_Plan_isClass (Nat.le_of_ble_eq_true rfl) d_X_addMethod_15 ?_
    change gx l E mi_X_addMethod _ σ2 [(0, .ref (E.1 0)), (1, .int x1), (2, .int x2), (3, .int x3), (4, .int x4), (5, .int x5)] 18 [.int r3]
    refine gx_if_eq (pc := 18) 40 d_X_addMethod_18 rfl (fun h4 => ?_) (fun h4 => ?_)
    · have hT := tx_ifp h4 hT
      refine gx_sub [] rfl ?_
      exact fx_X_addMethod_b40_w  σ2 _ hT
    · have hT := tx_ifn h4 hT
      refine gx_iload_n (pc := 21) 2 d_X_addMethod_21 rfl rfl ?_
      refine gx_if_lt (pc := 22) 40 d_X_addMethod_22 rfl (fun h5 => ?_) (fun h5 => ?_)
      · have hT := tx_ifp h5 hT
        refine gx_sub [] rfl ?_
        exact fx_X_addMethod_b40_w  σ2 _ hT
      · have hT := tx_ifn h5 hT
        refine gx_iload_n (pc := 25) 2 d_X_addMethod_25 rfl rfl ?_
        refine gx_iconst (pc := 26) (1 : Int32) d_X_addMethod_26 (by decide) ?_
        refine gx_icmp_gt (pc := 27) 40 d_X_addMethod_27 rfl (fun h6 => ?_) (fun h6 => ?_)
        · have hT := tx_ifp h6 hT
          refine gx_sub [] rfl ?_
          exact fx_X_addMethod_b40_w  σ2 _ hT
        · have hT := tx_ifn h6 hT
          refine gx_iload_n (pc := 30) 3 d_X_addMethod_30 rfl rfl ?_
          refine gx_if_lt (pc := 31) 40 d_X_addMethod_31 rfl (fun h7 => ?_) (fun h7 => ?_)
          · have hT := tx_ifp h7 hT
            refine gx_sub [] rfl ?_
            exact fx_X_addMethod_b40_w  σ2 _ hT
          · have hT := tx_ifn h7 hT
            refine gx_iload_n (pc := 34) 3 d_X_addMethod_34 rfl rfl ?_
            refine gx_bipush (pc := 35) (8 : Int32) d_X_addMethod_35 (by decide) ?_
            refine gx_icmp_lt (pc := 37) 42 d_X_addMethod_37 rfl (fun h8 => ?_) (fun h8 => ?_)
            · have hT := tx_ifp h8 hT
              refine gx_iload (pc := 42) 4 d_X_addMethod_42 rfl ?_
              refine gx_iconst (pc := 44) (-1 : Int32) d_X_addMethod_44 (by decide) ?_
              refine gx_icmp_eq (pc := 45) 60 d_X_addMethod_45 rfl (fun h9 => ?_) (fun h9 => ?_)
              · have hT := tx_ifp h9 hT
                exact fx_X_addMethod_b60_w  σ2 x1 x2 x3 x4 x5 _ hT
              · have hT := tx_ifn h9 hT
                refine gx_aload_n (pc := 48) 0 d_X_addMethod_48 rfl rfl ?_
                refine gx_getR (pc := 49) 1 fl_X_10 d_X_addMethod_49 (rfl) (by decide) rfl ?_
                refine gx_iload (pc := 52) 4 d_X_addMethod_52 rfl ?_
                obtain ⟨r11, σ10, cσ10, hT⟩ := tx_ci_some hT
                refine gx_callV (pc := 54) (As := [.int x4]) (rest := []) cm_Plan_isType lk_X_72 (fx_Plan_isType_c l E σ2 x4 _ cσ10) (rfl) (by decide) rfl rfl tx_fi_X_addMethod_Plan_isType (Nat.le_of_ble_eq_true rfl) d_X_addMethod_54 ?_
                change gx l E mi_X_addMethod _ σ10 [(0, .ref (E.1 0)), (1, .int x1), (2, .int x2), (3, .int x3), (4, .int x4), (5, .int x5)] 57 [.int r11]
                refine gx_if_eq (pc := 57) 64 d_X_addMethod_57 rfl (fun h12 => ?_) (fun h12 => ?_)
                · have hT := tx_ifp h12 hT
                  refine gx_iconst (pc := 64) (0 : Int32) d_X_addMethod_64 (by decide) ?_
                  exact fx_X_addMethod_b65_w  σ10 x1 x2 x3 x4 x5 (0 : Int32) _ hT
                · have hT := tx_ifn h12 hT
                  exact fx_X_addMethod_b60_w  σ10 x1 x2 x3 x4 x5 _ hT
            · have hT := tx_ifn h8 hT
              refine gx_sub [] rfl ?_
              exact fx_X_addMethod_b40_w  σ2 _ hT
  · have hT := tx_ifn h1 hT
    refine gx_bipush (pc := 7) (-3 : Int32) d_X_addMethod_7 (by decide) ?_
    cases hT
    exact gx_iret (pc := 9) d_X_addMethod_9 rfl rfl
theorem d_Plan_isMethod_0 : decode c_Plan_isMethod 0 = .ok (.iload_n 1, 1) := by decide +kernel
theorem d_Plan_isMethod_1 : decode c_Plan_isMethod 1 = .ok (.ifCond .lt (15), 3) := by decide +kernel
theorem d_Plan_isMethod_4 : decode c_Plan_isMethod 4 = .ok (.iload_n 1, 1) := by decide +kernel
theorem d_Plan_isMethod_5 : decode c_Plan_isMethod 5 = .ok (.aload_n 0, 1) := by decide +kernel
theorem d_Plan_isMethod_6 : decode c_Plan_isMethod 6 = .ok (.getfield 58, 3) := by decide +kernel
theorem d_Plan_isMethod_9 : decode c_Plan_isMethod 9 = .ok (.if_icmp .ge (7), 3) := by decide +kernel
theorem d_Plan_isMethod_12 : decode c_Plan_isMethod 12 = .ok (.iconst (1), 1) := by decide +kernel
theorem d_Plan_isMethod_13 : decode c_Plan_isMethod 13 = .ok (.goto (4), 3) := by decide +kernel
theorem d_Plan_isMethod_16 : decode c_Plan_isMethod 16 = .ok (.iconst (0), 1) := by decide +kernel
theorem d_Plan_isMethod_17 : decode c_Plan_isMethod 17 = .ok (.ireturn, 1) := by decide +kernel
def fx_Plan_isMethod_b17 (σ : tx_St) (s0 : Int32) : Option (Int32 × tx_St) := tx_rz s0 σ
def fx_Plan_isMethod_b16 (σ : tx_St) : Option (Int32 × tx_St) := fx_Plan_isMethod_b17  σ (0 : Int32)
def fx_Plan_isMethod (σ : tx_St) (x1 : Int32) : Option (Int32 × tx_St) := (if x1 < 0 then fx_Plan_isMethod_b16  σ else (if (σ 1 2) ≤ x1 then fx_Plan_isMethod_b16  σ else fx_Plan_isMethod_b17  σ (1 : Int32)))
set_option maxRecDepth 100000 in
set_option maxHeartbeats 4000000 in
theorem fx_Plan_isMethod_b17_w {l : Launch} {E : tx_E} (σ : tx_St) (s0 : Int32) (t : Int32 × tx_St) (hT : fx_Plan_isMethod_b17 σ s0 = some t) : gx l E mi_Plan_isMethod (some (.int t.1), t.2) σ [] 17 [.int s0] := by
  unfold fx_Plan_isMethod_b17 at hT
  obtain ⟨hz, hT⟩ := tx_rz_some hT
  cases hT
  exact gx_zret (pc := 17) d_Plan_isMethod_17 rfl hz rfl
set_option maxRecDepth 100000 in
set_option maxHeartbeats 4000000 in
theorem fx_Plan_isMethod_b16_w {l : Launch} {E : tx_E} (σ : tx_St) (t : Int32 × tx_St) (hT : fx_Plan_isMethod_b16 σ  = some t) : gx l E mi_Plan_isMethod (some (.int t.1), t.2) σ [] 16 [] := by
  unfold fx_Plan_isMethod_b16 at hT
  refine gx_iconst (pc := 16) (0 : Int32) d_Plan_isMethod_16 (by decide) ?_
  exact fx_Plan_isMethod_b17_w  σ (0 : Int32) _ hT
set_option maxRecDepth 100000 in
set_option maxHeartbeats 4000000 in
theorem fx_Plan_isMethod_c (l : Launch) (E : tx_E) (σ : tx_St) (x1 : Int32) (t : Int32 × tx_St) (hT : fx_Plan_isMethod σ x1 = some t) : tx_MX l E y_Plan_isMethod mi_Plan_isMethod (some (.int t.1), t.2) [.ref (E.1 1), .int x1] σ := by
  refine tx_MX_of (by decide) rfl (Nat.le_of_ble_eq_true rfl) ?_
  show gx l E mi_Plan_isMethod (some (.int t.1), t.2) σ [(0, .ref (E.1 1)), (1, .int x1)] 0 []
  unfold fx_Plan_isMethod at hT
  refine gx_iload_n (pc := 0) 1 d_Plan_isMethod_0 rfl rfl ?_
  refine gx_if_lt (pc := 1) 16 d_Plan_isMethod_1 rfl (fun h1 => ?_) (fun h1 => ?_)
  · have hT := tx_ifp h1 hT
    refine gx_sub [] rfl ?_
    exact fx_Plan_isMethod_b16_w  σ _ hT
  · have hT := tx_ifn h1 hT
    refine gx_iload_n (pc := 4) 1 d_Plan_isMethod_4 rfl rfl ?_
    refine gx_aload_n (pc := 5) 0 d_Plan_isMethod_5 rfl rfl ?_
    refine gx_getI (pc := 6) (σ 1 2) fl_Plan_58 d_Plan_isMethod_6 (rfl) (by decide) rfl rfl ?_
    refine gx_icmp_ge (pc := 9) 16 d_Plan_isMethod_9 rfl (fun h2 => ?_) (fun h2 => ?_)
    · have hT := tx_ifp h2 hT
      refine gx_sub [] rfl ?_
      exact fx_Plan_isMethod_b16_w  σ _ hT
    · have hT := tx_ifn h2 hT
      refine gx_iconst (pc := 12) (1 : Int32) d_Plan_isMethod_12 (by decide) ?_
      refine gx_goto (pc := 13) 17 d_Plan_isMethod_13 rfl ?_
      refine gx_sub [] rfl ?_
      exact fx_Plan_isMethod_b17_w  σ (1 : Int32) _ hT
theorem d_Plan_newInstruction_0 : decode c_Plan_newInstruction 0 = .ok (.aload_n 0, 1) := by decide +kernel
theorem d_Plan_newInstruction_1 : decode c_Plan_newInstruction 1 = .ok (.getfield 42, 3) := by decide +kernel
theorem d_Plan_newInstruction_4 : decode c_Plan_newInstruction 4 = .ok (.iload_n 1, 1) := by decide +kernel
theorem d_Plan_newInstruction_5 : decode c_Plan_newInstruction 5 = .ok (.iaload, 1) := by decide +kernel
theorem d_Plan_newInstruction_6 : decode c_Plan_newInstruction 6 = .ok (.istore 4, 2) := by decide +kernel
theorem d_Plan_newInstruction_8 : decode c_Plan_newInstruction 8 = .ok (.aload_n 0, 1) := by decide +kernel
theorem d_Plan_newInstruction_9 : decode c_Plan_newInstruction 9 = .ok (.getfield 45, 3) := by decide +kernel
theorem d_Plan_newInstruction_12 : decode c_Plan_newInstruction 12 = .ok (.iload_n 1, 1) := by decide +kernel
theorem d_Plan_newInstruction_13 : decode c_Plan_newInstruction 13 = .ok (.bipush (12), 2) := by decide +kernel
theorem d_Plan_newInstruction_15 : decode c_Plan_newInstruction 15 = .ok (.imul, 1) := by decide +kernel
theorem d_Plan_newInstruction_16 : decode c_Plan_newInstruction 16 = .ok (.iload 4, 2) := by decide +kernel
theorem d_Plan_newInstruction_18 : decode c_Plan_newInstruction 18 = .ok (.iadd, 1) := by decide +kernel
theorem d_Plan_newInstruction_19 : decode c_Plan_newInstruction 19 = .ok (.iload_n 2, 1) := by decide +kernel
theorem d_Plan_newInstruction_20 : decode c_Plan_newInstruction 20 = .ok (.iastore, 1) := by decide +kernel
theorem d_Plan_newInstruction_21 : decode c_Plan_newInstruction 21 = .ok (.aload_n 0, 1) := by decide +kernel
theorem d_Plan_newInstruction_22 : decode c_Plan_newInstruction 22 = .ok (.getfield 48, 3) := by decide +kernel
theorem d_Plan_newInstruction_25 : decode c_Plan_newInstruction 25 = .ok (.iload_n 1, 1) := by decide +kernel
theorem d_Plan_newInstruction_26 : decode c_Plan_newInstruction 26 = .ok (.bipush (12), 2) := by decide +kernel
theorem d_Plan_newInstruction_28 : decode c_Plan_newInstruction 28 = .ok (.imul, 1) := by decide +kernel
theorem d_Plan_newInstruction_29 : decode c_Plan_newInstruction 29 = .ok (.iload 4, 2) := by decide +kernel
theorem d_Plan_newInstruction_31 : decode c_Plan_newInstruction 31 = .ok (.iadd, 1) := by decide +kernel
theorem d_Plan_newInstruction_32 : decode c_Plan_newInstruction 32 = .ok (.iload_n 3, 1) := by decide +kernel
theorem d_Plan_newInstruction_33 : decode c_Plan_newInstruction 33 = .ok (.iastore, 1) := by decide +kernel
theorem d_Plan_newInstruction_34 : decode c_Plan_newInstruction 34 = .ok (.aload_n 0, 1) := by decide +kernel
theorem d_Plan_newInstruction_35 : decode c_Plan_newInstruction 35 = .ok (.getfield 42, 3) := by decide +kernel
theorem d_Plan_newInstruction_38 : decode c_Plan_newInstruction 38 = .ok (.iload_n 1, 1) := by decide +kernel
theorem d_Plan_newInstruction_39 : decode c_Plan_newInstruction 39 = .ok (.dup2, 1) := by decide +kernel
theorem d_Plan_newInstruction_40 : decode c_Plan_newInstruction 40 = .ok (.iaload, 1) := by decide +kernel
theorem d_Plan_newInstruction_41 : decode c_Plan_newInstruction 41 = .ok (.iconst (1), 1) := by decide +kernel
theorem d_Plan_newInstruction_42 : decode c_Plan_newInstruction 42 = .ok (.iadd, 1) := by decide +kernel
theorem d_Plan_newInstruction_43 : decode c_Plan_newInstruction 43 = .ok (.iastore, 1) := by decide +kernel
theorem d_Plan_newInstruction_44 : decode c_Plan_newInstruction 44 = .ok (.iload 4, 2) := by decide +kernel
theorem d_Plan_newInstruction_46 : decode c_Plan_newInstruction 46 = .ok (.ireturn, 1) := by decide +kernel
def fx_Plan_newInstruction (σ : tx_St) (x1 : Int32) (x2 : Int32) (x3 : Int32) : Option (Int32 × tx_St) := tx_rd σ 12 8 x1 fun v1 => tx_wr σ 13 96 ((x1 * (12 : Int32)) + v1) x2 fun σ2 => tx_wr σ2 14 96 ((x1 * (12 : Int32)) + v1) x3 fun σ3 => tx_rd σ3 12 8 x1 fun v4 => tx_wr σ3 12 8 x1 (v4 + (1 : Int32)) fun σ5 => some (v1, σ5)
set_option maxRecDepth 100000 in
set_option maxHeartbeats 4000000 in
theorem fx_Plan_newInstruction_c (l : Launch) (E : tx_E) (σ : tx_St) (x1 : Int32) (x2 : Int32) (x3 : Int32) (t : Int32 × tx_St) (hT : fx_Plan_newInstruction σ x1 x2 x3 = some t) : tx_MX l E y_Plan_newInstruction mi_Plan_newInstruction (some (.int t.1), t.2) [.ref (E.1 1), .int x1, .int x2, .int x3] σ := by
  refine tx_MX_of (by decide) rfl (Nat.le_of_ble_eq_true rfl) ?_
  show gx l E mi_Plan_newInstruction (some (.int t.1), t.2) σ [(0, .ref (E.1 1)), (1, .int x1), (2, .int x2), (3, .int x3)] 0 []
  unfold fx_Plan_newInstruction at hT
  refine gx_aload_n (pc := 0) 0 d_Plan_newInstruction_0 rfl rfl ?_
  refine gx_getR (pc := 1) 12 fl_Plan_42 d_Plan_newInstruction_1 (rfl) (by decide) rfl ?_
  refine gx_iload_n (pc := 4) 1 d_Plan_newInstruction_4 rfl rfl ?_
  obtain ⟨v1, gv1, iv1, hT⟩ := tx_rd_some hT
  refine gx_iald (pc := 5) v1 d_Plan_newInstruction_5 (rfl) iv1 gv1 ?_
  refine gx_istore (pc := 6) [(4, .int v1), (0, .ref (E.1 1)), (1, .int x1), (2, .int x2), (3, .int x3)] d_Plan_newInstruction_6 (Nat.le_of_ble_eq_true rfl) rfl ?_
  refine gx_aload_n (pc := 8) 1 d_Plan_newInstruction_8 rfl rfl ?_
  refine gx_getR (pc := 9) 13 fl_Plan_45 d_Plan_newInstruction_9 (rfl) (by decide) rfl ?_
  refine gx_iload_n (pc := 12) 2 d_Plan_newInstruction_12 rfl rfl ?_
  refine gx_bipush (pc := 13) (12 : Int32) d_Plan_newInstruction_13 (by decide) ?_
  refine gx_imul (pc := 15) d_Plan_newInstruction_15 ?_
  refine gx_iload (pc := 16) 0 d_Plan_newInstruction_16 rfl ?_
  refine gx_iadd (pc := 18) d_Plan_newInstruction_18 ?_
  refine gx_iload_n (pc := 19) 3 d_Plan_newInstruction_19 rfl rfl ?_
  obtain ⟨σ2, gσ2, iσ2, hT⟩ := tx_wr_some hT
  refine gx_iast (pc := 20) d_Plan_newInstruction_20 (rfl) iσ2 ?_
  rw [gσ2]
  refine gx_aload_n (pc := 21) 1 d_Plan_newInstruction_21 rfl rfl ?_
  refine gx_getR (pc := 22) 14 fl_Plan_48 d_Plan_newInstruction_22 (rfl) (by decide) rfl ?_
  refine gx_iload_n (pc := 25) 2 d_Plan_newInstruction_25 rfl rfl ?_
  refine gx_bipush (pc := 26) (12 : Int32) d_Plan_newInstruction_26 (by decide) ?_
  refine gx_imul (pc := 28) d_Plan_newInstruction_28 ?_
  refine gx_iload (pc := 29) 0 d_Plan_newInstruction_29 rfl ?_
  refine gx_iadd (pc := 31) d_Plan_newInstruction_31 ?_
  refine gx_iload_n (pc := 32) 4 d_Plan_newInstruction_32 rfl rfl ?_
  obtain ⟨σ3, gσ3, iσ3, hT⟩ := tx_wr_some hT
  refine gx_iast (pc := 33) d_Plan_newInstruction_33 (rfl) iσ3 ?_
  rw [gσ3]
  refine gx_aload_n (pc := 34) 1 d_Plan_newInstruction_34 rfl rfl ?_
  refine gx_getR (pc := 35) 12 fl_Plan_42 d_Plan_newInstruction_35 (rfl) (by decide) rfl ?_
  refine gx_iload_n (pc := 38) 2 d_Plan_newInstruction_38 rfl rfl ?_
  refine gx_dup2 (pc := 39) d_Plan_newInstruction_39 rfl rfl ?_
  obtain ⟨v4, gv4, iv4, hT⟩ := tx_rd_some hT
  refine gx_iald (pc := 40) v4 d_Plan_newInstruction_40 (rfl) iv4 gv4 ?_
  refine gx_iconst (pc := 41) (1 : Int32) d_Plan_newInstruction_41 (by decide) ?_
  refine gx_iadd (pc := 42) d_Plan_newInstruction_42 ?_
  obtain ⟨σ5, gσ5, iσ5, hT⟩ := tx_wr_some hT
  refine gx_iast (pc := 43) d_Plan_newInstruction_43 (rfl) iσ5 ?_
  rw [gσ5]
  refine gx_iload (pc := 44) 0 d_Plan_newInstruction_44 rfl ?_
  cases hT
  exact gx_iret (pc := 46) d_Plan_newInstruction_46 rfl rfl
theorem d_X_emit_0 : decode c_X_emit 0 = .ok (.aload_n 0, 1) := by decide +kernel
theorem d_X_emit_1 : decode c_X_emit 1 = .ok (.getfield 50, 3) := by decide +kernel
theorem d_X_emit_4 : decode c_X_emit 4 = .ok (.ifCond .eq (6), 3) := by decide +kernel
theorem d_X_emit_7 : decode c_X_emit 7 = .ok (.bipush (-3), 2) := by decide +kernel
theorem d_X_emit_9 : decode c_X_emit 9 = .ok (.ireturn, 1) := by decide +kernel
theorem d_X_emit_10 : decode c_X_emit 10 = .ok (.aload_n 0, 1) := by decide +kernel
theorem d_X_emit_11 : decode c_X_emit 11 = .ok (.getfield 10, 3) := by decide +kernel
theorem d_X_emit_14 : decode c_X_emit 14 = .ok (.iload_n 1, 1) := by decide +kernel
theorem d_X_emit_15 : decode c_X_emit 15 = .ok (.invokevirtual 92, 3) := by decide +kernel
theorem d_X_emit_18 : decode c_X_emit 18 = .ok (.ifCond .eq (13), 3) := by decide +kernel
theorem d_X_emit_21 : decode c_X_emit 21 = .ok (.iload_n 2, 1) := by decide +kernel
theorem d_X_emit_22 : decode c_X_emit 22 = .ok (.ifCond .lt (9), 3) := by decide +kernel
theorem d_X_emit_25 : decode c_X_emit 25 = .ok (.iload_n 2, 1) := by decide +kernel
theorem d_X_emit_26 : decode c_X_emit 26 = .ok (.bipush (19), 2) := by decide +kernel
theorem d_X_emit_28 : decode c_X_emit 28 = .ok (.if_icmp .le (5), 3) := by decide +kernel
theorem d_X_emit_31 : decode c_X_emit 31 = .ok (.iconst (-1), 1) := by decide +kernel
theorem d_X_emit_32 : decode c_X_emit 32 = .ok (.ireturn, 1) := by decide +kernel
theorem d_X_emit_33 : decode c_X_emit 33 = .ok (.aload_n 0, 1) := by decide +kernel
theorem d_X_emit_34 : decode c_X_emit 34 = .ok (.getfield 10, 3) := by decide +kernel
theorem d_X_emit_37 : decode c_X_emit 37 = .ok (.getfield 95, 3) := by decide +kernel
theorem d_X_emit_40 : decode c_X_emit 40 = .ok (.iload_n 1, 1) := by decide +kernel
theorem d_X_emit_41 : decode c_X_emit 41 = .ok (.iaload, 1) := by decide +kernel
theorem d_X_emit_42 : decode c_X_emit 42 = .ok (.bipush (12), 2) := by decide +kernel
theorem d_X_emit_44 : decode c_X_emit 44 = .ok (.if_icmp .ne (6), 3) := by decide +kernel
theorem d_X_emit_47 : decode c_X_emit 47 = .ok (.bipush (-2), 2) := by decide +kernel
theorem d_X_emit_49 : decode c_X_emit 49 = .ok (.ireturn, 1) := by decide +kernel
theorem d_X_emit_50 : decode c_X_emit 50 = .ok (.aload_n 0, 1) := by decide +kernel
theorem d_X_emit_51 : decode c_X_emit 51 = .ok (.getfield 10, 3) := by decide +kernel
theorem d_X_emit_54 : decode c_X_emit 54 = .ok (.iload_n 1, 1) := by decide +kernel
theorem d_X_emit_55 : decode c_X_emit 55 = .ok (.iload_n 2, 1) := by decide +kernel
theorem d_X_emit_56 : decode c_X_emit 56 = .ok (.iload_n 3, 1) := by decide +kernel
theorem d_X_emit_57 : decode c_X_emit 57 = .ok (.invokevirtual 99, 3) := by decide +kernel
theorem d_X_emit_60 : decode c_X_emit 60 = .ok (.ireturn, 1) := by decide +kernel
def fx_X_emit_b31 (σ : tx_St) : Option (Int32 × tx_St) := some ((-1 : Int32), σ)
def fx_X_emit (σ : tx_St) (x1 : Int32) (x2 : Int32) (x3 : Int32) : Option (Int32 × tx_St) := (if (σ 0 5) = 0 then tx_ci (fx_Plan_isMethod σ x1) fun r3 σ2 => (if r3 = 0 then fx_X_emit_b31  σ2 else (if x2 < 0 then fx_X_emit_b31  σ2 else (if x2 ≤ (19 : Int32) then tx_rd σ2 12 8 x1 fun v7 => (if v7 = (12 : Int32) then some ((-2 : Int32), σ2) else tx_ci (fx_Plan_newInstruction σ2 x1 x2 x3) fun r10 σ9 => some (r10, σ9)) else fx_X_emit_b31  σ2))) else some ((-3 : Int32), σ))
set_option maxRecDepth 100000 in
set_option maxHeartbeats 4000000 in
theorem fx_X_emit_b31_w {l : Launch} {E : tx_E} (σ : tx_St) (t : Int32 × tx_St) (hT : fx_X_emit_b31 σ  = some t) : gx l E mi_X_emit (some (.int t.1), t.2) σ [] 31 [] := by
  unfold fx_X_emit_b31 at hT
  refine gx_iconst (pc := 31) (-1 : Int32) d_X_emit_31 (by decide) ?_
  cases hT
  exact gx_iret (pc := 32) d_X_emit_32 rfl rfl
set_option maxRecDepth 100000 in
set_option maxHeartbeats 4000000 in
theorem fx_X_emit_c (l : Launch) (E : tx_E) (σ : tx_St) (x1 : Int32) (x2 : Int32) (x3 : Int32) (t : Int32 × tx_St) (hT : fx_X_emit σ x1 x2 x3 = some t) : tx_MX l E y_X_emit mi_X_emit (some (.int t.1), t.2) [.ref (E.1 0), .int x1, .int x2, .int x3] σ := by
  refine tx_MX_of (by decide) rfl (Nat.le_of_ble_eq_true rfl) ?_
  show gx l E mi_X_emit (some (.int t.1), t.2) σ [(0, .ref (E.1 0)), (1, .int x1), (2, .int x2), (3, .int x3)] 0 []
  unfold fx_X_emit at hT
  refine gx_aload_n (pc := 0) 0 d_X_emit_0 rfl rfl ?_
  refine gx_getI (pc := 1) (σ 0 5) fl_X_50 d_X_emit_1 (rfl) (by decide) rfl rfl ?_
  refine gx_if_eq (pc := 4) 10 d_X_emit_4 rfl (fun h1 => ?_) (fun h1 => ?_)
  · have hT := tx_ifp h1 hT
    refine gx_aload_n (pc := 10) 0 d_X_emit_10 rfl rfl ?_
    refine gx_getR (pc := 11) 1 fl_X_10 d_X_emit_11 (rfl) (by decide) rfl ?_
    refine gx_iload_n (pc := 14) 1 d_X_emit_14 rfl rfl ?_
    obtain ⟨r3, σ2, cσ2, hT⟩ := tx_ci_some hT
    refine gx_callV (pc := 15) (As := [.int x1]) (rest := []) cm_Plan_isMethod lk_X_92 (fx_Plan_isMethod_c l E σ x1 _ cσ2) (rfl) (by decide) rfl rfl tx_fi_X_emit_Plan_isMethod (Nat.le_of_ble_eq_true rfl) d_X_emit_15 ?_
    change gx l E mi_X_emit _ σ2 [(0, .ref (E.1 0)), (1, .int x1), (2, .int x2), (3, .int x3)] 18 [.int r3]
    refine gx_if_eq (pc := 18) 31 d_X_emit_18 rfl (fun h4 => ?_) (fun h4 => ?_)
    · have hT := tx_ifp h4 hT
      refine gx_sub [] rfl ?_
      exact fx_X_emit_b31_w  σ2 _ hT
    · have hT := tx_ifn h4 hT
      refine gx_iload_n (pc := 21) 2 d_X_emit_21 rfl rfl ?_
      refine gx_if_lt (pc := 22) 31 d_X_emit_22 rfl (fun h5 => ?_) (fun h5 => ?_)
      · have hT := tx_ifp h5 hT
        refine gx_sub [] rfl ?_
        exact fx_X_emit_b31_w  σ2 _ hT
      · have hT := tx_ifn h5 hT
        refine gx_iload_n (pc := 25) 2 d_X_emit_25 rfl rfl ?_
        refine gx_bipush (pc := 26) (19 : Int32) d_X_emit_26 (by decide) ?_
        refine gx_icmp_le (pc := 28) 33 d_X_emit_28 rfl (fun h6 => ?_) (fun h6 => ?_)
        · have hT := tx_ifp h6 hT
          refine gx_aload_n (pc := 33) 0 d_X_emit_33 rfl rfl ?_
          refine gx_getR (pc := 34) 1 fl_X_10 d_X_emit_34 (rfl) (by decide) rfl ?_
          refine gx_getR (pc := 37) 12 fl_X_95 d_X_emit_37 (rfl) (by decide) rfl ?_
          refine gx_iload_n (pc := 40) 1 d_X_emit_40 rfl rfl ?_
          obtain ⟨v7, gv7, iv7, hT⟩ := tx_rd_some hT
          refine gx_iald (pc := 41) v7 d_X_emit_41 (rfl) iv7 gv7 ?_
          refine gx_bipush (pc := 42) (12 : Int32) d_X_emit_42 (by decide) ?_
          refine gx_icmp_ne (pc := 44) 50 d_X_emit_44 rfl (fun h8 => ?_) (fun h8 => ?_)
          · have hT := tx_ifn h8 hT
            refine gx_aload_n (pc := 50) 0 d_X_emit_50 rfl rfl ?_
            refine gx_getR (pc := 51) 1 fl_X_10 d_X_emit_51 (rfl) (by decide) rfl ?_
            refine gx_iload_n (pc := 54) 1 d_X_emit_54 rfl rfl ?_
            refine gx_iload_n (pc := 55) 2 d_X_emit_55 rfl rfl ?_
            refine gx_iload_n (pc := 56) 3 d_X_emit_56 rfl rfl ?_
            obtain ⟨r10, σ9, cσ9, hT⟩ := tx_ci_some hT
            refine gx_callV (pc := 57) (As := [.int x1, .int x2, .int x3]) (rest := []) cm_Plan_newInstruction lk_X_99 (fx_Plan_newInstruction_c l E σ2 x1 x2 x3 _ cσ9) (rfl) (by decide) rfl rfl tx_fi_X_emit_Plan_newInstruction (Nat.le_of_ble_eq_true rfl) d_X_emit_57 ?_
            change gx l E mi_X_emit _ σ9 [(0, .ref (E.1 0)), (1, .int x1), (2, .int x2), (3, .int x3)] 60 [.int r10]
            cases hT
            exact gx_iret (pc := 60) d_X_emit_60 rfl rfl
          · have hT := tx_ifp h8 hT
            refine gx_bipush (pc := 47) (-2 : Int32) d_X_emit_47 (by decide) ?_
            cases hT
            exact gx_iret (pc := 49) d_X_emit_49 rfl rfl
        · have hT := tx_ifn h6 hT
          refine gx_sub [] rfl ?_
          exact fx_X_emit_b31_w  σ2 _ hT
  · have hT := tx_ifn h1 hT
    refine gx_bipush (pc := 7) (-3 : Int32) d_X_emit_7 (by decide) ?_
    cases hT
    exact gx_iret (pc := 9) d_X_emit_9 rfl rfl
theorem d_Plan_isStaticField_0 : decode c_Plan_isStaticField 0 = .ok (.aload_n 0, 1) := by decide +kernel
theorem d_Plan_isStaticField_1 : decode c_Plan_isStaticField 1 = .ok (.getfield 21, 3) := by decide +kernel
theorem d_Plan_isStaticField_4 : decode c_Plan_isStaticField 4 = .ok (.iload_n 1, 1) := by decide +kernel
theorem d_Plan_isStaticField_5 : decode c_Plan_isStaticField 5 = .ok (.iaload, 1) := by decide +kernel
theorem d_Plan_isStaticField_6 : decode c_Plan_isStaticField 6 = .ok (.iconst (1), 1) := by decide +kernel
theorem d_Plan_isStaticField_7 : decode c_Plan_isStaticField 7 = .ok (.iand, 1) := by decide +kernel
theorem d_Plan_isStaticField_8 : decode c_Plan_isStaticField 8 = .ok (.ifCond .eq (7), 3) := by decide +kernel
theorem d_Plan_isStaticField_11 : decode c_Plan_isStaticField 11 = .ok (.iconst (1), 1) := by decide +kernel
theorem d_Plan_isStaticField_12 : decode c_Plan_isStaticField 12 = .ok (.goto (4), 3) := by decide +kernel
theorem d_Plan_isStaticField_15 : decode c_Plan_isStaticField 15 = .ok (.iconst (0), 1) := by decide +kernel
theorem d_Plan_isStaticField_16 : decode c_Plan_isStaticField 16 = .ok (.ireturn, 1) := by decide +kernel
def fx_Plan_isStaticField_b16 (σ : tx_St) (s0 : Int32) : Option (Int32 × tx_St) := tx_rz s0 σ
def fx_Plan_isStaticField (σ : tx_St) (x1 : Int32) : Option (Int32 × tx_St) := tx_rd σ 5 12 x1 fun v1 => (if (v1 &&& (1 : Int32)) = 0 then fx_Plan_isStaticField_b16  σ (0 : Int32) else fx_Plan_isStaticField_b16  σ (1 : Int32))
set_option maxRecDepth 100000 in
set_option maxHeartbeats 4000000 in
theorem fx_Plan_isStaticField_b16_w {l : Launch} {E : tx_E} (σ : tx_St) (s0 : Int32) (t : Int32 × tx_St) (hT : fx_Plan_isStaticField_b16 σ s0 = some t) : gx l E mi_Plan_isStaticField (some (.int t.1), t.2) σ [] 16 [.int s0] := by
  unfold fx_Plan_isStaticField_b16 at hT
  obtain ⟨hz, hT⟩ := tx_rz_some hT
  cases hT
  exact gx_zret (pc := 16) d_Plan_isStaticField_16 rfl hz rfl
set_option maxRecDepth 100000 in
set_option maxHeartbeats 4000000 in
theorem fx_Plan_isStaticField_c (l : Launch) (E : tx_E) (σ : tx_St) (x1 : Int32) (t : Int32 × tx_St) (hT : fx_Plan_isStaticField σ x1 = some t) : tx_MX l E y_Plan_isStaticField mi_Plan_isStaticField (some (.int t.1), t.2) [.ref (E.1 1), .int x1] σ := by
  refine tx_MX_of (by decide) rfl (Nat.le_of_ble_eq_true rfl) ?_
  show gx l E mi_Plan_isStaticField (some (.int t.1), t.2) σ [(0, .ref (E.1 1)), (1, .int x1)] 0 []
  unfold fx_Plan_isStaticField at hT
  refine gx_aload_n (pc := 0) 0 d_Plan_isStaticField_0 rfl rfl ?_
  refine gx_getR (pc := 1) 5 fl_Plan_21 d_Plan_isStaticField_1 (rfl) (by decide) rfl ?_
  refine gx_iload_n (pc := 4) 1 d_Plan_isStaticField_4 rfl rfl ?_
  obtain ⟨v1, gv1, iv1, hT⟩ := tx_rd_some hT
  refine gx_iald (pc := 5) v1 d_Plan_isStaticField_5 (rfl) iv1 gv1 ?_
  refine gx_iconst (pc := 6) (1 : Int32) d_Plan_isStaticField_6 (by decide) ?_
  refine gx_iand (pc := 7) d_Plan_isStaticField_7 ?_
  refine gx_if_eq (pc := 8) 15 d_Plan_isStaticField_8 rfl (fun h2 => ?_) (fun h2 => ?_)
  · have hT := tx_ifp h2 hT
    refine gx_iconst (pc := 15) (0 : Int32) d_Plan_isStaticField_15 (by decide) ?_
    refine gx_sub [] rfl ?_
    exact fx_Plan_isStaticField_b16_w  σ (0 : Int32) _ hT
  · have hT := tx_ifn h2 hT
    refine gx_iconst (pc := 11) (1 : Int32) d_Plan_isStaticField_11 (by decide) ?_
    refine gx_goto (pc := 12) 16 d_Plan_isStaticField_12 rfl ?_
    refine gx_sub [] rfl ?_
    exact fx_Plan_isStaticField_b16_w  σ (1 : Int32) _ hT
theorem d_Plan_isFinalField_0 : decode c_Plan_isFinalField 0 = .ok (.aload_n 0, 1) := by decide +kernel
theorem d_Plan_isFinalField_1 : decode c_Plan_isFinalField 1 = .ok (.getfield 21, 3) := by decide +kernel
theorem d_Plan_isFinalField_4 : decode c_Plan_isFinalField 4 = .ok (.iload_n 1, 1) := by decide +kernel
theorem d_Plan_isFinalField_5 : decode c_Plan_isFinalField 5 = .ok (.iaload, 1) := by decide +kernel
theorem d_Plan_isFinalField_6 : decode c_Plan_isFinalField 6 = .ok (.iconst (2), 1) := by decide +kernel
theorem d_Plan_isFinalField_7 : decode c_Plan_isFinalField 7 = .ok (.iand, 1) := by decide +kernel
theorem d_Plan_isFinalField_8 : decode c_Plan_isFinalField 8 = .ok (.ifCond .eq (7), 3) := by decide +kernel
theorem d_Plan_isFinalField_11 : decode c_Plan_isFinalField 11 = .ok (.iconst (1), 1) := by decide +kernel
theorem d_Plan_isFinalField_12 : decode c_Plan_isFinalField 12 = .ok (.goto (4), 3) := by decide +kernel
theorem d_Plan_isFinalField_15 : decode c_Plan_isFinalField 15 = .ok (.iconst (0), 1) := by decide +kernel
theorem d_Plan_isFinalField_16 : decode c_Plan_isFinalField 16 = .ok (.ireturn, 1) := by decide +kernel
def fx_Plan_isFinalField_b16 (σ : tx_St) (s0 : Int32) : Option (Int32 × tx_St) := tx_rz s0 σ
def fx_Plan_isFinalField (σ : tx_St) (x1 : Int32) : Option (Int32 × tx_St) := tx_rd σ 5 12 x1 fun v1 => (if (v1 &&& (2 : Int32)) = 0 then fx_Plan_isFinalField_b16  σ (0 : Int32) else fx_Plan_isFinalField_b16  σ (1 : Int32))
set_option maxRecDepth 100000 in
set_option maxHeartbeats 4000000 in
theorem fx_Plan_isFinalField_b16_w {l : Launch} {E : tx_E} (σ : tx_St) (s0 : Int32) (t : Int32 × tx_St) (hT : fx_Plan_isFinalField_b16 σ s0 = some t) : gx l E mi_Plan_isFinalField (some (.int t.1), t.2) σ [] 16 [.int s0] := by
  unfold fx_Plan_isFinalField_b16 at hT
  obtain ⟨hz, hT⟩ := tx_rz_some hT
  cases hT
  exact gx_zret (pc := 16) d_Plan_isFinalField_16 rfl hz rfl
set_option maxRecDepth 100000 in
set_option maxHeartbeats 4000000 in
theorem fx_Plan_isFinalField_c (l : Launch) (E : tx_E) (σ : tx_St) (x1 : Int32) (t : Int32 × tx_St) (hT : fx_Plan_isFinalField σ x1 = some t) : tx_MX l E y_Plan_isFinalField mi_Plan_isFinalField (some (.int t.1), t.2) [.ref (E.1 1), .int x1] σ := by
  refine tx_MX_of (by decide) rfl (Nat.le_of_ble_eq_true rfl) ?_
  show gx l E mi_Plan_isFinalField (some (.int t.1), t.2) σ [(0, .ref (E.1 1)), (1, .int x1)] 0 []
  unfold fx_Plan_isFinalField at hT
  refine gx_aload_n (pc := 0) 0 d_Plan_isFinalField_0 rfl rfl ?_
  refine gx_getR (pc := 1) 5 fl_Plan_21 d_Plan_isFinalField_1 (rfl) (by decide) rfl ?_
  refine gx_iload_n (pc := 4) 1 d_Plan_isFinalField_4 rfl rfl ?_
  obtain ⟨v1, gv1, iv1, hT⟩ := tx_rd_some hT
  refine gx_iald (pc := 5) v1 d_Plan_isFinalField_5 (rfl) iv1 gv1 ?_
  refine gx_iconst (pc := 6) (2 : Int32) d_Plan_isFinalField_6 (by decide) ?_
  refine gx_iand (pc := 7) d_Plan_isFinalField_7 ?_
  refine gx_if_eq (pc := 8) 15 d_Plan_isFinalField_8 rfl (fun h2 => ?_) (fun h2 => ?_)
  · have hT := tx_ifp h2 hT
    refine gx_iconst (pc := 15) (0 : Int32) d_Plan_isFinalField_15 (by decide) ?_
    refine gx_sub [] rfl ?_
    exact fx_Plan_isFinalField_b16_w  σ (0 : Int32) _ hT
  · have hT := tx_ifn h2 hT
    refine gx_iconst (pc := 11) (1 : Int32) d_Plan_isFinalField_11 (by decide) ?_
    refine gx_goto (pc := 12) 16 d_Plan_isFinalField_12 rfl ?_
    refine gx_sub [] rfl ?_
    exact fx_Plan_isFinalField_b16_w  σ (1 : Int32) _ hT
theorem d_Plan_isPowerless_0 : decode c_Plan_isPowerless 0 = .ok (.iload_n 1, 1) := by decide +kernel
theorem d_Plan_isPowerless_1 : decode c_Plan_isPowerless 1 = .ok (.iconst (2), 1) := by decide +kernel
theorem d_Plan_isPowerless_2 : decode c_Plan_isPowerless 2 = .ok (.if_icmp .ge (13), 3) := by decide +kernel
theorem d_Plan_isPowerless_5 : decode c_Plan_isPowerless 5 = .ok (.iload_n 1, 1) := by decide +kernel
theorem d_Plan_isPowerless_6 : decode c_Plan_isPowerless 6 = .ok (.ifCond .ne (7), 3) := by decide +kernel
theorem d_Plan_isPowerless_9 : decode c_Plan_isPowerless 9 = .ok (.iconst (1), 1) := by decide +kernel
theorem d_Plan_isPowerless_10 : decode c_Plan_isPowerless 10 = .ok (.goto (4), 3) := by decide +kernel
theorem d_Plan_isPowerless_13 : decode c_Plan_isPowerless 13 = .ok (.iconst (0), 1) := by decide +kernel
theorem d_Plan_isPowerless_14 : decode c_Plan_isPowerless 14 = .ok (.ireturn, 1) := by decide +kernel
theorem d_Plan_isPowerless_15 : decode c_Plan_isPowerless 15 = .ok (.aload_n 0, 1) := by decide +kernel
theorem d_Plan_isPowerless_16 : decode c_Plan_isPowerless 16 = .ok (.getfield 15, 3) := by decide +kernel
theorem d_Plan_isPowerless_19 : decode c_Plan_isPowerless 19 = .ok (.iload_n 1, 1) := by decide +kernel
theorem d_Plan_isPowerless_20 : decode c_Plan_isPowerless 20 = .ok (.iconst (2), 1) := by decide +kernel
theorem d_Plan_isPowerless_21 : decode c_Plan_isPowerless 21 = .ok (.isub, 1) := by decide +kernel
theorem d_Plan_isPowerless_22 : decode c_Plan_isPowerless 22 = .ok (.iaload, 1) := by decide +kernel
theorem d_Plan_isPowerless_23 : decode c_Plan_isPowerless 23 = .ok (.iconst (2), 1) := by decide +kernel
theorem d_Plan_isPowerless_24 : decode c_Plan_isPowerless 24 = .ok (.iand, 1) := by decide +kernel
theorem d_Plan_isPowerless_25 : decode c_Plan_isPowerless 25 = .ok (.ifCond .eq (7), 3) := by decide +kernel
theorem d_Plan_isPowerless_28 : decode c_Plan_isPowerless 28 = .ok (.iconst (1), 1) := by decide +kernel
theorem d_Plan_isPowerless_29 : decode c_Plan_isPowerless 29 = .ok (.goto (4), 3) := by decide +kernel
theorem d_Plan_isPowerless_32 : decode c_Plan_isPowerless 32 = .ok (.iconst (0), 1) := by decide +kernel
theorem d_Plan_isPowerless_33 : decode c_Plan_isPowerless 33 = .ok (.ireturn, 1) := by decide +kernel
def fx_Plan_isPowerless_b33 (σ : tx_St) (s0 : Int32) : Option (Int32 × tx_St) := tx_rz s0 σ
def fx_Plan_isPowerless_b14 (σ : tx_St) (s0 : Int32) : Option (Int32 × tx_St) := tx_rz s0 σ
def fx_Plan_isPowerless (σ : tx_St) (x1 : Int32) : Option (Int32 × tx_St) := (if (2 : Int32) ≤ x1 then tx_rd σ 3 8 (x1 - (2 : Int32)) fun v2 => (if (v2 &&& (2 : Int32)) = 0 then fx_Plan_isPowerless_b33  σ (0 : Int32) else fx_Plan_isPowerless_b33  σ (1 : Int32)) else (if x1 = 0 then fx_Plan_isPowerless_b14  σ (1 : Int32) else fx_Plan_isPowerless_b14  σ (0 : Int32)))
set_option maxRecDepth 100000 in
set_option maxHeartbeats 4000000 in
theorem fx_Plan_isPowerless_b33_w {l : Launch} {E : tx_E} (σ : tx_St) (s0 : Int32) (t : Int32 × tx_St) (hT : fx_Plan_isPowerless_b33 σ s0 = some t) : gx l E mi_Plan_isPowerless (some (.int t.1), t.2) σ [] 33 [.int s0] := by
  unfold fx_Plan_isPowerless_b33 at hT
  obtain ⟨hz, hT⟩ := tx_rz_some hT
  cases hT
  exact gx_zret (pc := 33) d_Plan_isPowerless_33 rfl hz rfl
set_option maxRecDepth 100000 in
set_option maxHeartbeats 4000000 in
theorem fx_Plan_isPowerless_b14_w {l : Launch} {E : tx_E} (σ : tx_St) (s0 : Int32) (t : Int32 × tx_St) (hT : fx_Plan_isPowerless_b14 σ s0 = some t) : gx l E mi_Plan_isPowerless (some (.int t.1), t.2) σ [] 14 [.int s0] := by
  unfold fx_Plan_isPowerless_b14 at hT
  obtain ⟨hz, hT⟩ := tx_rz_some hT
  cases hT
  exact gx_zret (pc := 14) d_Plan_isPowerless_14 rfl hz rfl
set_option maxRecDepth 100000 in
set_option maxHeartbeats 4000000 in
theorem fx_Plan_isPowerless_c (l : Launch) (E : tx_E) (σ : tx_St) (x1 : Int32) (t : Int32 × tx_St) (hT : fx_Plan_isPowerless σ x1 = some t) : tx_MX l E y_Plan_isPowerless mi_Plan_isPowerless (some (.int t.1), t.2) [.ref (E.1 1), .int x1] σ := by
  refine tx_MX_of (by decide) rfl (Nat.le_of_ble_eq_true rfl) ?_
  show gx l E mi_Plan_isPowerless (some (.int t.1), t.2) σ [(0, .ref (E.1 1)), (1, .int x1)] 0 []
  unfold fx_Plan_isPowerless at hT
  refine gx_iload_n (pc := 0) 1 d_Plan_isPowerless_0 rfl rfl ?_
  refine gx_iconst (pc := 1) (2 : Int32) d_Plan_isPowerless_1 (by decide) ?_
  refine gx_icmp_ge (pc := 2) 15 d_Plan_isPowerless_2 rfl (fun h1 => ?_) (fun h1 => ?_)
  · have hT := tx_ifp h1 hT
    refine gx_aload_n (pc := 15) 0 d_Plan_isPowerless_15 rfl rfl ?_
    refine gx_getR (pc := 16) 3 fl_Plan_15 d_Plan_isPowerless_16 (rfl) (by decide) rfl ?_
    refine gx_iload_n (pc := 19) 1 d_Plan_isPowerless_19 rfl rfl ?_
    refine gx_iconst (pc := 20) (2 : Int32) d_Plan_isPowerless_20 (by decide) ?_
    refine gx_isub (pc := 21) d_Plan_isPowerless_21 ?_
    obtain ⟨v2, gv2, iv2, hT⟩ := tx_rd_some hT
    refine gx_iald (pc := 22) v2 d_Plan_isPowerless_22 (rfl) iv2 gv2 ?_
    refine gx_iconst (pc := 23) (2 : Int32) d_Plan_isPowerless_23 (by decide) ?_
    refine gx_iand (pc := 24) d_Plan_isPowerless_24 ?_
    refine gx_if_eq (pc := 25) 32 d_Plan_isPowerless_25 rfl (fun h3 => ?_) (fun h3 => ?_)
    · have hT := tx_ifp h3 hT
      refine gx_iconst (pc := 32) (0 : Int32) d_Plan_isPowerless_32 (by decide) ?_
      refine gx_sub [] rfl ?_
      exact fx_Plan_isPowerless_b33_w  σ (0 : Int32) _ hT
    · have hT := tx_ifn h3 hT
      refine gx_iconst (pc := 28) (1 : Int32) d_Plan_isPowerless_28 (by decide) ?_
      refine gx_goto (pc := 29) 33 d_Plan_isPowerless_29 rfl ?_
      refine gx_sub [] rfl ?_
      exact fx_Plan_isPowerless_b33_w  σ (1 : Int32) _ hT
  · have hT := tx_ifn h1 hT
    refine gx_iload_n (pc := 5) 1 d_Plan_isPowerless_5 rfl rfl ?_
    refine gx_if_ne (pc := 6) 13 d_Plan_isPowerless_6 rfl (fun h4 => ?_) (fun h4 => ?_)
    · have hT := tx_ifn h4 hT
      refine gx_iconst (pc := 13) (0 : Int32) d_Plan_isPowerless_13 (by decide) ?_
      refine gx_sub [] rfl ?_
      exact fx_Plan_isPowerless_b14_w  σ (0 : Int32) _ hT
    · have hT := tx_ifp h4 hT
      refine gx_iconst (pc := 9) (1 : Int32) d_Plan_isPowerless_9 (by decide) ?_
      refine gx_goto (pc := 10) 14 d_Plan_isPowerless_10 rfl ?_
      refine gx_sub [] rfl ?_
      exact fx_Plan_isPowerless_b14_w  σ (1 : Int32) _ hT
