theorem d_Fitting_useStaticField_0 : decode c_Fitting_useStaticField 0 = .ok (.aload_n 0, 1) := by decide +kernel
theorem d_Fitting_useStaticField_1 : decode c_Fitting_useStaticField 1 = .ok (.aload_n 0, 1) := by decide +kernel
theorem d_Fitting_useStaticField_2 : decode c_Fitting_useStaticField 2 = .ok (.getfield 24, 3) := by decide +kernel
theorem d_Fitting_useStaticField_5 : decode c_Fitting_useStaticField 5 = .ok (.iload_n 2, 1) := by decide +kernel
theorem d_Fitting_useStaticField_6 : decode c_Fitting_useStaticField 6 = .ok (.invokevirtual 156, 3) := by decide +kernel
theorem d_Fitting_useStaticField_9 : decode c_Fitting_useStaticField 9 = .ok (.ifCond .eq (18), 3) := by decide +kernel
theorem d_Fitting_useStaticField_12 : decode c_Fitting_useStaticField 12 = .ok (.aload_n 0, 1) := by decide +kernel
theorem d_Fitting_useStaticField_13 : decode c_Fitting_useStaticField 13 = .ok (.getfield 24, 3) := by decide +kernel
theorem d_Fitting_useStaticField_16 : decode c_Fitting_useStaticField 16 = .ok (.iload_n 2, 1) := by decide +kernel
theorem d_Fitting_useStaticField_17 : decode c_Fitting_useStaticField 17 = .ok (.invokevirtual 159, 3) := by decide +kernel
theorem d_Fitting_useStaticField_20 : decode c_Fitting_useStaticField 20 = .ok (.ifCond .eq (7), 3) := by decide +kernel
theorem d_Fitting_useStaticField_23 : decode c_Fitting_useStaticField 23 = .ok (.iconst (1), 1) := by decide +kernel
theorem d_Fitting_useStaticField_24 : decode c_Fitting_useStaticField 24 = .ok (.goto (4), 3) := by decide +kernel
theorem d_Fitting_useStaticField_27 : decode c_Fitting_useStaticField 27 = .ok (.iconst (0), 1) := by decide +kernel
theorem d_Fitting_useStaticField_28 : decode c_Fitting_useStaticField 28 = .ok (.invokevirtual 131, 3) := by decide +kernel
theorem d_Fitting_useStaticField_31 : decode c_Fitting_useStaticField 31 = .ok (.aload_n 0, 1) := by decide +kernel
theorem d_Fitting_useStaticField_32 : decode c_Fitting_useStaticField 32 = .ok (.getfield 39, 3) := by decide +kernel
theorem d_Fitting_useStaticField_35 : decode c_Fitting_useStaticField 35 = .ok (.ifCond .ne (4), 3) := by decide +kernel
theorem d_Fitting_useStaticField_38 : decode c_Fitting_useStaticField 38 = .ok (.return_, 1) := by decide +kernel
theorem d_Fitting_useStaticField_39 : decode c_Fitting_useStaticField 39 = .ok (.iload_n 1, 1) := by decide +kernel
theorem d_Fitting_useStaticField_40 : decode c_Fitting_useStaticField 40 = .ok (.bipush (11), 2) := by decide +kernel
theorem d_Fitting_useStaticField_42 : decode c_Fitting_useStaticField 42 = .ok (.if_icmp .ne (16), 3) := by decide +kernel
theorem d_Fitting_useStaticField_45 : decode c_Fitting_useStaticField 45 = .ok (.aload_n 0, 1) := by decide +kernel
theorem d_Fitting_useStaticField_46 : decode c_Fitting_useStaticField 46 = .ok (.aload_n 0, 1) := by decide +kernel
theorem d_Fitting_useStaticField_47 : decode c_Fitting_useStaticField 47 = .ok (.getfield 24, 3) := by decide +kernel
theorem d_Fitting_useStaticField_50 : decode c_Fitting_useStaticField 50 = .ok (.getfield 153, 3) := by decide +kernel
theorem d_Fitting_useStaticField_53 : decode c_Fitting_useStaticField 53 = .ok (.iload_n 2, 1) := by decide +kernel
theorem d_Fitting_useStaticField_54 : decode c_Fitting_useStaticField 54 = .ok (.iaload, 1) := by decide +kernel
theorem d_Fitting_useStaticField_55 : decode c_Fitting_useStaticField 55 = .ok (.invokevirtual 110, 3) := by decide +kernel
theorem d_Fitting_useStaticField_58 : decode c_Fitting_useStaticField 58 = .ok (.iload_n 1, 1) := by decide +kernel
theorem d_Fitting_useStaticField_59 : decode c_Fitting_useStaticField 59 = .ok (.bipush (10), 2) := by decide +kernel
theorem d_Fitting_useStaticField_61 : decode c_Fitting_useStaticField 61 = .ok (.if_icmp .ne (16), 3) := by decide +kernel
theorem d_Fitting_useStaticField_64 : decode c_Fitting_useStaticField 64 = .ok (.aload_n 0, 1) := by decide +kernel
theorem d_Fitting_useStaticField_65 : decode c_Fitting_useStaticField 65 = .ok (.aload_n 0, 1) := by decide +kernel
theorem d_Fitting_useStaticField_66 : decode c_Fitting_useStaticField 66 = .ok (.getfield 24, 3) := by decide +kernel
theorem d_Fitting_useStaticField_69 : decode c_Fitting_useStaticField 69 = .ok (.getfield 153, 3) := by decide +kernel
theorem d_Fitting_useStaticField_72 : decode c_Fitting_useStaticField 72 = .ok (.iload_n 2, 1) := by decide +kernel
theorem d_Fitting_useStaticField_73 : decode c_Fitting_useStaticField 73 = .ok (.iaload, 1) := by decide +kernel
theorem d_Fitting_useStaticField_74 : decode c_Fitting_useStaticField 74 = .ok (.invokevirtual 101, 3) := by decide +kernel
theorem d_Fitting_useStaticField_77 : decode c_Fitting_useStaticField 77 = .ok (.return_, 1) := by decide +kernel
def fx_Fitting_useStaticField_b77 (σ : tx_St) : Option tx_St := some σ
def fx_Fitting_useStaticField_b58 (σ : tx_St) (x1 : Int32) (x2 : Int32) : Option tx_St := (if x1 = (10 : Int32) then tx_rd σ 6 12 x2 fun v13 => tx_cv (fx_Fitting_put σ v13) fun σ14 => fx_Fitting_useStaticField_b77  σ14 else fx_Fitting_useStaticField_b77  σ)
def fx_Fitting_useStaticField_b28 (σ : tx_St) (x1 : Int32) (x2 : Int32) (s0 : Int32) : Option tx_St := tx_cv (fx_Fitting_demand σ s0) fun σ7 => (if (σ7 15 8) = 0 then some σ7 else (if x1 = (11 : Int32) then tx_rd σ7 6 12 x2 fun v10 => tx_cv (fx_Fitting_take σ7 v10) fun σ11 => fx_Fitting_useStaticField_b58  σ11 x1 x2 else fx_Fitting_useStaticField_b58  σ7 x1 x2))
def fx_Fitting_useStaticField_b27 (σ : tx_St) (x1 : Int32) (x2 : Int32) : Option tx_St := fx_Fitting_useStaticField_b28  σ x1 x2 (0 : Int32)
def fx_Fitting_useStaticField (σ : tx_St) (x1 : Int32) (x2 : Int32) : Option tx_St := tx_ci (fx_Plan_isField σ x2) fun r2 σ1 => (if r2 = 0 then fx_Fitting_useStaticField_b27  σ1 x1 x2 else tx_ci (fx_Plan_isStaticField σ1 x2) fun r5 σ4 => (if r5 = 0 then fx_Fitting_useStaticField_b27  σ4 x1 x2 else fx_Fitting_useStaticField_b28  σ4 x1 x2 (1 : Int32)))
set_option maxRecDepth 100000 in
set_option maxHeartbeats 4000000 in
theorem fx_Fitting_useStaticField_b77_w {l : Launch} {E : tx_E} (σ : tx_St) (t : tx_St) (hT : fx_Fitting_useStaticField_b77 σ  = some t) : gx l E mi_Fitting_useStaticField (none, t) σ [] 77 [] := by
  unfold fx_Fitting_useStaticField_b77 at hT
  cases hT
  exact gx_vret (pc := 77) d_Fitting_useStaticField_77 rfl rfl
set_option maxRecDepth 100000 in
set_option maxHeartbeats 4000000 in
theorem fx_Fitting_useStaticField_b58_w {l : Launch} {E : tx_E} (σ : tx_St) (x1 : Int32) (x2 : Int32) (t : tx_St) (hT : fx_Fitting_useStaticField_b58 σ x1 x2 = some t) : gx l E mi_Fitting_useStaticField (none, t) σ [(0, .ref (E.1 15)), (1, .int x1), (2, .int x2)] 58 [] := by
  unfold fx_Fitting_useStaticField_b58 at hT
  refine gx_iload_n (pc := 58) 1 d_Fitting_useStaticField_58 rfl rfl ?_
  refine gx_bipush (pc := 59) (10 : Int32) d_Fitting_useStaticField_59 (by decide) ?_
  refine gx_icmp_ne (pc := 61) 77 d_Fitting_useStaticField_61 rfl (fun h12 => ?_) (fun h12 => ?_)
  · have hT := tx_ifn h12 hT
    refine gx_sub [] rfl ?_
    exact fx_Fitting_useStaticField_b77_w  σ _ hT
  · have hT := tx_ifp h12 hT
    refine gx_aload_n (pc := 64) 0 d_Fitting_useStaticField_64 rfl rfl ?_
    refine gx_aload_n (pc := 65) 0 d_Fitting_useStaticField_65 rfl rfl ?_
    refine gx_getR (pc := 66) 1 fl_Fitting_24 d_Fitting_useStaticField_66 (rfl) (by decide) rfl ?_
    refine gx_getR (pc := 69) 6 fl_Fitting_153 d_Fitting_useStaticField_69 (rfl) (by decide) rfl ?_
    refine gx_iload_n (pc := 72) 2 d_Fitting_useStaticField_72 rfl rfl ?_
    obtain ⟨v13, gv13, iv13, hT⟩ := tx_rd_some hT
    refine gx_iald (pc := 73) v13 d_Fitting_useStaticField_73 (rfl) iv13 gv13 ?_
    obtain ⟨σ14, cσ14, hT⟩ := tx_cv_some hT
    refine gx_callV (pc := 74) (As := [.int v13]) (rest := []) cm_Fitting_put lk_Fitting_101 (fx_Fitting_put_c l E σ v13 _ cσ14) (rfl) (by decide) rfl rfl tx_fi_Fitting_useStaticField_Fitting_put (Nat.le_of_ble_eq_true rfl) d_Fitting_useStaticField_74 ?_
    change gx l E mi_Fitting_useStaticField _ σ14 [(0, .ref (E.1 15)), (1, .int x1), (2, .int x2)] 77 []
    refine gx_sub [] rfl ?_
    exact fx_Fitting_useStaticField_b77_w  σ14 _ hT
set_option maxRecDepth 100000 in
set_option maxHeartbeats 4000000 in
theorem fx_Fitting_useStaticField_b28_w {l : Launch} {E : tx_E} (σ : tx_St) (x1 : Int32) (x2 : Int32) (s0 : Int32) (t : tx_St) (hT : fx_Fitting_useStaticField_b28 σ x1 x2 s0 = some t) : gx l E mi_Fitting_useStaticField (none, t) σ [(0, .ref (E.1 15)), (1, .int x1), (2, .int x2)] 28 [.int s0, .ref (E.1 15)] := by
  unfold fx_Fitting_useStaticField_b28 at hT
  obtain ⟨σ7, cσ7, hT⟩ := tx_cv_some hT
  refine gx_callV (pc := 28) (As := [.int s0]) (rest := []) cm_Fitting_demand lk_Fitting_131 (fx_Fitting_demand_c l E σ s0 _ cσ7) (rfl) (by decide) rfl rfl tx_fi_Fitting_useStaticField_Fitting_demand (Nat.le_of_ble_eq_true rfl) d_Fitting_useStaticField_28 ?_
  change gx l E mi_Fitting_useStaticField _ σ7 [(0, .ref (E.1 15)), (1, .int x1), (2, .int x2)] 31 []
  refine gx_aload_n (pc := 31) 0 d_Fitting_useStaticField_31 rfl rfl ?_
  refine gx_getI (pc := 32) (σ7 15 8) fl_Fitting_39 d_Fitting_useStaticField_32 (rfl) (by decide) rfl rfl ?_
  refine gx_if_ne (pc := 35) 39 d_Fitting_useStaticField_35 rfl (fun h8 => ?_) (fun h8 => ?_)
  · have hT := tx_ifn h8 hT
    refine gx_iload_n (pc := 39) 1 d_Fitting_useStaticField_39 rfl rfl ?_
    refine gx_bipush (pc := 40) (11 : Int32) d_Fitting_useStaticField_40 (by decide) ?_
    refine gx_icmp_ne (pc := 42) 58 d_Fitting_useStaticField_42 rfl (fun h9 => ?_) (fun h9 => ?_)
    · have hT := tx_ifn h9 hT
      exact fx_Fitting_useStaticField_b58_w  σ7 x1 x2 _ hT
    · have hT := tx_ifp h9 hT
      refine gx_aload_n (pc := 45) 0 d_Fitting_useStaticField_45 rfl rfl ?_
      refine gx_aload_n (pc := 46) 0 d_Fitting_useStaticField_46 rfl rfl ?_
      refine gx_getR (pc := 47) 1 fl_Fitting_24 d_Fitting_useStaticField_47 (rfl) (by decide) rfl ?_
      refine gx_getR (pc := 50) 6 fl_Fitting_153 d_Fitting_useStaticField_50 (rfl) (by decide) rfl ?_
      refine gx_iload_n (pc := 53) 2 d_Fitting_useStaticField_53 rfl rfl ?_
      obtain ⟨v10, gv10, iv10, hT⟩ := tx_rd_some hT
      refine gx_iald (pc := 54) v10 d_Fitting_useStaticField_54 (rfl) iv10 gv10 ?_
      obtain ⟨σ11, cσ11, hT⟩ := tx_cv_some hT
      refine gx_callV (pc := 55) (As := [.int v10]) (rest := []) cm_Fitting_take lk_Fitting_110 (fx_Fitting_take_c l E σ7 v10 _ cσ11) (rfl) (by decide) rfl rfl tx_fi_Fitting_useStaticField_Fitting_take (Nat.le_of_ble_eq_true rfl) d_Fitting_useStaticField_55 ?_
      change gx l E mi_Fitting_useStaticField _ σ11 [(0, .ref (E.1 15)), (1, .int x1), (2, .int x2)] 58 []
      exact fx_Fitting_useStaticField_b58_w  σ11 x1 x2 _ hT
  · have hT := tx_ifp h8 hT
    cases hT
    exact gx_vret (pc := 38) d_Fitting_useStaticField_38 rfl rfl
set_option maxRecDepth 100000 in
set_option maxHeartbeats 4000000 in
theorem fx_Fitting_useStaticField_b27_w {l : Launch} {E : tx_E} (σ : tx_St) (x1 : Int32) (x2 : Int32) (t : tx_St) (hT : fx_Fitting_useStaticField_b27 σ x1 x2 = some t) : gx l E mi_Fitting_useStaticField (none, t) σ [(0, .ref (E.1 15)), (1, .int x1), (2, .int x2)] 27 [.ref (E.1 15)] := by
  unfold fx_Fitting_useStaticField_b27 at hT
  refine gx_iconst (pc := 27) (0 : Int32) d_Fitting_useStaticField_27 (by decide) ?_
  exact fx_Fitting_useStaticField_b28_w  σ x1 x2 (0 : Int32) _ hT
set_option maxRecDepth 100000 in
set_option maxHeartbeats 4000000 in
theorem fx_Fitting_useStaticField_c (l : Launch) (E : tx_E) (σ : tx_St) (x1 : Int32) (x2 : Int32) (t : tx_St) (hT : fx_Fitting_useStaticField σ x1 x2 = some t) : tx_MX l E y_Fitting_useStaticField mi_Fitting_useStaticField (none, t) [.ref (E.1 15), .int x1, .int x2] σ := by
  refine tx_MX_of (by decide) rfl (Nat.le_of_ble_eq_true rfl) ?_
  show gx l E mi_Fitting_useStaticField (none, t) σ [(0, .ref (E.1 15)), (1, .int x1), (2, .int x2)] 0 []
  unfold fx_Fitting_useStaticField at hT
  refine gx_aload_n (pc := 0) 0 d_Fitting_useStaticField_0 rfl rfl ?_
  refine gx_aload_n (pc := 1) 0 d_Fitting_useStaticField_1 rfl rfl ?_
  refine gx_getR (pc := 2) 1 fl_Fitting_24 d_Fitting_useStaticField_2 (rfl) (by decide) rfl ?_
  refine gx_iload_n (pc := 5) 2 d_Fitting_useStaticField_5 rfl rfl ?_
  obtain ⟨r2, σ1, cσ1, hT⟩ := tx_ci_some hT
  refine gx_callV (pc := 6) (As := [.int x2]) (rest := [.ref (E.1 15)]) cm_Plan_isField lk_Fitting_156 (fx_Plan_isField_c l E σ x2 _ cσ1) (rfl) (by decide) rfl rfl tx_fi_Fitting_useStaticField_Plan_isField (Nat.le_of_ble_eq_true rfl) d_Fitting_useStaticField_6 ?_
  change gx l E mi_Fitting_useStaticField _ σ1 [(0, .ref (E.1 15)), (1, .int x1), (2, .int x2)] 9 [.int r2, .ref (E.1 15)]
  refine gx_if_eq (pc := 9) 27 d_Fitting_useStaticField_9 rfl (fun h3 => ?_) (fun h3 => ?_)
  · have hT := tx_ifp h3 hT
    exact fx_Fitting_useStaticField_b27_w  σ1 x1 x2 _ hT
  · have hT := tx_ifn h3 hT
    refine gx_aload_n (pc := 12) 0 d_Fitting_useStaticField_12 rfl rfl ?_
    refine gx_getR (pc := 13) 1 fl_Fitting_24 d_Fitting_useStaticField_13 (rfl) (by decide) rfl ?_
    refine gx_iload_n (pc := 16) 2 d_Fitting_useStaticField_16 rfl rfl ?_
    obtain ⟨r5, σ4, cσ4, hT⟩ := tx_ci_some hT
    refine gx_callV (pc := 17) (As := [.int x2]) (rest := [.ref (E.1 15)]) cm_Plan_isStaticField lk_Fitting_159 (fx_Plan_isStaticField_c l E σ1 x2 _ cσ4) (rfl) (by decide) rfl rfl tx_fi_Fitting_useStaticField_Plan_isStaticField (Nat.le_of_ble_eq_true rfl) d_Fitting_useStaticField_17 ?_
    change gx l E mi_Fitting_useStaticField _ σ4 [(0, .ref (E.1 15)), (1, .int x1), (2, .int x2)] 20 [.int r5, .ref (E.1 15)]
    refine gx_if_eq (pc := 20) 27 d_Fitting_useStaticField_20 rfl (fun h6 => ?_) (fun h6 => ?_)
    · have hT := tx_ifp h6 hT
      exact fx_Fitting_useStaticField_b27_w  σ4 x1 x2 _ hT
    · have hT := tx_ifn h6 hT
      refine gx_iconst (pc := 23) (1 : Int32) d_Fitting_useStaticField_23 (by decide) ?_
      refine gx_goto (pc := 24) 28 d_Fitting_useStaticField_24 rfl ?_
      exact fx_Fitting_useStaticField_b28_w  σ4 x1 x2 (1 : Int32) _ hT
theorem d_Fitting_callMethod_0 : decode c_Fitting_callMethod 0 = .ok (.aload_n 0, 1) := by decide +kernel
theorem d_Fitting_callMethod_1 : decode c_Fitting_callMethod 1 = .ok (.aload_n 0, 1) := by decide +kernel
theorem d_Fitting_callMethod_2 : decode c_Fitting_callMethod 2 = .ok (.getfield 24, 3) := by decide +kernel
theorem d_Fitting_callMethod_5 : decode c_Fitting_callMethod 5 = .ok (.iload_n 1, 1) := by decide +kernel
theorem d_Fitting_callMethod_6 : decode c_Fitting_callMethod 6 = .ok (.invokevirtual 165, 3) := by decide +kernel
theorem d_Fitting_callMethod_9 : decode c_Fitting_callMethod 9 = .ok (.invokevirtual 131, 3) := by decide +kernel
theorem d_Fitting_callMethod_12 : decode c_Fitting_callMethod 12 = .ok (.aload_n 0, 1) := by decide +kernel
theorem d_Fitting_callMethod_13 : decode c_Fitting_callMethod 13 = .ok (.getfield 39, 3) := by decide +kernel
theorem d_Fitting_callMethod_16 : decode c_Fitting_callMethod 16 = .ok (.ifCond .ne (4), 3) := by decide +kernel
theorem d_Fitting_callMethod_19 : decode c_Fitting_callMethod 19 = .ok (.return_, 1) := by decide +kernel
theorem d_Fitting_callMethod_20 : decode c_Fitting_callMethod 20 = .ok (.aload_n 0, 1) := by decide +kernel
theorem d_Fitting_callMethod_21 : decode c_Fitting_callMethod 21 = .ok (.getfield 24, 3) := by decide +kernel
theorem d_Fitting_callMethod_24 : decode c_Fitting_callMethod 24 = .ok (.getfield 90, 3) := by decide +kernel
theorem d_Fitting_callMethod_27 : decode c_Fitting_callMethod 27 = .ok (.iload_n 1, 1) := by decide +kernel
theorem d_Fitting_callMethod_28 : decode c_Fitting_callMethod 28 = .ok (.iaload, 1) := by decide +kernel
theorem d_Fitting_callMethod_29 : decode c_Fitting_callMethod 29 = .ok (.iconst (-1), 1) := by decide +kernel
theorem d_Fitting_callMethod_30 : decode c_Fitting_callMethod 30 = .ok (.if_icmp .eq (16), 3) := by decide +kernel
theorem d_Fitting_callMethod_33 : decode c_Fitting_callMethod 33 = .ok (.aload_n 0, 1) := by decide +kernel
theorem d_Fitting_callMethod_34 : decode c_Fitting_callMethod 34 = .ok (.aload_n 0, 1) := by decide +kernel
theorem d_Fitting_callMethod_35 : decode c_Fitting_callMethod 35 = .ok (.getfield 24, 3) := by decide +kernel
theorem d_Fitting_callMethod_38 : decode c_Fitting_callMethod 38 = .ok (.getfield 90, 3) := by decide +kernel
theorem d_Fitting_callMethod_41 : decode c_Fitting_callMethod 41 = .ok (.iload_n 1, 1) := by decide +kernel
theorem d_Fitting_callMethod_42 : decode c_Fitting_callMethod 42 = .ok (.iaload, 1) := by decide +kernel
theorem d_Fitting_callMethod_43 : decode c_Fitting_callMethod 43 = .ok (.invokevirtual 110, 3) := by decide +kernel
theorem d_Fitting_callMethod_46 : decode c_Fitting_callMethod 46 = .ok (.aload_n 0, 1) := by decide +kernel
theorem d_Fitting_callMethod_47 : decode c_Fitting_callMethod 47 = .ok (.getfield 24, 3) := by decide +kernel
theorem d_Fitting_callMethod_50 : decode c_Fitting_callMethod 50 = .ok (.iload_n 1, 1) := by decide +kernel
theorem d_Fitting_callMethod_51 : decode c_Fitting_callMethod 51 = .ok (.invokevirtual 84, 3) := by decide +kernel
theorem d_Fitting_callMethod_54 : decode c_Fitting_callMethod 54 = .ok (.ifCond .ne (18), 3) := by decide +kernel
theorem d_Fitting_callMethod_57 : decode c_Fitting_callMethod 57 = .ok (.aload_n 0, 1) := by decide +kernel
theorem d_Fitting_callMethod_58 : decode c_Fitting_callMethod 58 = .ok (.iconst (2), 1) := by decide +kernel
theorem d_Fitting_callMethod_59 : decode c_Fitting_callMethod 59 = .ok (.aload_n 0, 1) := by decide +kernel
theorem d_Fitting_callMethod_60 : decode c_Fitting_callMethod 60 = .ok (.getfield 24, 3) := by decide +kernel
theorem d_Fitting_callMethod_63 : decode c_Fitting_callMethod 63 = .ok (.getfield 87, 3) := by decide +kernel
theorem d_Fitting_callMethod_66 : decode c_Fitting_callMethod 66 = .ok (.iload_n 1, 1) := by decide +kernel
theorem d_Fitting_callMethod_67 : decode c_Fitting_callMethod 67 = .ok (.iaload, 1) := by decide +kernel
theorem d_Fitting_callMethod_68 : decode c_Fitting_callMethod 68 = .ok (.iadd, 1) := by decide +kernel
theorem d_Fitting_callMethod_69 : decode c_Fitting_callMethod 69 = .ok (.invokevirtual 110, 3) := by decide +kernel
theorem d_Fitting_callMethod_72 : decode c_Fitting_callMethod 72 = .ok (.aload_n 0, 1) := by decide +kernel
theorem d_Fitting_callMethod_73 : decode c_Fitting_callMethod 73 = .ok (.aload_n 0, 1) := by decide +kernel
theorem d_Fitting_callMethod_74 : decode c_Fitting_callMethod 74 = .ok (.getfield 24, 3) := by decide +kernel
theorem d_Fitting_callMethod_77 : decode c_Fitting_callMethod 77 = .ok (.getfield 135, 3) := by decide +kernel
theorem d_Fitting_callMethod_80 : decode c_Fitting_callMethod 80 = .ok (.iload_n 1, 1) := by decide +kernel
theorem d_Fitting_callMethod_81 : decode c_Fitting_callMethod 81 = .ok (.iaload, 1) := by decide +kernel
theorem d_Fitting_callMethod_82 : decode c_Fitting_callMethod 82 = .ok (.invokevirtual 101, 3) := by decide +kernel
theorem d_Fitting_callMethod_85 : decode c_Fitting_callMethod 85 = .ok (.return_, 1) := by decide +kernel
def fx_Fitting_callMethod_b72 (σ : tx_St) (x1 : Int32) : Option tx_St := tx_rd σ 11 8 x1 fun v14 => tx_cv (fx_Fitting_put σ v14) fun σ15 => some σ15
def fx_Fitting_callMethod_b46 (σ : tx_St) (x1 : Int32) : Option tx_St := tx_ci (fx_Plan_isStaticMethod σ x1) fun r10 σ9 => (if r10 = 0 then tx_rd σ9 7 8 x1 fun v12 => tx_cv (fx_Fitting_take σ9 ((2 : Int32) + v12)) fun σ13 => fx_Fitting_callMethod_b72  σ13 x1 else fx_Fitting_callMethod_b72  σ9 x1)
def fx_Fitting_callMethod (σ : tx_St) (x1 : Int32) : Option tx_St := tx_ci (fx_Plan_isMethod σ x1) fun r2 σ1 => tx_cv (fx_Fitting_demand σ1 r2) fun σ3 => (if (σ3 15 8) = 0 then some σ3 else tx_rd σ3 10 8 x1 fun v5 => (if v5 = (-1 : Int32) then fx_Fitting_callMethod_b46  σ3 x1 else tx_rd σ3 10 8 x1 fun v7 => tx_cv (fx_Fitting_take σ3 v7) fun σ8 => fx_Fitting_callMethod_b46  σ8 x1))
set_option maxRecDepth 100000 in
set_option maxHeartbeats 4000000 in
theorem fx_Fitting_callMethod_b72_w {l : Launch} {E : tx_E} (σ : tx_St) (x1 : Int32) (t : tx_St) (hT : fx_Fitting_callMethod_b72 σ x1 = some t) : gx l E mi_Fitting_callMethod (none, t) σ [(0, .ref (E.1 15)), (1, .int x1)] 72 [] := by
  unfold fx_Fitting_callMethod_b72 at hT
  refine gx_aload_n (pc := 72) 0 d_Fitting_callMethod_72 rfl rfl ?_
  refine gx_aload_n (pc := 73) 0 d_Fitting_callMethod_73 rfl rfl ?_
  refine gx_getR (pc := 74) 1 fl_Fitting_24 d_Fitting_callMethod_74 (rfl) (by decide) rfl ?_
  refine gx_getR (pc := 77) 11 fl_Fitting_135 d_Fitting_callMethod_77 (rfl) (by decide) rfl ?_
  refine gx_iload_n (pc := 80) 1 d_Fitting_callMethod_80 rfl rfl ?_
  obtain ⟨v14, gv14, iv14, hT⟩ := tx_rd_some hT
  refine gx_iald (pc := 81) v14 d_Fitting_callMethod_81 (rfl) iv14 gv14 ?_
  obtain ⟨σ15, cσ15, hT⟩ := tx_cv_some hT
  refine gx_callV (pc := 82) (As := [.int v14]) (rest := []) cm_Fitting_put lk_Fitting_101 (fx_Fitting_put_c l E σ v14 _ cσ15) (rfl) (by decide) rfl rfl tx_fi_Fitting_callMethod_Fitting_put (Nat.le_of_ble_eq_true rfl) d_Fitting_callMethod_82 ?_
  change gx l E mi_Fitting_callMethod _ σ15 [(0, .ref (E.1 15)), (1, .int x1)] 85 []
  cases hT
  exact gx_vret (pc := 85) d_Fitting_callMethod_85 rfl rfl
set_option maxRecDepth 100000 in
set_option maxHeartbeats 4000000 in
theorem fx_Fitting_callMethod_b46_w {l : Launch} {E : tx_E} (σ : tx_St) (x1 : Int32) (t : tx_St) (hT : fx_Fitting_callMethod_b46 σ x1 = some t) : gx l E mi_Fitting_callMethod (none, t) σ [(0, .ref (E.1 15)), (1, .int x1)] 46 [] := by
  unfold fx_Fitting_callMethod_b46 at hT
  refine gx_aload_n (pc := 46) 0 d_Fitting_callMethod_46 rfl rfl ?_
  refine gx_getR (pc := 47) 1 fl_Fitting_24 d_Fitting_callMethod_47 (rfl) (by decide) rfl ?_
  refine gx_iload_n (pc := 50) 1 d_Fitting_callMethod_50 rfl rfl ?_
  obtain ⟨r10, σ9, cσ9, hT⟩ := tx_ci_some hT
  refine gx_callV (pc := 51) (As := [.int x1]) (rest := []) cm_Plan_isStaticMethod lk_Fitting_84 (fx_Plan_isStaticMethod_c l E σ x1 _ cσ9) (rfl) (by decide) rfl rfl tx_fi_Fitting_callMethod_Plan_isStaticMethod (Nat.le_of_ble_eq_true rfl) d_Fitting_callMethod_51 ?_
  change gx l E mi_Fitting_callMethod _ σ9 [(0, .ref (E.1 15)), (1, .int x1)] 54 [.int r10]
  refine gx_if_ne (pc := 54) 72 d_Fitting_callMethod_54 rfl (fun h11 => ?_) (fun h11 => ?_)
  · have hT := tx_ifn h11 hT
    exact fx_Fitting_callMethod_b72_w  σ9 x1 _ hT
  · have hT := tx_ifp h11 hT
    refine gx_aload_n (pc := 57) 0 d_Fitting_callMethod_57 rfl rfl ?_
    refine gx_iconst (pc := 58) (2 : Int32) d_Fitting_callMethod_58 (by decide) ?_
    refine gx_aload_n (pc := 59) 0 d_Fitting_callMethod_59 rfl rfl ?_
    refine gx_getR (pc := 60) 1 fl_Fitting_24 d_Fitting_callMethod_60 (rfl) (by decide) rfl ?_
    refine gx_getR (pc := 63) 7 fl_Fitting_87 d_Fitting_callMethod_63 (rfl) (by decide) rfl ?_
    refine gx_iload_n (pc := 66) 1 d_Fitting_callMethod_66 rfl rfl ?_
    obtain ⟨v12, gv12, iv12, hT⟩ := tx_rd_some hT
    refine gx_iald (pc := 67) v12 d_Fitting_callMethod_67 (rfl) iv12 gv12 ?_
    refine gx_iadd (pc := 68) d_Fitting_callMethod_68 ?_
    obtain ⟨σ13, cσ13, hT⟩ := tx_cv_some hT
    refine gx_callV (pc := 69) (As := [.int ((2 : Int32) + v12)]) (rest := []) cm_Fitting_take lk_Fitting_110 (fx_Fitting_take_c l E σ9 ((2 : Int32) + v12) _ cσ13) (rfl) (by decide) rfl rfl tx_fi_Fitting_callMethod_Fitting_take (Nat.le_of_ble_eq_true rfl) d_Fitting_callMethod_69 ?_
    change gx l E mi_Fitting_callMethod _ σ13 [(0, .ref (E.1 15)), (1, .int x1)] 72 []
    exact fx_Fitting_callMethod_b72_w  σ13 x1 _ hT
set_option maxRecDepth 100000 in
set_option maxHeartbeats 4000000 in
theorem fx_Fitting_callMethod_c (l : Launch) (E : tx_E) (σ : tx_St) (x1 : Int32) (t : tx_St) (hT : fx_Fitting_callMethod σ x1 = some t) : tx_MX l E y_Fitting_callMethod mi_Fitting_callMethod (none, t) [.ref (E.1 15), .int x1] σ := by
  refine tx_MX_of (by decide) rfl (Nat.le_of_ble_eq_true rfl) ?_
  show gx l E mi_Fitting_callMethod (none, t) σ [(0, .ref (E.1 15)), (1, .int x1)] 0 []
  unfold fx_Fitting_callMethod at hT
  refine gx_aload_n (pc := 0) 0 d_Fitting_callMethod_0 rfl rfl ?_
  refine gx_aload_n (pc := 1) 0 d_Fitting_callMethod_1 rfl rfl ?_
  refine gx_getR (pc := 2) 1 fl_Fitting_24 d_Fitting_callMethod_2 (rfl) (by decide) rfl ?_
  refine gx_iload_n (pc := 5) 1 d_Fitting_callMethod_5 rfl rfl ?_
  obtain ⟨r2, σ1, cσ1, hT⟩ := tx_ci_some hT
  refine gx_callV (pc := 6) (As := [.int x1]) (rest := [.ref (E.1 15)]) cm_Plan_isMethod lk_Fitting_165 (fx_Plan_isMethod_c l E σ x1 _ cσ1) (rfl) (by decide) rfl rfl tx_fi_Fitting_callMethod_Plan_isMethod (Nat.le_of_ble_eq_true rfl) d_Fitting_callMethod_6 ?_
  change gx l E mi_Fitting_callMethod _ σ1 [(0, .ref (E.1 15)), (1, .int x1)] 9 [.int r2, .ref (E.1 15)]
  obtain ⟨σ3, cσ3, hT⟩ := tx_cv_some hT
  refine gx_callV (pc := 9) (As := [.int r2]) (rest := []) cm_Fitting_demand lk_Fitting_131 (fx_Fitting_demand_c l E σ1 r2 _ cσ3) (rfl) (by decide) rfl rfl tx_fi_Fitting_callMethod_Fitting_demand (Nat.le_of_ble_eq_true rfl) d_Fitting_callMethod_9 ?_
  change gx l E mi_Fitting_callMethod _ σ3 [(0, .ref (E.1 15)), (1, .int x1)] 12 []
  refine gx_aload_n (pc := 12) 0 d_Fitting_callMethod_12 rfl rfl ?_
  refine gx_getI (pc := 13) (σ3 15 8) fl_Fitting_39 d_Fitting_callMethod_13 (rfl) (by decide) rfl rfl ?_
  refine gx_if_ne (pc := 16) 20 d_Fitting_callMethod_16 rfl (fun h4 => ?_) (fun h4 => ?_)
  · have hT := tx_ifn h4 hT
    refine gx_aload_n (pc := 20) 0 d_Fitting_callMethod_20 rfl rfl ?_
    refine gx_getR (pc := 21) 1 fl_Fitting_24 d_Fitting_callMethod_21 (rfl) (by decide) rfl ?_
    refine gx_getR (pc := 24) 10 fl_Fitting_90 d_Fitting_callMethod_24 (rfl) (by decide) rfl ?_
    refine gx_iload_n (pc := 27) 1 d_Fitting_callMethod_27 rfl rfl ?_
    obtain ⟨v5, gv5, iv5, hT⟩ := tx_rd_some hT
    refine gx_iald (pc := 28) v5 d_Fitting_callMethod_28 (rfl) iv5 gv5 ?_
    refine gx_iconst (pc := 29) (-1 : Int32) d_Fitting_callMethod_29 (by decide) ?_
    refine gx_icmp_eq (pc := 30) 46 d_Fitting_callMethod_30 rfl (fun h6 => ?_) (fun h6 => ?_)
    · have hT := tx_ifp h6 hT
      exact fx_Fitting_callMethod_b46_w  σ3 x1 _ hT
    · have hT := tx_ifn h6 hT
      refine gx_aload_n (pc := 33) 0 d_Fitting_callMethod_33 rfl rfl ?_
      refine gx_aload_n (pc := 34) 0 d_Fitting_callMethod_34 rfl rfl ?_
      refine gx_getR (pc := 35) 1 fl_Fitting_24 d_Fitting_callMethod_35 (rfl) (by decide) rfl ?_
      refine gx_getR (pc := 38) 10 fl_Fitting_90 d_Fitting_callMethod_38 (rfl) (by decide) rfl ?_
      refine gx_iload_n (pc := 41) 1 d_Fitting_callMethod_41 rfl rfl ?_
      obtain ⟨v7, gv7, iv7, hT⟩ := tx_rd_some hT
      refine gx_iald (pc := 42) v7 d_Fitting_callMethod_42 (rfl) iv7 gv7 ?_
      obtain ⟨σ8, cσ8, hT⟩ := tx_cv_some hT
      refine gx_callV (pc := 43) (As := [.int v7]) (rest := []) cm_Fitting_take lk_Fitting_110 (fx_Fitting_take_c l E σ3 v7 _ cσ8) (rfl) (by decide) rfl rfl tx_fi_Fitting_callMethod_Fitting_take (Nat.le_of_ble_eq_true rfl) d_Fitting_callMethod_43 ?_
      change gx l E mi_Fitting_callMethod _ σ8 [(0, .ref (E.1 15)), (1, .int x1)] 46 []
      exact fx_Fitting_callMethod_b46_w  σ8 x1 _ hT
  · have hT := tx_ifp h4 hT
    cases hT
    exact gx_vret (pc := 19) d_Fitting_callMethod_19 rfl rfl
theorem d_Fitting_takeReference_0 : decode c_Fitting_takeReference 0 = .ok (.aload_n 0, 1) := by decide +kernel
theorem d_Fitting_takeReference_1 : decode c_Fitting_takeReference 1 = .ok (.aload_n 0, 1) := by decide +kernel
theorem d_Fitting_takeReference_2 : decode c_Fitting_takeReference 2 = .ok (.invokevirtual 141, 3) := by decide +kernel
theorem d_Fitting_takeReference_5 : decode c_Fitting_takeReference 5 = .ok (.ifCond .eq (7), 3) := by decide +kernel
theorem d_Fitting_takeReference_8 : decode c_Fitting_takeReference 8 = .ok (.iconst (1), 1) := by decide +kernel
theorem d_Fitting_takeReference_9 : decode c_Fitting_takeReference 9 = .ok (.goto (4), 3) := by decide +kernel
theorem d_Fitting_takeReference_12 : decode c_Fitting_takeReference 12 = .ok (.iconst (0), 1) := by decide +kernel
theorem d_Fitting_takeReference_13 : decode c_Fitting_takeReference 13 = .ok (.invokevirtual 131, 3) := by decide +kernel
theorem d_Fitting_takeReference_16 : decode c_Fitting_takeReference 16 = .ok (.return_, 1) := by decide +kernel
def fx_Fitting_takeReference_b13 (σ : tx_St) (s0 : Int32) : Option tx_St := tx_cv (fx_Fitting_demand σ s0) fun σ4 => some σ4
def fx_Fitting_takeReference (σ : tx_St) : Option tx_St := tx_ci (fx_Fitting_takeAny σ) fun r2 σ1 => (if r2 = 0 then fx_Fitting_takeReference_b13  σ1 (0 : Int32) else fx_Fitting_takeReference_b13  σ1 (1 : Int32))
set_option maxRecDepth 100000 in
set_option maxHeartbeats 4000000 in
theorem fx_Fitting_takeReference_b13_w {l : Launch} {E : tx_E} (σ : tx_St) (s0 : Int32) (t : tx_St) (hT : fx_Fitting_takeReference_b13 σ s0 = some t) : gx l E mi_Fitting_takeReference (none, t) σ [] 13 [.int s0, .ref (E.1 15)] := by
  unfold fx_Fitting_takeReference_b13 at hT
  obtain ⟨σ4, cσ4, hT⟩ := tx_cv_some hT
  refine gx_callV (pc := 13) (As := [.int s0]) (rest := []) cm_Fitting_demand lk_Fitting_131 (fx_Fitting_demand_c l E σ s0 _ cσ4) (rfl) (by decide) rfl rfl tx_fi_Fitting_takeReference_Fitting_demand (Nat.le_of_ble_eq_true rfl) d_Fitting_takeReference_13 ?_
  change gx l E mi_Fitting_takeReference _ σ4 [] 16 []
  cases hT
  exact gx_vret (pc := 16) d_Fitting_takeReference_16 rfl rfl
set_option maxRecDepth 100000 in
set_option maxHeartbeats 4000000 in
theorem fx_Fitting_takeReference_c (l : Launch) (E : tx_E) (σ : tx_St) (t : tx_St) (hT : fx_Fitting_takeReference σ  = some t) : tx_MX l E y_Fitting_takeReference mi_Fitting_takeReference (none, t) [.ref (E.1 15)] σ := by
  refine tx_MX_of (by decide) rfl (Nat.le_of_ble_eq_true rfl) ?_
  show gx l E mi_Fitting_takeReference (none, t) σ [(0, .ref (E.1 15))] 0 []
  unfold fx_Fitting_takeReference at hT
  refine gx_aload_n (pc := 0) 0 d_Fitting_takeReference_0 rfl rfl ?_
  refine gx_aload_n (pc := 1) 0 d_Fitting_takeReference_1 rfl rfl ?_
  obtain ⟨r2, σ1, cσ1, hT⟩ := tx_ci_some hT
  refine gx_callV (pc := 2) (As := []) (rest := [.ref (E.1 15)]) cm_Fitting_takeAny lk_Fitting_141 (fx_Fitting_takeAny_c l E σ _ cσ1) (rfl) (by decide) rfl rfl tx_fi_Fitting_takeReference_Fitting_takeAny (Nat.le_of_ble_eq_true rfl) d_Fitting_takeReference_2 ?_
  change gx l E mi_Fitting_takeReference _ σ1 [(0, .ref (E.1 15))] 5 [.int r2, .ref (E.1 15)]
  refine gx_if_eq (pc := 5) 12 d_Fitting_takeReference_5 rfl (fun h3 => ?_) (fun h3 => ?_)
  · have hT := tx_ifp h3 hT
    refine gx_iconst (pc := 12) (0 : Int32) d_Fitting_takeReference_12 (by decide) ?_
    refine gx_sub [] rfl ?_
    exact fx_Fitting_takeReference_b13_w  σ1 (0 : Int32) _ hT
  · have hT := tx_ifn h3 hT
    refine gx_iconst (pc := 8) (1 : Int32) d_Fitting_takeReference_8 (by decide) ?_
    refine gx_goto (pc := 9) 13 d_Fitting_takeReference_9 rfl ?_
    refine gx_sub [] rfl ?_
    exact fx_Fitting_takeReference_b13_w  σ1 (1 : Int32) _ hT
theorem d_Fitting_putClass_0 : decode c_Fitting_putClass 0 = .ok (.aload_n 0, 1) := by decide +kernel
theorem d_Fitting_putClass_1 : decode c_Fitting_putClass 1 = .ok (.aload_n 0, 1) := by decide +kernel
theorem d_Fitting_putClass_2 : decode c_Fitting_putClass 2 = .ok (.getfield 24, 3) := by decide +kernel
theorem d_Fitting_putClass_5 : decode c_Fitting_putClass 5 = .ok (.iload_n 1, 1) := by decide +kernel
theorem d_Fitting_putClass_6 : decode c_Fitting_putClass 6 = .ok (.invokevirtual 138, 3) := by decide +kernel
theorem d_Fitting_putClass_9 : decode c_Fitting_putClass 9 = .ok (.invokevirtual 131, 3) := by decide +kernel
theorem d_Fitting_putClass_12 : decode c_Fitting_putClass 12 = .ok (.aload_n 0, 1) := by decide +kernel
theorem d_Fitting_putClass_13 : decode c_Fitting_putClass 13 = .ok (.getfield 39, 3) := by decide +kernel
theorem d_Fitting_putClass_16 : decode c_Fitting_putClass 16 = .ok (.ifCond .eq (10), 3) := by decide +kernel
theorem d_Fitting_putClass_19 : decode c_Fitting_putClass 19 = .ok (.aload_n 0, 1) := by decide +kernel
theorem d_Fitting_putClass_20 : decode c_Fitting_putClass 20 = .ok (.iconst (2), 1) := by decide +kernel
theorem d_Fitting_putClass_21 : decode c_Fitting_putClass 21 = .ok (.iload_n 1, 1) := by decide +kernel
theorem d_Fitting_putClass_22 : decode c_Fitting_putClass 22 = .ok (.iadd, 1) := by decide +kernel
theorem d_Fitting_putClass_23 : decode c_Fitting_putClass 23 = .ok (.invokevirtual 101, 3) := by decide +kernel
theorem d_Fitting_putClass_26 : decode c_Fitting_putClass 26 = .ok (.return_, 1) := by decide +kernel
def fx_Fitting_putClass_b26 (σ : tx_St) : Option tx_St := some σ
def fx_Fitting_putClass (σ : tx_St) (x1 : Int32) : Option tx_St := tx_ci (fx_Plan_isClass σ x1) fun r2 σ1 => tx_cv (fx_Fitting_demand σ1 r2) fun σ3 => (if (σ3 15 8) = 0 then fx_Fitting_putClass_b26  σ3 else tx_cv (fx_Fitting_put σ3 ((2 : Int32) + x1)) fun σ5 => fx_Fitting_putClass_b26  σ5)
set_option maxRecDepth 100000 in
set_option maxHeartbeats 4000000 in
theorem fx_Fitting_putClass_b26_w {l : Launch} {E : tx_E} (σ : tx_St) (t : tx_St) (hT : fx_Fitting_putClass_b26 σ  = some t) : gx l E mi_Fitting_putClass (none, t) σ [] 26 [] := by
  unfold fx_Fitting_putClass_b26 at hT
  cases hT
  exact gx_vret (pc := 26) d_Fitting_putClass_26 rfl rfl
set_option maxRecDepth 100000 in
set_option maxHeartbeats 4000000 in
theorem fx_Fitting_putClass_c (l : Launch) (E : tx_E) (σ : tx_St) (x1 : Int32) (t : tx_St) (hT : fx_Fitting_putClass σ x1 = some t) : tx_MX l E y_Fitting_putClass mi_Fitting_putClass (none, t) [.ref (E.1 15), .int x1] σ := by
  refine tx_MX_of (by decide) rfl (Nat.le_of_ble_eq_true rfl) ?_
  show gx l E mi_Fitting_putClass (none, t) σ [(0, .ref (E.1 15)), (1, .int x1)] 0 []
  unfold fx_Fitting_putClass at hT
  refine gx_aload_n (pc := 0) 0 d_Fitting_putClass_0 rfl rfl ?_
  refine gx_aload_n (pc := 1) 0 d_Fitting_putClass_1 rfl rfl ?_
  refine gx_getR (pc := 2) 1 fl_Fitting_24 d_Fitting_putClass_2 (rfl) (by decide) rfl ?_
  refine gx_iload_n (pc := 5) 1 d_Fitting_putClass_5 rfl rfl ?_
  obtain ⟨r2, σ1, cσ1, hT⟩ := tx_ci_some hT
  refine gx_callV (pc := 6) (As := [.int x1]) (rest := [.ref (E.1 15)]) cm_Plan_isClass lk_Fitting_138 (fx_Plan_isClass_c l E σ x1 _ cσ1) (rfl) (by decide) rfl rfl tx_fi_Fitting_putClass_Plan_isClass (Nat.le_of_ble_eq_true rfl) d_Fitting_putClass_6 ?_
  change gx l E mi_Fitting_putClass _ σ1 [(0, .ref (E.1 15)), (1, .int x1)] 9 [.int r2, .ref (E.1 15)]
  obtain ⟨σ3, cσ3, hT⟩ := tx_cv_some hT
  refine gx_callV (pc := 9) (As := [.int r2]) (rest := []) cm_Fitting_demand lk_Fitting_131 (fx_Fitting_demand_c l E σ1 r2 _ cσ3) (rfl) (by decide) rfl rfl tx_fi_Fitting_putClass_Fitting_demand (Nat.le_of_ble_eq_true rfl) d_Fitting_putClass_9 ?_
  change gx l E mi_Fitting_putClass _ σ3 [(0, .ref (E.1 15)), (1, .int x1)] 12 []
  refine gx_aload_n (pc := 12) 0 d_Fitting_putClass_12 rfl rfl ?_
  refine gx_getI (pc := 13) (σ3 15 8) fl_Fitting_39 d_Fitting_putClass_13 (rfl) (by decide) rfl rfl ?_
  refine gx_if_eq (pc := 16) 26 d_Fitting_putClass_16 rfl (fun h4 => ?_) (fun h4 => ?_)
  · have hT := tx_ifp h4 hT
    refine gx_sub [] rfl ?_
    exact fx_Fitting_putClass_b26_w  σ3 _ hT
  · have hT := tx_ifn h4 hT
    refine gx_aload_n (pc := 19) 0 d_Fitting_putClass_19 rfl rfl ?_
    refine gx_iconst (pc := 20) (2 : Int32) d_Fitting_putClass_20 (by decide) ?_
    refine gx_iload_n (pc := 21) 1 d_Fitting_putClass_21 rfl rfl ?_
    refine gx_iadd (pc := 22) d_Fitting_putClass_22 ?_
    obtain ⟨σ5, cσ5, hT⟩ := tx_cv_some hT
    refine gx_callV (pc := 23) (As := [.int ((2 : Int32) + x1)]) (rest := []) cm_Fitting_put lk_Fitting_101 (fx_Fitting_put_c l E σ3 ((2 : Int32) + x1) _ cσ5) (rfl) (by decide) rfl rfl tx_fi_Fitting_putClass_Fitting_put (Nat.le_of_ble_eq_true rfl) d_Fitting_putClass_23 ?_
    change gx l E mi_Fitting_putClass _ σ5 [(0, .ref (E.1 15)), (1, .int x1)] 26 []
    refine gx_sub [] rfl ?_
    exact fx_Fitting_putClass_b26_w  σ5 _ hT
theorem d_Fitting_apply_0 : decode c_Fitting_apply 0 = .ok (.iload_n 1, 1) := by decide +kernel
theorem d_Fitting_apply_1 : decode c_Fitting_apply 1 = .ok (.tableswitch (292) (0) (19) #[(95), (103), (111), (119), (119), (292), (137), (145), (153), (153), (162), (162), (171), (179), (192), (205), (218), (234), (242), (273)], 95) := by decide +kernel
theorem d_Fitting_apply_96 : decode c_Fitting_apply 96 = .ok (.aload_n 0, 1) := by decide +kernel
theorem d_Fitting_apply_97 : decode c_Fitting_apply 97 = .ok (.iconst (0), 1) := by decide +kernel
theorem d_Fitting_apply_98 : decode c_Fitting_apply 98 = .ok (.invokevirtual 101, 3) := by decide +kernel
theorem d_Fitting_apply_101 : decode c_Fitting_apply 101 = .ok (.goto (192), 3) := by decide +kernel
theorem d_Fitting_apply_104 : decode c_Fitting_apply 104 = .ok (.aload_n 0, 1) := by decide +kernel
theorem d_Fitting_apply_105 : decode c_Fitting_apply 105 = .ok (.iload_n 2, 1) := by decide +kernel
theorem d_Fitting_apply_106 : decode c_Fitting_apply 106 = .ok (.invokevirtual 104, 3) := by decide +kernel
theorem d_Fitting_apply_109 : decode c_Fitting_apply 109 = .ok (.goto (184), 3) := by decide +kernel
theorem d_Fitting_apply_112 : decode c_Fitting_apply 112 = .ok (.aload_n 0, 1) := by decide +kernel
theorem d_Fitting_apply_113 : decode c_Fitting_apply 113 = .ok (.iload_n 2, 1) := by decide +kernel
theorem d_Fitting_apply_114 : decode c_Fitting_apply 114 = .ok (.invokevirtual 107, 3) := by decide +kernel
theorem d_Fitting_apply_117 : decode c_Fitting_apply 117 = .ok (.goto (176), 3) := by decide +kernel
theorem d_Fitting_apply_120 : decode c_Fitting_apply 120 = .ok (.aload_n 0, 1) := by decide +kernel
theorem d_Fitting_apply_121 : decode c_Fitting_apply 121 = .ok (.iconst (0), 1) := by decide +kernel
theorem d_Fitting_apply_122 : decode c_Fitting_apply 122 = .ok (.invokevirtual 110, 3) := by decide +kernel
theorem d_Fitting_apply_125 : decode c_Fitting_apply 125 = .ok (.aload_n 0, 1) := by decide +kernel
theorem d_Fitting_apply_126 : decode c_Fitting_apply 126 = .ok (.iconst (0), 1) := by decide +kernel
theorem d_Fitting_apply_127 : decode c_Fitting_apply 127 = .ok (.invokevirtual 110, 3) := by decide +kernel
theorem d_Fitting_apply_130 : decode c_Fitting_apply 130 = .ok (.aload_n 0, 1) := by decide +kernel
theorem d_Fitting_apply_131 : decode c_Fitting_apply 131 = .ok (.iconst (0), 1) := by decide +kernel
theorem d_Fitting_apply_132 : decode c_Fitting_apply 132 = .ok (.invokevirtual 101, 3) := by decide +kernel
theorem d_Fitting_apply_135 : decode c_Fitting_apply 135 = .ok (.goto (158), 3) := by decide +kernel
theorem d_Fitting_apply_138 : decode c_Fitting_apply 138 = .ok (.aload_n 0, 1) := by decide +kernel
theorem d_Fitting_apply_139 : decode c_Fitting_apply 139 = .ok (.iconst (0), 1) := by decide +kernel
theorem d_Fitting_apply_140 : decode c_Fitting_apply 140 = .ok (.invokevirtual 110, 3) := by decide +kernel
theorem d_Fitting_apply_143 : decode c_Fitting_apply 143 = .ok (.goto (150), 3) := by decide +kernel
theorem d_Fitting_apply_146 : decode c_Fitting_apply 146 = .ok (.aload_n 0, 1) := by decide +kernel
theorem d_Fitting_apply_147 : decode c_Fitting_apply 147 = .ok (.iload_n 2, 1) := by decide +kernel
theorem d_Fitting_apply_148 : decode c_Fitting_apply 148 = .ok (.invokevirtual 113, 3) := by decide +kernel
theorem d_Fitting_apply_151 : decode c_Fitting_apply 151 = .ok (.goto (142), 3) := by decide +kernel
theorem d_Fitting_apply_154 : decode c_Fitting_apply 154 = .ok (.aload_n 0, 1) := by decide +kernel
theorem d_Fitting_apply_155 : decode c_Fitting_apply 155 = .ok (.iload_n 1, 1) := by decide +kernel
theorem d_Fitting_apply_156 : decode c_Fitting_apply 156 = .ok (.iload_n 2, 1) := by decide +kernel
theorem d_Fitting_apply_157 : decode c_Fitting_apply 157 = .ok (.invokevirtual 116, 3) := by decide +kernel
theorem d_Fitting_apply_160 : decode c_Fitting_apply 160 = .ok (.goto (133), 3) := by decide +kernel
theorem d_Fitting_apply_163 : decode c_Fitting_apply 163 = .ok (.aload_n 0, 1) := by decide +kernel
theorem d_Fitting_apply_164 : decode c_Fitting_apply 164 = .ok (.iload_n 1, 1) := by decide +kernel
theorem d_Fitting_apply_165 : decode c_Fitting_apply 165 = .ok (.iload_n 2, 1) := by decide +kernel
theorem d_Fitting_apply_166 : decode c_Fitting_apply 166 = .ok (.invokevirtual 119, 3) := by decide +kernel
theorem d_Fitting_apply_169 : decode c_Fitting_apply 169 = .ok (.goto (124), 3) := by decide +kernel
theorem d_Fitting_apply_172 : decode c_Fitting_apply 172 = .ok (.aload_n 0, 1) := by decide +kernel
theorem d_Fitting_apply_173 : decode c_Fitting_apply 173 = .ok (.iload_n 2, 1) := by decide +kernel
theorem d_Fitting_apply_174 : decode c_Fitting_apply 174 = .ok (.invokevirtual 122, 3) := by decide +kernel
theorem d_Fitting_apply_177 : decode c_Fitting_apply 177 = .ok (.goto (116), 3) := by decide +kernel
theorem d_Fitting_apply_180 : decode c_Fitting_apply 180 = .ok (.aload_n 0, 1) := by decide +kernel
theorem d_Fitting_apply_181 : decode c_Fitting_apply 181 = .ok (.iconst (0), 1) := by decide +kernel
theorem d_Fitting_apply_182 : decode c_Fitting_apply 182 = .ok (.invokevirtual 110, 3) := by decide +kernel
theorem d_Fitting_apply_185 : decode c_Fitting_apply 185 = .ok (.aload_n 0, 1) := by decide +kernel
theorem d_Fitting_apply_186 : decode c_Fitting_apply 186 = .ok (.iconst (1), 1) := by decide +kernel
theorem d_Fitting_apply_187 : decode c_Fitting_apply 187 = .ok (.invokevirtual 101, 3) := by decide +kernel
theorem d_Fitting_apply_190 : decode c_Fitting_apply 190 = .ok (.goto (103), 3) := by decide +kernel
theorem d_Fitting_apply_193 : decode c_Fitting_apply 193 = .ok (.aload_n 0, 1) := by decide +kernel
theorem d_Fitting_apply_194 : decode c_Fitting_apply 194 = .ok (.iconst (1), 1) := by decide +kernel
theorem d_Fitting_apply_195 : decode c_Fitting_apply 195 = .ok (.invokevirtual 110, 3) := by decide +kernel
theorem d_Fitting_apply_198 : decode c_Fitting_apply 198 = .ok (.aload_n 0, 1) := by decide +kernel
theorem d_Fitting_apply_199 : decode c_Fitting_apply 199 = .ok (.iconst (0), 1) := by decide +kernel
theorem d_Fitting_apply_200 : decode c_Fitting_apply 200 = .ok (.invokevirtual 101, 3) := by decide +kernel
theorem d_Fitting_apply_203 : decode c_Fitting_apply 203 = .ok (.goto (90), 3) := by decide +kernel
theorem d_Fitting_apply_206 : decode c_Fitting_apply 206 = .ok (.aload_n 0, 1) := by decide +kernel
theorem d_Fitting_apply_207 : decode c_Fitting_apply 207 = .ok (.iconst (0), 1) := by decide +kernel
theorem d_Fitting_apply_208 : decode c_Fitting_apply 208 = .ok (.invokevirtual 110, 3) := by decide +kernel
theorem d_Fitting_apply_211 : decode c_Fitting_apply 211 = .ok (.aload_n 0, 1) := by decide +kernel
theorem d_Fitting_apply_212 : decode c_Fitting_apply 212 = .ok (.iconst (1), 1) := by decide +kernel
theorem d_Fitting_apply_213 : decode c_Fitting_apply 213 = .ok (.invokevirtual 110, 3) := by decide +kernel
theorem d_Fitting_apply_216 : decode c_Fitting_apply 216 = .ok (.goto (77), 3) := by decide +kernel
theorem d_Fitting_apply_219 : decode c_Fitting_apply 219 = .ok (.aload_n 0, 1) := by decide +kernel
theorem d_Fitting_apply_220 : decode c_Fitting_apply 220 = .ok (.invokevirtual 125, 3) := by decide +kernel
theorem d_Fitting_apply_223 : decode c_Fitting_apply 223 = .ok (.aload_n 0, 1) := by decide +kernel
theorem d_Fitting_apply_224 : decode c_Fitting_apply 224 = .ok (.invokevirtual 125, 3) := by decide +kernel
theorem d_Fitting_apply_227 : decode c_Fitting_apply 227 = .ok (.aload_n 0, 1) := by decide +kernel
theorem d_Fitting_apply_228 : decode c_Fitting_apply 228 = .ok (.iconst (0), 1) := by decide +kernel
theorem d_Fitting_apply_229 : decode c_Fitting_apply 229 = .ok (.invokevirtual 101, 3) := by decide +kernel
theorem d_Fitting_apply_232 : decode c_Fitting_apply 232 = .ok (.goto (61), 3) := by decide +kernel
theorem d_Fitting_apply_235 : decode c_Fitting_apply 235 = .ok (.aload_n 0, 1) := by decide +kernel
theorem d_Fitting_apply_236 : decode c_Fitting_apply 236 = .ok (.iload_n 2, 1) := by decide +kernel
theorem d_Fitting_apply_237 : decode c_Fitting_apply 237 = .ok (.invokevirtual 128, 3) := by decide +kernel
theorem d_Fitting_apply_240 : decode c_Fitting_apply 240 = .ok (.goto (53), 3) := by decide +kernel
theorem d_Fitting_apply_243 : decode c_Fitting_apply 243 = .ok (.aload_n 0, 1) := by decide +kernel
theorem d_Fitting_apply_244 : decode c_Fitting_apply 244 = .ok (.iload_n 2, 1) := by decide +kernel
theorem d_Fitting_apply_245 : decode c_Fitting_apply 245 = .ok (.ifCond .lt (12), 3) := by decide +kernel
theorem d_Fitting_apply_248 : decode c_Fitting_apply 248 = .ok (.iload_n 2, 1) := by decide +kernel
theorem d_Fitting_apply_249 : decode c_Fitting_apply 249 = .ok (.iconst (3), 1) := by decide +kernel
theorem d_Fitting_apply_250 : decode c_Fitting_apply 250 = .ok (.if_icmp .gt (7), 3) := by decide +kernel
theorem d_Fitting_apply_253 : decode c_Fitting_apply 253 = .ok (.iconst (1), 1) := by decide +kernel
theorem d_Fitting_apply_254 : decode c_Fitting_apply 254 = .ok (.goto (4), 3) := by decide +kernel
theorem d_Fitting_apply_257 : decode c_Fitting_apply 257 = .ok (.iconst (0), 1) := by decide +kernel
theorem d_Fitting_apply_258 : decode c_Fitting_apply 258 = .ok (.invokevirtual 131, 3) := by decide +kernel
theorem d_Fitting_apply_261 : decode c_Fitting_apply 261 = .ok (.aload_n 0, 1) := by decide +kernel
theorem d_Fitting_apply_262 : decode c_Fitting_apply 262 = .ok (.iconst (0), 1) := by decide +kernel
theorem d_Fitting_apply_263 : decode c_Fitting_apply 263 = .ok (.invokevirtual 110, 3) := by decide +kernel
theorem d_Fitting_apply_266 : decode c_Fitting_apply 266 = .ok (.aload_n 0, 1) := by decide +kernel
theorem d_Fitting_apply_267 : decode c_Fitting_apply 267 = .ok (.iconst (0), 1) := by decide +kernel
theorem d_Fitting_apply_268 : decode c_Fitting_apply 268 = .ok (.invokevirtual 101, 3) := by decide +kernel
theorem d_Fitting_apply_271 : decode c_Fitting_apply 271 = .ok (.goto (22), 3) := by decide +kernel
theorem d_Fitting_apply_274 : decode c_Fitting_apply 274 = .ok (.aload_n 0, 1) := by decide +kernel
theorem d_Fitting_apply_275 : decode c_Fitting_apply 275 = .ok (.aload_n 0, 1) := by decide +kernel
theorem d_Fitting_apply_276 : decode c_Fitting_apply 276 = .ok (.getfield 24, 3) := by decide +kernel
theorem d_Fitting_apply_279 : decode c_Fitting_apply 279 = .ok (.getfield 135, 3) := by decide +kernel
theorem d_Fitting_apply_282 : decode c_Fitting_apply 282 = .ok (.aload_n 0, 1) := by decide +kernel
theorem d_Fitting_apply_283 : decode c_Fitting_apply 283 = .ok (.getfield 43, 3) := by decide +kernel
theorem d_Fitting_apply_286 : decode c_Fitting_apply 286 = .ok (.iaload, 1) := by decide +kernel
theorem d_Fitting_apply_287 : decode c_Fitting_apply 287 = .ok (.invokevirtual 110, 3) := by decide +kernel
theorem d_Fitting_apply_290 : decode c_Fitting_apply 290 = .ok (.goto (3), 3) := by decide +kernel
theorem d_Fitting_apply_293 : decode c_Fitting_apply 293 = .ok (.return_, 1) := by decide +kernel
def fx_Fitting_apply_b293 (σ : tx_St) : Option tx_St := some σ
def fx_Fitting_apply_b120 (σ : tx_St) : Option tx_St := tx_cv (fx_Fitting_take σ (0 : Int32)) fun σ41 => tx_cv (fx_Fitting_take σ41 (0 : Int32)) fun σ42 => tx_cv (fx_Fitting_put σ42 (0 : Int32)) fun σ43 => fx_Fitting_apply_b293  σ43
def fx_Fitting_apply_b154 (σ : tx_St) (x1 : Int32) (x2 : Int32) : Option tx_St := tx_cv (fx_Fitting_useField σ x1 x2) fun σ44 => fx_Fitting_apply_b293  σ44
def fx_Fitting_apply_b163 (σ : tx_St) (x1 : Int32) (x2 : Int32) : Option tx_St := tx_cv (fx_Fitting_useStaticField σ x1 x2) fun σ45 => fx_Fitting_apply_b293  σ45
def fx_Fitting_apply_b258 (σ : tx_St) (s0 : Int32) : Option tx_St := tx_cv (fx_Fitting_demand σ s0) fun σ46 => tx_cv (fx_Fitting_take σ46 (0 : Int32)) fun σ47 => tx_cv (fx_Fitting_put σ47 (0 : Int32)) fun σ48 => fx_Fitting_apply_b293  σ48
def fx_Fitting_apply_b257 (σ : tx_St) : Option tx_St := fx_Fitting_apply_b258  σ (0 : Int32)
def fx_Fitting_apply (σ : tx_St) (x1 : Int32) (x2 : Int32) : Option tx_St := (if x1 = (0 : Int32) then tx_cv (fx_Fitting_put σ (0 : Int32)) fun σ2 => fx_Fitting_apply_b293  σ2 else (if x1 = (1 : Int32) then tx_cv (fx_Fitting_load σ x2) fun σ4 => fx_Fitting_apply_b293  σ4 else (if x1 = (2 : Int32) then tx_cv (fx_Fitting_store σ x2) fun σ6 => fx_Fitting_apply_b293  σ6 else (if x1 = (3 : Int32) then fx_Fitting_apply_b120  σ else (if x1 = (4 : Int32) then fx_Fitting_apply_b120  σ else (if x1 = (5 : Int32) then fx_Fitting_apply_b293  σ else (if x1 = (6 : Int32) then tx_cv (fx_Fitting_take σ (0 : Int32)) fun σ11 => fx_Fitting_apply_b293  σ11 else (if x1 = (7 : Int32) then tx_cv (fx_Fitting_make σ x2) fun σ13 => fx_Fitting_apply_b293  σ13 else (if x1 = (8 : Int32) then fx_Fitting_apply_b154  σ x1 x2 else (if x1 = (9 : Int32) then fx_Fitting_apply_b154  σ x1 x2 else (if x1 = (10 : Int32) then fx_Fitting_apply_b163  σ x1 x2 else (if x1 = (11 : Int32) then fx_Fitting_apply_b163  σ x1 x2 else (if x1 = (12 : Int32) then tx_cv (fx_Fitting_callMethod σ x2) fun σ19 => fx_Fitting_apply_b293  σ19 else (if x1 = (13 : Int32) then tx_cv (fx_Fitting_take σ (0 : Int32)) fun σ21 => tx_cv (fx_Fitting_put σ21 (1 : Int32)) fun σ22 => fx_Fitting_apply_b293  σ22 else (if x1 = (14 : Int32) then tx_cv (fx_Fitting_take σ (1 : Int32)) fun σ24 => tx_cv (fx_Fitting_put σ24 (0 : Int32)) fun σ25 => fx_Fitting_apply_b293  σ25 else (if x1 = (15 : Int32) then tx_cv (fx_Fitting_take σ (0 : Int32)) fun σ27 => tx_cv (fx_Fitting_take σ27 (1 : Int32)) fun σ28 => fx_Fitting_apply_b293  σ28 else (if x1 = (16 : Int32) then tx_cv (fx_Fitting_takeReference σ) fun σ30 => tx_cv (fx_Fitting_takeReference σ30) fun σ31 => tx_cv (fx_Fitting_put σ31 (0 : Int32)) fun σ32 => fx_Fitting_apply_b293  σ32 else (if x1 = (17 : Int32) then tx_cv (fx_Fitting_putClass σ x2) fun σ34 => fx_Fitting_apply_b293  σ34 else (if x1 = (18 : Int32) then (if x2 < 0 then fx_Fitting_apply_b257  σ else (if (3 : Int32) < x2 then fx_Fitting_apply_b257  σ else fx_Fitting_apply_b258  σ (1 : Int32))) else (if x1 = (19 : Int32) then tx_rd σ 11 8 (σ 15 7) fun v39 => tx_cv (fx_Fitting_take σ v39) fun σ40 => fx_Fitting_apply_b293  σ40 else fx_Fitting_apply_b293  σ))))))))))))))))))))
set_option maxRecDepth 100000 in
set_option maxHeartbeats 4000000 in
theorem fx_Fitting_apply_b293_w {l : Launch} {E : tx_E} (σ : tx_St) (t : tx_St) (hT : fx_Fitting_apply_b293 σ  = some t) : gx l E mi_Fitting_apply (none, t) σ [] 293 [] := by
  unfold fx_Fitting_apply_b293 at hT
  cases hT
  exact gx_vret (pc := 293) d_Fitting_apply_293 rfl rfl
set_option maxRecDepth 100000 in
set_option maxHeartbeats 4000000 in
theorem fx_Fitting_apply_b120_w {l : Launch} {E : tx_E} (σ : tx_St) (t : tx_St) (hT : fx_Fitting_apply_b120 σ  = some t) : gx l E mi_Fitting_apply (none, t) σ [(0, .ref (E.1 15))] 120 [] := by
  unfold fx_Fitting_apply_b120 at hT
  refine gx_aload_n (pc := 120) 0 d_Fitting_apply_120 rfl rfl ?_
  refine gx_iconst (pc := 121) (0 : Int32) d_Fitting_apply_121 (by decide) ?_
  obtain ⟨σ41, cσ41, hT⟩ := tx_cv_some hT
  refine gx_callV (pc := 122) (As := [.int (0 : Int32)]) (rest := []) cm_Fitting_take lk_Fitting_110 (fx_Fitting_take_c l E σ (0 : Int32) _ cσ41) (rfl) (by decide) rfl rfl tx_fi_Fitting_apply_Fitting_take (Nat.le_of_ble_eq_true rfl) d_Fitting_apply_122 ?_
  change gx l E mi_Fitting_apply _ σ41 [(0, .ref (E.1 15))] 125 []
  refine gx_aload_n (pc := 125) 0 d_Fitting_apply_125 rfl rfl ?_
  refine gx_iconst (pc := 126) (0 : Int32) d_Fitting_apply_126 (by decide) ?_
  obtain ⟨σ42, cσ42, hT⟩ := tx_cv_some hT
  refine gx_callV (pc := 127) (As := [.int (0 : Int32)]) (rest := []) cm_Fitting_take lk_Fitting_110 (fx_Fitting_take_c l E σ41 (0 : Int32) _ cσ42) (rfl) (by decide) rfl rfl tx_fi_Fitting_apply_Fitting_take (Nat.le_of_ble_eq_true rfl) d_Fitting_apply_127 ?_
  change gx l E mi_Fitting_apply _ σ42 [(0, .ref (E.1 15))] 130 []
  refine gx_aload_n (pc := 130) 0 d_Fitting_apply_130 rfl rfl ?_
  refine gx_iconst (pc := 131) (0 : Int32) d_Fitting_apply_131 (by decide) ?_
  obtain ⟨σ43, cσ43, hT⟩ := tx_cv_some hT
  refine gx_callV (pc := 132) (As := [.int (0 : Int32)]) (rest := []) cm_Fitting_put lk_Fitting_101 (fx_Fitting_put_c l E σ42 (0 : Int32) _ cσ43) (rfl) (by decide) rfl rfl tx_fi_Fitting_apply_Fitting_put (Nat.le_of_ble_eq_true rfl) d_Fitting_apply_132 ?_
  change gx l E mi_Fitting_apply _ σ43 [(0, .ref (E.1 15))] 135 []
  refine gx_goto (pc := 135) 293 d_Fitting_apply_135 rfl ?_
  refine gx_sub [] rfl ?_
  exact fx_Fitting_apply_b293_w  σ43 _ hT
set_option maxRecDepth 100000 in
set_option maxHeartbeats 4000000 in
theorem fx_Fitting_apply_b154_w {l : Launch} {E : tx_E} (σ : tx_St) (x1 : Int32) (x2 : Int32) (t : tx_St) (hT : fx_Fitting_apply_b154 σ x1 x2 = some t) : gx l E mi_Fitting_apply (none, t) σ [(0, .ref (E.1 15)), (1, .int x1), (2, .int x2)] 154 [] := by
  unfold fx_Fitting_apply_b154 at hT
  refine gx_aload_n (pc := 154) 0 d_Fitting_apply_154 rfl rfl ?_
  refine gx_iload_n (pc := 155) 1 d_Fitting_apply_155 rfl rfl ?_
  refine gx_iload_n (pc := 156) 2 d_Fitting_apply_156 rfl rfl ?_
  obtain ⟨σ44, cσ44, hT⟩ := tx_cv_some hT
  refine gx_callV (pc := 157) (As := [.int x1, .int x2]) (rest := []) cm_Fitting_useField lk_Fitting_116 (fx_Fitting_useField_c l E σ x1 x2 _ cσ44) (rfl) (by decide) rfl rfl tx_fi_Fitting_apply_Fitting_useField (Nat.le_of_ble_eq_true rfl) d_Fitting_apply_157 ?_
  change gx l E mi_Fitting_apply _ σ44 [(0, .ref (E.1 15)), (1, .int x1), (2, .int x2)] 160 []
  refine gx_goto (pc := 160) 293 d_Fitting_apply_160 rfl ?_
  refine gx_sub [] rfl ?_
  exact fx_Fitting_apply_b293_w  σ44 _ hT
set_option maxRecDepth 100000 in
set_option maxHeartbeats 4000000 in
theorem fx_Fitting_apply_b163_w {l : Launch} {E : tx_E} (σ : tx_St) (x1 : Int32) (x2 : Int32) (t : tx_St) (hT : fx_Fitting_apply_b163 σ x1 x2 = some t) : gx l E mi_Fitting_apply (none, t) σ [(0, .ref (E.1 15)), (1, .int x1), (2, .int x2)] 163 [] := by
  unfold fx_Fitting_apply_b163 at hT
  refine gx_aload_n (pc := 163) 0 d_Fitting_apply_163 rfl rfl ?_
  refine gx_iload_n (pc := 164) 1 d_Fitting_apply_164 rfl rfl ?_
  refine gx_iload_n (pc := 165) 2 d_Fitting_apply_165 rfl rfl ?_
  obtain ⟨σ45, cσ45, hT⟩ := tx_cv_some hT
  refine gx_callV (pc := 166) (As := [.int x1, .int x2]) (rest := []) cm_Fitting_useStaticField lk_Fitting_119 (fx_Fitting_useStaticField_c l E σ x1 x2 _ cσ45) (rfl) (by decide) rfl rfl tx_fi_Fitting_apply_Fitting_useStaticField (Nat.le_of_ble_eq_true rfl) d_Fitting_apply_166 ?_
  change gx l E mi_Fitting_apply _ σ45 [(0, .ref (E.1 15)), (1, .int x1), (2, .int x2)] 169 []
  refine gx_goto (pc := 169) 293 d_Fitting_apply_169 rfl ?_
  refine gx_sub [] rfl ?_
  exact fx_Fitting_apply_b293_w  σ45 _ hT
set_option maxRecDepth 100000 in
set_option maxHeartbeats 4000000 in
theorem fx_Fitting_apply_b258_w {l : Launch} {E : tx_E} (σ : tx_St) (s0 : Int32) (t : tx_St) (hT : fx_Fitting_apply_b258 σ s0 = some t) : gx l E mi_Fitting_apply (none, t) σ [(0, .ref (E.1 15))] 258 [.int s0, .ref (E.1 15)] := by
  unfold fx_Fitting_apply_b258 at hT
  obtain ⟨σ46, cσ46, hT⟩ := tx_cv_some hT
  refine gx_callV (pc := 258) (As := [.int s0]) (rest := []) cm_Fitting_demand lk_Fitting_131 (fx_Fitting_demand_c l E σ s0 _ cσ46) (rfl) (by decide) rfl rfl tx_fi_Fitting_apply_Fitting_demand (Nat.le_of_ble_eq_true rfl) d_Fitting_apply_258 ?_
  change gx l E mi_Fitting_apply _ σ46 [(0, .ref (E.1 15))] 261 []
  refine gx_aload_n (pc := 261) 0 d_Fitting_apply_261 rfl rfl ?_
  refine gx_iconst (pc := 262) (0 : Int32) d_Fitting_apply_262 (by decide) ?_
  obtain ⟨σ47, cσ47, hT⟩ := tx_cv_some hT
  refine gx_callV (pc := 263) (As := [.int (0 : Int32)]) (rest := []) cm_Fitting_take lk_Fitting_110 (fx_Fitting_take_c l E σ46 (0 : Int32) _ cσ47) (rfl) (by decide) rfl rfl tx_fi_Fitting_apply_Fitting_take (Nat.le_of_ble_eq_true rfl) d_Fitting_apply_263 ?_
  change gx l E mi_Fitting_apply _ σ47 [(0, .ref (E.1 15))] 266 []
  refine gx_aload_n (pc := 266) 0 d_Fitting_apply_266 rfl rfl ?_
  refine gx_iconst (pc := 267) (0 : Int32) d_Fitting_apply_267 (by decide) ?_
  obtain ⟨σ48, cσ48, hT⟩ := tx_cv_some hT
  refine gx_callV (pc := 268) (As := [.int (0 : Int32)]) (rest := []) cm_Fitting_put lk_Fitting_101 (fx_Fitting_put_c l E σ47 (0 : Int32) _ cσ48) (rfl) (by decide) rfl rfl tx_fi_Fitting_apply_Fitting_put (Nat.le_of_ble_eq_true rfl) d_Fitting_apply_268 ?_
  change gx l E mi_Fitting_apply _ σ48 [(0, .ref (E.1 15))] 271 []
  refine gx_goto (pc := 271) 293 d_Fitting_apply_271 rfl ?_
  refine gx_sub [] rfl ?_
  exact fx_Fitting_apply_b293_w  σ48 _ hT
set_option maxRecDepth 100000 in
set_option maxHeartbeats 4000000 in
theorem fx_Fitting_apply_b257_w {l : Launch} {E : tx_E} (σ : tx_St) (t : tx_St) (hT : fx_Fitting_apply_b257 σ  = some t) : gx l E mi_Fitting_apply (none, t) σ [(0, .ref (E.1 15))] 257 [.ref (E.1 15)] := by
  unfold fx_Fitting_apply_b257 at hT
  refine gx_iconst (pc := 257) (0 : Int32) d_Fitting_apply_257 (by decide) ?_
  exact fx_Fitting_apply_b258_w  σ (0 : Int32) _ hT
set_option maxRecDepth 100000 in
set_option maxHeartbeats 4000000 in
theorem fx_Fitting_apply_c (l : Launch) (E : tx_E) (σ : tx_St) (x1 : Int32) (x2 : Int32) (t : tx_St) (hT : fx_Fitting_apply σ x1 x2 = some t) : tx_MX l E y_Fitting_apply mi_Fitting_apply (none, t) [.ref (E.1 15), .int x1, .int x2] σ := by
  refine tx_MX_of (by decide) rfl (Nat.le_of_ble_eq_true rfl) ?_
  show gx l E mi_Fitting_apply (none, t) σ [(0, .ref (E.1 15)), (1, .int x1), (2, .int x2)] 0 []
  unfold fx_Fitting_apply at hT
  refine gx_iload_n (pc := 0) 1 d_Fitting_apply_0 rfl rfl ?_
  by_cases h1 : x1 = (0 : Int32)
  · have hT := tx_ifp h1 hT
    refine gx_tabIn (pc := 1) 96 d_Fitting_apply_1 (by rw [h1]; decide) (by rw [h1]; decide) (by rw [h1]; rfl) rfl ?_
    refine gx_aload_n (pc := 96) 0 d_Fitting_apply_96 rfl rfl ?_
    refine gx_iconst (pc := 97) (0 : Int32) d_Fitting_apply_97 (by decide) ?_
    obtain ⟨σ2, cσ2, hT⟩ := tx_cv_some hT
    refine gx_callV (pc := 98) (As := [.int (0 : Int32)]) (rest := []) cm_Fitting_put lk_Fitting_101 (fx_Fitting_put_c l E σ (0 : Int32) _ cσ2) (rfl) (by decide) rfl rfl tx_fi_Fitting_apply_Fitting_put (Nat.le_of_ble_eq_true rfl) d_Fitting_apply_98 ?_
    change gx l E mi_Fitting_apply _ σ2 [(0, .ref (E.1 15)), (1, .int x1), (2, .int x2)] 101 []
    refine gx_goto (pc := 101) 293 d_Fitting_apply_101 rfl ?_
    refine gx_sub [] rfl ?_
    exact fx_Fitting_apply_b293_w  σ2 _ hT
  · have hT := tx_ifn h1 hT
    by_cases h3 : x1 = (1 : Int32)
    · have hT := tx_ifp h3 hT
      refine gx_tabIn (pc := 1) 104 d_Fitting_apply_1 (by rw [h3]; decide) (by rw [h3]; decide) (by rw [h3]; rfl) rfl ?_
      refine gx_aload_n (pc := 104) 0 d_Fitting_apply_104 rfl rfl ?_
      refine gx_iload_n (pc := 105) 2 d_Fitting_apply_105 rfl rfl ?_
      obtain ⟨σ4, cσ4, hT⟩ := tx_cv_some hT
      refine gx_callV (pc := 106) (As := [.int x2]) (rest := []) cm_Fitting_load lk_Fitting_104 (fx_Fitting_load_c l E σ x2 _ cσ4) (rfl) (by decide) rfl rfl tx_fi_Fitting_apply_Fitting_load (Nat.le_of_ble_eq_true rfl) d_Fitting_apply_106 ?_
      change gx l E mi_Fitting_apply _ σ4 [(0, .ref (E.1 15)), (1, .int x1), (2, .int x2)] 109 []
      refine gx_goto (pc := 109) 293 d_Fitting_apply_109 rfl ?_
      refine gx_sub [] rfl ?_
      exact fx_Fitting_apply_b293_w  σ4 _ hT
    · have hT := tx_ifn h3 hT
      by_cases h5 : x1 = (2 : Int32)
      · have hT := tx_ifp h5 hT
        refine gx_tabIn (pc := 1) 112 d_Fitting_apply_1 (by rw [h5]; decide) (by rw [h5]; decide) (by rw [h5]; rfl) rfl ?_
        refine gx_aload_n (pc := 112) 0 d_Fitting_apply_112 rfl rfl ?_
        refine gx_iload_n (pc := 113) 2 d_Fitting_apply_113 rfl rfl ?_
        obtain ⟨σ6, cσ6, hT⟩ := tx_cv_some hT
        refine gx_callV (pc := 114) (As := [.int x2]) (rest := []) cm_Fitting_store lk_Fitting_107 (fx_Fitting_store_c l E σ x2 _ cσ6) (rfl) (by decide) rfl rfl tx_fi_Fitting_apply_Fitting_store (Nat.le_of_ble_eq_true rfl) d_Fitting_apply_114 ?_
        change gx l E mi_Fitting_apply _ σ6 [(0, .ref (E.1 15)), (1, .int x1), (2, .int x2)] 117 []
        refine gx_goto (pc := 117) 293 d_Fitting_apply_117 rfl ?_
        refine gx_sub [] rfl ?_
        exact fx_Fitting_apply_b293_w  σ6 _ hT
      · have hT := tx_ifn h5 hT
        by_cases h7 : x1 = (3 : Int32)
        · have hT := tx_ifp h7 hT
          refine gx_tabIn (pc := 1) 120 d_Fitting_apply_1 (by rw [h7]; decide) (by rw [h7]; decide) (by rw [h7]; rfl) rfl ?_
          refine gx_sub [0] rfl ?_
          exact fx_Fitting_apply_b120_w  σ _ hT
        · have hT := tx_ifn h7 hT
          by_cases h8 : x1 = (4 : Int32)
          · have hT := tx_ifp h8 hT
            refine gx_tabIn (pc := 1) 120 d_Fitting_apply_1 (by rw [h8]; decide) (by rw [h8]; decide) (by rw [h8]; rfl) rfl ?_
            refine gx_sub [0] rfl ?_
            exact fx_Fitting_apply_b120_w  σ _ hT
          · have hT := tx_ifn h8 hT
            by_cases h9 : x1 = (5 : Int32)
            · have hT := tx_ifp h9 hT
              refine gx_tabIn (pc := 1) 293 d_Fitting_apply_1 (by rw [h9]; decide) (by rw [h9]; decide) (by rw [h9]; rfl) rfl ?_
              refine gx_sub [] rfl ?_
              exact fx_Fitting_apply_b293_w  σ _ hT
            · have hT := tx_ifn h9 hT
              by_cases h10 : x1 = (6 : Int32)
              · have hT := tx_ifp h10 hT
                refine gx_tabIn (pc := 1) 138 d_Fitting_apply_1 (by rw [h10]; decide) (by rw [h10]; decide) (by rw [h10]; rfl) rfl ?_
                refine gx_aload_n (pc := 138) 0 d_Fitting_apply_138 rfl rfl ?_
                refine gx_iconst (pc := 139) (0 : Int32) d_Fitting_apply_139 (by decide) ?_
                obtain ⟨σ11, cσ11, hT⟩ := tx_cv_some hT
                refine gx_callV (pc := 140) (As := [.int (0 : Int32)]) (rest := []) cm_Fitting_take lk_Fitting_110 (fx_Fitting_take_c l E σ (0 : Int32) _ cσ11) (rfl) (by decide) rfl rfl tx_fi_Fitting_apply_Fitting_take (Nat.le_of_ble_eq_true rfl) d_Fitting_apply_140 ?_
                change gx l E mi_Fitting_apply _ σ11 [(0, .ref (E.1 15)), (1, .int x1), (2, .int x2)] 143 []
                refine gx_goto (pc := 143) 293 d_Fitting_apply_143 rfl ?_
                refine gx_sub [] rfl ?_
                exact fx_Fitting_apply_b293_w  σ11 _ hT
              · have hT := tx_ifn h10 hT
                by_cases h12 : x1 = (7 : Int32)
                · have hT := tx_ifp h12 hT
                  refine gx_tabIn (pc := 1) 146 d_Fitting_apply_1 (by rw [h12]; decide) (by rw [h12]; decide) (by rw [h12]; rfl) rfl ?_
                  refine gx_aload_n (pc := 146) 0 d_Fitting_apply_146 rfl rfl ?_
                  refine gx_iload_n (pc := 147) 2 d_Fitting_apply_147 rfl rfl ?_
                  obtain ⟨σ13, cσ13, hT⟩ := tx_cv_some hT
                  refine gx_callV (pc := 148) (As := [.int x2]) (rest := []) cm_Fitting_make lk_Fitting_113 (fx_Fitting_make_c l E σ x2 _ cσ13) (rfl) (by decide) rfl rfl tx_fi_Fitting_apply_Fitting_make (Nat.le_of_ble_eq_true rfl) d_Fitting_apply_148 ?_
                  change gx l E mi_Fitting_apply _ σ13 [(0, .ref (E.1 15)), (1, .int x1), (2, .int x2)] 151 []
                  refine gx_goto (pc := 151) 293 d_Fitting_apply_151 rfl ?_
                  refine gx_sub [] rfl ?_
                  exact fx_Fitting_apply_b293_w  σ13 _ hT
                · have hT := tx_ifn h12 hT
                  by_cases h14 : x1 = (8 : Int32)
                  · have hT := tx_ifp h14 hT
                    refine gx_tabIn (pc := 1) 154 d_Fitting_apply_1 (by rw [h14]; decide) (by rw [h14]; decide) (by rw [h14]; rfl) rfl ?_
                    exact fx_Fitting_apply_b154_w  σ x1 x2 _ hT
                  · have hT := tx_ifn h14 hT
                    by_cases h15 : x1 = (9 : Int32)
                    · have hT := tx_ifp h15 hT
                      refine gx_tabIn (pc := 1) 154 d_Fitting_apply_1 (by rw [h15]; decide) (by rw [h15]; decide) (by rw [h15]; rfl) rfl ?_
                      exact fx_Fitting_apply_b154_w  σ x1 x2 _ hT
                    · have hT := tx_ifn h15 hT
                      by_cases h16 : x1 = (10 : Int32)
                      · have hT := tx_ifp h16 hT
                        refine gx_tabIn (pc := 1) 163 d_Fitting_apply_1 (by rw [h16]; decide) (by rw [h16]; decide) (by rw [h16]; rfl) rfl ?_
                        exact fx_Fitting_apply_b163_w  σ x1 x2 _ hT
                      · have hT := tx_ifn h16 hT
                        by_cases h17 : x1 = (11 : Int32)
                        · have hT := tx_ifp h17 hT
                          refine gx_tabIn (pc := 1) 163 d_Fitting_apply_1 (by rw [h17]; decide) (by rw [h17]; decide) (by rw [h17]; rfl) rfl ?_
                          exact fx_Fitting_apply_b163_w  σ x1 x2 _ hT
                        · have hT := tx_ifn h17 hT
                          by_cases h18 : x1 = (12 : Int32)
                          · have hT := tx_ifp h18 hT
                            refine gx_tabIn (pc := 1) 172 d_Fitting_apply_1 (by rw [h18]; decide) (by rw [h18]; decide) (by rw [h18]; rfl) rfl ?_
                            refine gx_aload_n (pc := 172) 0 d_Fitting_apply_172 rfl rfl ?_
                            refine gx_iload_n (pc := 173) 2 d_Fitting_apply_173 rfl rfl ?_
                            obtain ⟨σ19, cσ19, hT⟩ := tx_cv_some hT
                            refine gx_callV (pc := 174) (As := [.int x2]) (rest := []) cm_Fitting_callMethod lk_Fitting_122 (fx_Fitting_callMethod_c l E σ x2 _ cσ19) (rfl) (by decide) rfl rfl tx_fi_Fitting_apply_Fitting_callMethod (Nat.le_of_ble_eq_true rfl) d_Fitting_apply_174 ?_
                            change gx l E mi_Fitting_apply _ σ19 [(0, .ref (E.1 15)), (1, .int x1), (2, .int x2)] 177 []
                            refine gx_goto (pc := 177) 293 d_Fitting_apply_177 rfl ?_
                            refine gx_sub [] rfl ?_
                            exact fx_Fitting_apply_b293_w  σ19 _ hT
                          · have hT := tx_ifn h18 hT
                            by_cases h20 : x1 = (13 : Int32)
                            · have hT := tx_ifp h20 hT
                              refine gx_tabIn (pc := 1) 180 d_Fitting_apply_1 (by rw [h20]; decide) (by rw [h20]; decide) (by rw [h20]; rfl) rfl ?_
                              refine gx_aload_n (pc := 180) 0 d_Fitting_apply_180 rfl rfl ?_
                              refine gx_iconst (pc := 181) (0 : Int32) d_Fitting_apply_181 (by decide) ?_
                              obtain ⟨σ21, cσ21, hT⟩ := tx_cv_some hT
                              refine gx_callV (pc := 182) (As := [.int (0 : Int32)]) (rest := []) cm_Fitting_take lk_Fitting_110 (fx_Fitting_take_c l E σ (0 : Int32) _ cσ21) (rfl) (by decide) rfl rfl tx_fi_Fitting_apply_Fitting_take (Nat.le_of_ble_eq_true rfl) d_Fitting_apply_182 ?_
                              change gx l E mi_Fitting_apply _ σ21 [(0, .ref (E.1 15)), (1, .int x1), (2, .int x2)] 185 []
                              refine gx_aload_n (pc := 185) 0 d_Fitting_apply_185 rfl rfl ?_
                              refine gx_iconst (pc := 186) (1 : Int32) d_Fitting_apply_186 (by decide) ?_
                              obtain ⟨σ22, cσ22, hT⟩ := tx_cv_some hT
                              refine gx_callV (pc := 187) (As := [.int (1 : Int32)]) (rest := []) cm_Fitting_put lk_Fitting_101 (fx_Fitting_put_c l E σ21 (1 : Int32) _ cσ22) (rfl) (by decide) rfl rfl tx_fi_Fitting_apply_Fitting_put (Nat.le_of_ble_eq_true rfl) d_Fitting_apply_187 ?_
                              change gx l E mi_Fitting_apply _ σ22 [(0, .ref (E.1 15)), (1, .int x1), (2, .int x2)] 190 []
                              refine gx_goto (pc := 190) 293 d_Fitting_apply_190 rfl ?_
                              refine gx_sub [] rfl ?_
                              exact fx_Fitting_apply_b293_w  σ22 _ hT
                            · have hT := tx_ifn h20 hT
                              by_cases h23 : x1 = (14 : Int32)
                              · have hT := tx_ifp h23 hT
                                refine gx_tabIn (pc := 1) 193 d_Fitting_apply_1 (by rw [h23]; decide) (by rw [h23]; decide) (by rw [h23]; rfl) rfl ?_
                                refine gx_aload_n (pc := 193) 0 d_Fitting_apply_193 rfl rfl ?_
                                refine gx_iconst (pc := 194) (1 : Int32) d_Fitting_apply_194 (by decide) ?_
                                obtain ⟨σ24, cσ24, hT⟩ := tx_cv_some hT
                                refine gx_callV (pc := 195) (As := [.int (1 : Int32)]) (rest := []) cm_Fitting_take lk_Fitting_110 (fx_Fitting_take_c l E σ (1 : Int32) _ cσ24) (rfl) (by decide) rfl rfl tx_fi_Fitting_apply_Fitting_take (Nat.le_of_ble_eq_true rfl) d_Fitting_apply_195 ?_
                                change gx l E mi_Fitting_apply _ σ24 [(0, .ref (E.1 15)), (1, .int x1), (2, .int x2)] 198 []
                                refine gx_aload_n (pc := 198) 0 d_Fitting_apply_198 rfl rfl ?_
                                refine gx_iconst (pc := 199) (0 : Int32) d_Fitting_apply_199 (by decide) ?_
                                obtain ⟨σ25, cσ25, hT⟩ := tx_cv_some hT
                                refine gx_callV (pc := 200) (As := [.int (0 : Int32)]) (rest := []) cm_Fitting_put lk_Fitting_101 (fx_Fitting_put_c l E σ24 (0 : Int32) _ cσ25) (rfl) (by decide) rfl rfl tx_fi_Fitting_apply_Fitting_put (Nat.le_of_ble_eq_true rfl) d_Fitting_apply_200 ?_
                                change gx l E mi_Fitting_apply _ σ25 [(0, .ref (E.1 15)), (1, .int x1), (2, .int x2)] 203 []
                                refine gx_goto (pc := 203) 293 d_Fitting_apply_203 rfl ?_
                                refine gx_sub [] rfl ?_
                                exact fx_Fitting_apply_b293_w  σ25 _ hT
                              · have hT := tx_ifn h23 hT
                                by_cases h26 : x1 = (15 : Int32)
                                · have hT := tx_ifp h26 hT
                                  refine gx_tabIn (pc := 1) 206 d_Fitting_apply_1 (by rw [h26]; decide) (by rw [h26]; decide) (by rw [h26]; rfl) rfl ?_
                                  refine gx_aload_n (pc := 206) 0 d_Fitting_apply_206 rfl rfl ?_
                                  refine gx_iconst (pc := 207) (0 : Int32) d_Fitting_apply_207 (by decide) ?_
                                  obtain ⟨σ27, cσ27, hT⟩ := tx_cv_some hT
                                  refine gx_callV (pc := 208) (As := [.int (0 : Int32)]) (rest := []) cm_Fitting_take lk_Fitting_110 (fx_Fitting_take_c l E σ (0 : Int32) _ cσ27) (rfl) (by decide) rfl rfl tx_fi_Fitting_apply_Fitting_take (Nat.le_of_ble_eq_true rfl) d_Fitting_apply_208 ?_
                                  change gx l E mi_Fitting_apply _ σ27 [(0, .ref (E.1 15)), (1, .int x1), (2, .int x2)] 211 []
                                  refine gx_aload_n (pc := 211) 0 d_Fitting_apply_211 rfl rfl ?_
                                  refine gx_iconst (pc := 212) (1 : Int32) d_Fitting_apply_212 (by decide) ?_
                                  obtain ⟨σ28, cσ28, hT⟩ := tx_cv_some hT
                                  refine gx_callV (pc := 213) (As := [.int (1 : Int32)]) (rest := []) cm_Fitting_take lk_Fitting_110 (fx_Fitting_take_c l E σ27 (1 : Int32) _ cσ28) (rfl) (by decide) rfl rfl tx_fi_Fitting_apply_Fitting_take (Nat.le_of_ble_eq_true rfl) d_Fitting_apply_213 ?_
                                  change gx l E mi_Fitting_apply _ σ28 [(0, .ref (E.1 15)), (1, .int x1), (2, .int x2)] 216 []
                                  refine gx_goto (pc := 216) 293 d_Fitting_apply_216 rfl ?_
                                  refine gx_sub [] rfl ?_
                                  exact fx_Fitting_apply_b293_w  σ28 _ hT
                                · have hT := tx_ifn h26 hT
                                  by_cases h29 : x1 = (16 : Int32)
                                  · have hT := tx_ifp h29 hT
                                    refine gx_tabIn (pc := 1) 219 d_Fitting_apply_1 (by rw [h29]; decide) (by rw [h29]; decide) (by rw [h29]; rfl) rfl ?_
                                    refine gx_aload_n (pc := 219) 0 d_Fitting_apply_219 rfl rfl ?_
                                    obtain ⟨σ30, cσ30, hT⟩ := tx_cv_some hT
                                    refine gx_callV (pc := 220) (As := []) (rest := []) cm_Fitting_takeReference lk_Fitting_125 (fx_Fitting_takeReference_c l E σ _ cσ30) (rfl) (by decide) rfl rfl tx_fi_Fitting_apply_Fitting_takeReference (Nat.le_of_ble_eq_true rfl) d_Fitting_apply_220 ?_
                                    change gx l E mi_Fitting_apply _ σ30 [(0, .ref (E.1 15)), (1, .int x1), (2, .int x2)] 223 []
                                    refine gx_aload_n (pc := 223) 0 d_Fitting_apply_223 rfl rfl ?_
                                    obtain ⟨σ31, cσ31, hT⟩ := tx_cv_some hT
                                    refine gx_callV (pc := 224) (As := []) (rest := []) cm_Fitting_takeReference lk_Fitting_125 (fx_Fitting_takeReference_c l E σ30 _ cσ31) (rfl) (by decide) rfl rfl tx_fi_Fitting_apply_Fitting_takeReference (Nat.le_of_ble_eq_true rfl) d_Fitting_apply_224 ?_
                                    change gx l E mi_Fitting_apply _ σ31 [(0, .ref (E.1 15)), (1, .int x1), (2, .int x2)] 227 []
                                    refine gx_aload_n (pc := 227) 0 d_Fitting_apply_227 rfl rfl ?_
                                    refine gx_iconst (pc := 228) (0 : Int32) d_Fitting_apply_228 (by decide) ?_
                                    obtain ⟨σ32, cσ32, hT⟩ := tx_cv_some hT
                                    refine gx_callV (pc := 229) (As := [.int (0 : Int32)]) (rest := []) cm_Fitting_put lk_Fitting_101 (fx_Fitting_put_c l E σ31 (0 : Int32) _ cσ32) (rfl) (by decide) rfl rfl tx_fi_Fitting_apply_Fitting_put (Nat.le_of_ble_eq_true rfl) d_Fitting_apply_229 ?_
                                    change gx l E mi_Fitting_apply _ σ32 [(0, .ref (E.1 15)), (1, .int x1), (2, .int x2)] 232 []
                                    refine gx_goto (pc := 232) 293 d_Fitting_apply_232 rfl ?_
                                    refine gx_sub [] rfl ?_
                                    exact fx_Fitting_apply_b293_w  σ32 _ hT
                                  · have hT := tx_ifn h29 hT
                                    by_cases h33 : x1 = (17 : Int32)
                                    · have hT := tx_ifp h33 hT
                                      refine gx_tabIn (pc := 1) 235 d_Fitting_apply_1 (by rw [h33]; decide) (by rw [h33]; decide) (by rw [h33]; rfl) rfl ?_
                                      refine gx_aload_n (pc := 235) 0 d_Fitting_apply_235 rfl rfl ?_
                                      refine gx_iload_n (pc := 236) 2 d_Fitting_apply_236 rfl rfl ?_
                                      obtain ⟨σ34, cσ34, hT⟩ := tx_cv_some hT
                                      refine gx_callV (pc := 237) (As := [.int x2]) (rest := []) cm_Fitting_putClass lk_Fitting_128 (fx_Fitting_putClass_c l E σ x2 _ cσ34) (rfl) (by decide) rfl rfl tx_fi_Fitting_apply_Fitting_putClass (Nat.le_of_ble_eq_true rfl) d_Fitting_apply_237 ?_
                                      change gx l E mi_Fitting_apply _ σ34 [(0, .ref (E.1 15)), (1, .int x1), (2, .int x2)] 240 []
                                      refine gx_goto (pc := 240) 293 d_Fitting_apply_240 rfl ?_
                                      refine gx_sub [] rfl ?_
                                      exact fx_Fitting_apply_b293_w  σ34 _ hT
                                    · have hT := tx_ifn h33 hT
                                      by_cases h35 : x1 = (18 : Int32)
                                      · have hT := tx_ifp h35 hT
                                        refine gx_tabIn (pc := 1) 243 d_Fitting_apply_1 (by rw [h35]; decide) (by rw [h35]; decide) (by rw [h35]; rfl) rfl ?_
                                        refine gx_aload_n (pc := 243) 0 d_Fitting_apply_243 rfl rfl ?_
                                        refine gx_iload_n (pc := 244) 2 d_Fitting_apply_244 rfl rfl ?_
                                        refine gx_if_lt (pc := 245) 257 d_Fitting_apply_245 rfl (fun h36 => ?_) (fun h36 => ?_)
                                        · have hT := tx_ifp h36 hT
                                          refine gx_sub [0] rfl ?_
                                          exact fx_Fitting_apply_b257_w  σ _ hT
                                        · have hT := tx_ifn h36 hT
                                          refine gx_iload_n (pc := 248) 2 d_Fitting_apply_248 rfl rfl ?_
                                          refine gx_iconst (pc := 249) (3 : Int32) d_Fitting_apply_249 (by decide) ?_
                                          refine gx_icmp_gt (pc := 250) 257 d_Fitting_apply_250 rfl (fun h37 => ?_) (fun h37 => ?_)
                                          · have hT := tx_ifp h37 hT
                                            refine gx_sub [0] rfl ?_
                                            exact fx_Fitting_apply_b257_w  σ _ hT
                                          · have hT := tx_ifn h37 hT
                                            refine gx_iconst (pc := 253) (1 : Int32) d_Fitting_apply_253 (by decide) ?_
                                            refine gx_goto (pc := 254) 258 d_Fitting_apply_254 rfl ?_
                                            refine gx_sub [0] rfl ?_
                                            exact fx_Fitting_apply_b258_w  σ (1 : Int32) _ hT
                                      · have hT := tx_ifn h35 hT
                                        by_cases h38 : x1 = (19 : Int32)
                                        · have hT := tx_ifp h38 hT
                                          refine gx_tabIn (pc := 1) 274 d_Fitting_apply_1 (by rw [h38]; decide) (by rw [h38]; decide) (by rw [h38]; rfl) rfl ?_
                                          refine gx_aload_n (pc := 274) 0 d_Fitting_apply_274 rfl rfl ?_
                                          refine gx_aload_n (pc := 275) 0 d_Fitting_apply_275 rfl rfl ?_
                                          refine gx_getR (pc := 276) 1 fl_Fitting_24 d_Fitting_apply_276 (rfl) (by decide) rfl ?_
                                          refine gx_getR (pc := 279) 11 fl_Fitting_135 d_Fitting_apply_279 (rfl) (by decide) rfl ?_
                                          refine gx_aload_n (pc := 282) 0 d_Fitting_apply_282 rfl rfl ?_
                                          refine gx_getI (pc := 283) (σ 15 7) fl_Fitting_43 d_Fitting_apply_283 (rfl) (by decide) rfl rfl ?_
                                          obtain ⟨v39, gv39, iv39, hT⟩ := tx_rd_some hT
                                          refine gx_iald (pc := 286) v39 d_Fitting_apply_286 (rfl) iv39 gv39 ?_
                                          obtain ⟨σ40, cσ40, hT⟩ := tx_cv_some hT
                                          refine gx_callV (pc := 287) (As := [.int v39]) (rest := []) cm_Fitting_take lk_Fitting_110 (fx_Fitting_take_c l E σ v39 _ cσ40) (rfl) (by decide) rfl rfl tx_fi_Fitting_apply_Fitting_take (Nat.le_of_ble_eq_true rfl) d_Fitting_apply_287 ?_
                                          change gx l E mi_Fitting_apply _ σ40 [(0, .ref (E.1 15)), (1, .int x1), (2, .int x2)] 290 []
                                          refine gx_goto (pc := 290) 293 d_Fitting_apply_290 rfl ?_
                                          refine gx_sub [] rfl ?_
                                          exact fx_Fitting_apply_b293_w  σ40 _ hT
                                        · have hT := tx_ifn h38 hT
                                          refine gx_tabOut (pc := 1) 293 d_Fitting_apply_1 (by have zh1 := lv_neT h1 (a := 0) (by decide); have zh3 := lv_neT h3 (a := 1) (by decide); have zh5 := lv_neT h5 (a := 2) (by decide); have zh7 := lv_neT h7 (a := 3) (by decide); have zh8 := lv_neT h8 (a := 4) (by decide); have zh9 := lv_neT h9 (a := 5) (by decide); have zh10 := lv_neT h10 (a := 6) (by decide); have zh12 := lv_neT h12 (a := 7) (by decide); have zh14 := lv_neT h14 (a := 8) (by decide); have zh15 := lv_neT h15 (a := 9) (by decide); have zh16 := lv_neT h16 (a := 10) (by decide); have zh17 := lv_neT h17 (a := 11) (by decide); have zh18 := lv_neT h18 (a := 12) (by decide); have zh20 := lv_neT h20 (a := 13) (by decide); have zh23 := lv_neT h23 (a := 14) (by decide); have zh26 := lv_neT h26 (a := 15) (by decide); have zh29 := lv_neT h29 (a := 16) (by decide); have zh33 := lv_neT h33 (a := 17) (by decide); have zh35 := lv_neT h35 (a := 18) (by decide); have zh38 := lv_neT h38 (a := 19) (by decide); omega) rfl ?_
                                          refine gx_sub [] rfl ?_
                                          exact fx_Fitting_apply_b293_w  σ _ hT
theorem d_Fitting_leave_0 : decode c_Fitting_leave 0 = .ok (.iload_n 2, 1) := by decide +kernel
theorem d_Fitting_leave_1 : decode c_Fitting_leave 1 = .ok (.iconst (5), 1) := by decide +kernel
theorem d_Fitting_leave_2 : decode c_Fitting_leave 2 = .ok (.if_icmp .eq (9), 3) := by decide +kernel
theorem d_Fitting_leave_5 : decode c_Fitting_leave 5 = .ok (.iload_n 2, 1) := by decide +kernel
theorem d_Fitting_leave_6 : decode c_Fitting_leave 6 = .ok (.bipush (6), 2) := by decide +kernel
theorem d_Fitting_leave_8 : decode c_Fitting_leave 8 = .ok (.if_icmp .ne (8), 3) := by decide +kernel
theorem d_Fitting_leave_11 : decode c_Fitting_leave 11 = .ok (.aload_n 0, 1) := by decide +kernel
theorem d_Fitting_leave_12 : decode c_Fitting_leave 12 = .ok (.iload_n 3, 1) := by decide +kernel
theorem d_Fitting_leave_13 : decode c_Fitting_leave 13 = .ok (.invokevirtual 32, 3) := by decide +kernel
theorem d_Fitting_leave_16 : decode c_Fitting_leave 16 = .ok (.iload_n 2, 1) := by decide +kernel
theorem d_Fitting_leave_17 : decode c_Fitting_leave 17 = .ok (.iconst (5), 1) := by decide +kernel
theorem d_Fitting_leave_18 : decode c_Fitting_leave 18 = .ok (.if_icmp .eq (16), 3) := by decide +kernel
theorem d_Fitting_leave_21 : decode c_Fitting_leave 21 = .ok (.iload_n 2, 1) := by decide +kernel
theorem d_Fitting_leave_22 : decode c_Fitting_leave 22 = .ok (.bipush (19), 2) := by decide +kernel
theorem d_Fitting_leave_24 : decode c_Fitting_leave 24 = .ok (.if_icmp .eq (10), 3) := by decide +kernel
theorem d_Fitting_leave_27 : decode c_Fitting_leave 27 = .ok (.aload_n 0, 1) := by decide +kernel
theorem d_Fitting_leave_28 : decode c_Fitting_leave 28 = .ok (.iload_n 1, 1) := by decide +kernel
theorem d_Fitting_leave_29 : decode c_Fitting_leave 29 = .ok (.iconst (1), 1) := by decide +kernel
theorem d_Fitting_leave_30 : decode c_Fitting_leave 30 = .ok (.iadd, 1) := by decide +kernel
theorem d_Fitting_leave_31 : decode c_Fitting_leave 31 = .ok (.invokevirtual 32, 3) := by decide +kernel
theorem d_Fitting_leave_34 : decode c_Fitting_leave 34 = .ok (.return_, 1) := by decide +kernel
def fx_Fitting_leave_b34 (σ : tx_St) : Option tx_St := some σ
def fx_Fitting_leave_b16 (σ : tx_St) (x1 : Int32) (x2 : Int32) : Option tx_St := (if x2 = (5 : Int32) then fx_Fitting_leave_b34  σ else (if x2 = (19 : Int32) then fx_Fitting_leave_b34  σ else tx_cv (fx_Fitting_arriveAt σ (x1 + (1 : Int32))) fun σ6 => fx_Fitting_leave_b34  σ6))
def fx_Fitting_leave_b11 (σ : tx_St) (x1 : Int32) (x2 : Int32) (x3 : Int32) : Option tx_St := tx_cv (fx_Fitting_arriveAt σ x3) fun σ3 => fx_Fitting_leave_b16  σ3 x1 x2
def fx_Fitting_leave (σ : tx_St) (x1 : Int32) (x2 : Int32) (x3 : Int32) : Option tx_St := (if x2 = (5 : Int32) then fx_Fitting_leave_b11  σ x1 x2 x3 else (if x2 = (6 : Int32) then fx_Fitting_leave_b11  σ x1 x2 x3 else fx_Fitting_leave_b16  σ x1 x2))
set_option maxRecDepth 100000 in
set_option maxHeartbeats 4000000 in
theorem fx_Fitting_leave_b34_w {l : Launch} {E : tx_E} (σ : tx_St) (t : tx_St) (hT : fx_Fitting_leave_b34 σ  = some t) : gx l E mi_Fitting_leave (none, t) σ [] 34 [] := by
  unfold fx_Fitting_leave_b34 at hT
  cases hT
  exact gx_vret (pc := 34) d_Fitting_leave_34 rfl rfl
set_option maxRecDepth 100000 in
set_option maxHeartbeats 4000000 in
theorem fx_Fitting_leave_b16_w {l : Launch} {E : tx_E} (σ : tx_St) (x1 : Int32) (x2 : Int32) (t : tx_St) (hT : fx_Fitting_leave_b16 σ x1 x2 = some t) : gx l E mi_Fitting_leave (none, t) σ [(0, .ref (E.1 15)), (1, .int x1), (2, .int x2)] 16 [] := by
  unfold fx_Fitting_leave_b16 at hT
  refine gx_iload_n (pc := 16) 2 d_Fitting_leave_16 rfl rfl ?_
  refine gx_iconst (pc := 17) (5 : Int32) d_Fitting_leave_17 (by decide) ?_
  refine gx_icmp_eq (pc := 18) 34 d_Fitting_leave_18 rfl (fun h4 => ?_) (fun h4 => ?_)
  · have hT := tx_ifp h4 hT
    refine gx_sub [] rfl ?_
    exact fx_Fitting_leave_b34_w  σ _ hT
  · have hT := tx_ifn h4 hT
    refine gx_iload_n (pc := 21) 2 d_Fitting_leave_21 rfl rfl ?_
    refine gx_bipush (pc := 22) (19 : Int32) d_Fitting_leave_22 (by decide) ?_
    refine gx_icmp_eq (pc := 24) 34 d_Fitting_leave_24 rfl (fun h5 => ?_) (fun h5 => ?_)
    · have hT := tx_ifp h5 hT
      refine gx_sub [] rfl ?_
      exact fx_Fitting_leave_b34_w  σ _ hT
    · have hT := tx_ifn h5 hT
      refine gx_aload_n (pc := 27) 0 d_Fitting_leave_27 rfl rfl ?_
      refine gx_iload_n (pc := 28) 1 d_Fitting_leave_28 rfl rfl ?_
      refine gx_iconst (pc := 29) (1 : Int32) d_Fitting_leave_29 (by decide) ?_
      refine gx_iadd (pc := 30) d_Fitting_leave_30 ?_
      obtain ⟨σ6, cσ6, hT⟩ := tx_cv_some hT
      refine gx_callV (pc := 31) (As := [.int (x1 + (1 : Int32))]) (rest := []) cm_Fitting_arriveAt lk_Fitting_32 (fx_Fitting_arriveAt_c l E σ (x1 + (1 : Int32)) _ cσ6) (rfl) (by decide) rfl rfl tx_fi_Fitting_leave_Fitting_arriveAt (Nat.le_of_ble_eq_true rfl) d_Fitting_leave_31 ?_
      change gx l E mi_Fitting_leave _ σ6 [(0, .ref (E.1 15)), (1, .int x1), (2, .int x2)] 34 []
      refine gx_sub [] rfl ?_
      exact fx_Fitting_leave_b34_w  σ6 _ hT
set_option maxRecDepth 100000 in
set_option maxHeartbeats 4000000 in
theorem fx_Fitting_leave_b11_w {l : Launch} {E : tx_E} (σ : tx_St) (x1 : Int32) (x2 : Int32) (x3 : Int32) (t : tx_St) (hT : fx_Fitting_leave_b11 σ x1 x2 x3 = some t) : gx l E mi_Fitting_leave (none, t) σ [(0, .ref (E.1 15)), (1, .int x1), (2, .int x2), (3, .int x3)] 11 [] := by
  unfold fx_Fitting_leave_b11 at hT
  refine gx_aload_n (pc := 11) 0 d_Fitting_leave_11 rfl rfl ?_
  refine gx_iload_n (pc := 12) 3 d_Fitting_leave_12 rfl rfl ?_
  obtain ⟨σ3, cσ3, hT⟩ := tx_cv_some hT
  refine gx_callV (pc := 13) (As := [.int x3]) (rest := []) cm_Fitting_arriveAt lk_Fitting_32 (fx_Fitting_arriveAt_c l E σ x3 _ cσ3) (rfl) (by decide) rfl rfl tx_fi_Fitting_leave_Fitting_arriveAt (Nat.le_of_ble_eq_true rfl) d_Fitting_leave_13 ?_
  change gx l E mi_Fitting_leave _ σ3 [(0, .ref (E.1 15)), (1, .int x1), (2, .int x2), (3, .int x3)] 16 []
  refine gx_sub [0, 1, 2] rfl ?_
  exact fx_Fitting_leave_b16_w  σ3 x1 x2 _ hT
set_option maxRecDepth 100000 in
set_option maxHeartbeats 4000000 in
theorem fx_Fitting_leave_c (l : Launch) (E : tx_E) (σ : tx_St) (x1 : Int32) (x2 : Int32) (x3 : Int32) (t : tx_St) (hT : fx_Fitting_leave σ x1 x2 x3 = some t) : tx_MX l E y_Fitting_leave mi_Fitting_leave (none, t) [.ref (E.1 15), .int x1, .int x2, .int x3] σ := by
  refine tx_MX_of (by decide) rfl (Nat.le_of_ble_eq_true rfl) ?_
  show gx l E mi_Fitting_leave (none, t) σ [(0, .ref (E.1 15)), (1, .int x1), (2, .int x2), (3, .int x3)] 0 []
  unfold fx_Fitting_leave at hT
  refine gx_iload_n (pc := 0) 2 d_Fitting_leave_0 rfl rfl ?_
  refine gx_iconst (pc := 1) (5 : Int32) d_Fitting_leave_1 (by decide) ?_
  refine gx_icmp_eq (pc := 2) 11 d_Fitting_leave_2 rfl (fun h1 => ?_) (fun h1 => ?_)
  · have hT := tx_ifp h1 hT
    exact fx_Fitting_leave_b11_w  σ x1 x2 x3 _ hT
  · have hT := tx_ifn h1 hT
    refine gx_iload_n (pc := 5) 2 d_Fitting_leave_5 rfl rfl ?_
    refine gx_bipush (pc := 6) (6 : Int32) d_Fitting_leave_6 (by decide) ?_
    refine gx_icmp_ne (pc := 8) 16 d_Fitting_leave_8 rfl (fun h2 => ?_) (fun h2 => ?_)
    · have hT := tx_ifn h2 hT
      refine gx_sub [0, 1, 2] rfl ?_
      exact fx_Fitting_leave_b16_w  σ x1 x2 _ hT
    · have hT := tx_ifp h2 hT
      exact fx_Fitting_leave_b11_w  σ x1 x2 x3 _ hT
