theorem d_Rules_changesForAll_0 : decode c_Rules_changesForAll 0 = .ok (.aload_n 0, 1) := by decide +kernel
theorem d_Rules_changesForAll_1 : decode c_Rules_changesForAll 1 = .ok (.getfield 9, 3) := by decide +kernel
theorem d_Rules_changesForAll_4 : decode c_Rules_changesForAll 4 = .ok (.iload_n 1, 1) := by decide +kernel
theorem d_Rules_changesForAll_5 : decode c_Rules_changesForAll 5 = .ok (.invokevirtual 51, 3) := by decide +kernel
theorem d_Rules_changesForAll_8 : decode c_Rules_changesForAll 8 = .ok (.ifCond .ne (5), 3) := by decide +kernel
theorem d_Rules_changesForAll_11 : decode c_Rules_changesForAll 11 = .ok (.iconst (0), 1) := by decide +kernel
theorem d_Rules_changesForAll_12 : decode c_Rules_changesForAll 12 = .ok (.ireturn, 1) := by decide +kernel
theorem d_Rules_changesForAll_13 : decode c_Rules_changesForAll 13 = .ok (.aload_n 0, 1) := by decide +kernel
theorem d_Rules_changesForAll_14 : decode c_Rules_changesForAll 14 = .ok (.getfield 9, 3) := by decide +kernel
theorem d_Rules_changesForAll_17 : decode c_Rules_changesForAll 17 = .ok (.iload_n 1, 1) := by decide +kernel
theorem d_Rules_changesForAll_18 : decode c_Rules_changesForAll 18 = .ok (.invokevirtual 54, 3) := by decide +kernel
theorem d_Rules_changesForAll_21 : decode c_Rules_changesForAll 21 = .ok (.ifCond .eq (22), 3) := by decide +kernel
theorem d_Rules_changesForAll_24 : decode c_Rules_changesForAll 24 = .ok (.aload_n 0, 1) := by decide +kernel
theorem d_Rules_changesForAll_25 : decode c_Rules_changesForAll 25 = .ok (.getfield 9, 3) := by decide +kernel
theorem d_Rules_changesForAll_28 : decode c_Rules_changesForAll 28 = .ok (.aload_n 0, 1) := by decide +kernel
theorem d_Rules_changesForAll_29 : decode c_Rules_changesForAll 29 = .ok (.getfield 9, 3) := by decide +kernel
theorem d_Rules_changesForAll_32 : decode c_Rules_changesForAll 32 = .ok (.getfield 57, 3) := by decide +kernel
theorem d_Rules_changesForAll_35 : decode c_Rules_changesForAll 35 = .ok (.iload_n 1, 1) := by decide +kernel
theorem d_Rules_changesForAll_36 : decode c_Rules_changesForAll 36 = .ok (.iaload, 1) := by decide +kernel
theorem d_Rules_changesForAll_37 : decode c_Rules_changesForAll 37 = .ok (.invokevirtual 60, 3) := by decide +kernel
theorem d_Rules_changesForAll_40 : decode c_Rules_changesForAll 40 = .ok (.ifCond .ne (7), 3) := by decide +kernel
theorem d_Rules_changesForAll_43 : decode c_Rules_changesForAll 43 = .ok (.iconst (1), 1) := by decide +kernel
theorem d_Rules_changesForAll_44 : decode c_Rules_changesForAll 44 = .ok (.goto (4), 3) := by decide +kernel
theorem d_Rules_changesForAll_47 : decode c_Rules_changesForAll 47 = .ok (.iconst (0), 1) := by decide +kernel
theorem d_Rules_changesForAll_48 : decode c_Rules_changesForAll 48 = .ok (.ireturn, 1) := by decide +kernel
def fx_Rules_changesForAll_b48 (σ : tx_St) (s0 : Int32) : Option (Int32 × tx_St) := tx_rz s0 σ
def fx_Rules_changesForAll_b43 (σ : tx_St) : Option (Int32 × tx_St) := fx_Rules_changesForAll_b48  σ (1 : Int32)
def fx_Rules_changesForAll (σ : tx_St) (x1 : Int32) : Option (Int32 × tx_St) := tx_ci (fx_Plan_isStaticField σ x1) fun r2 σ1 => (if r2 = 0 then some ((0 : Int32), σ1) else tx_ci (fx_Plan_isFinalField σ1 x1) fun r5 σ4 => (if r5 = 0 then fx_Rules_changesForAll_b43  σ4 else tx_rd σ4 6 12 x1 fun v7 => tx_ci (fx_Plan_isPowerless σ4 v7) fun r9 σ8 => (if r9 = 0 then fx_Rules_changesForAll_b43  σ8 else fx_Rules_changesForAll_b48  σ8 (0 : Int32))))
set_option maxRecDepth 100000 in
set_option maxHeartbeats 4000000 in
theorem fx_Rules_changesForAll_b48_w {l : Launch} {E : tx_E} (σ : tx_St) (s0 : Int32) (t : Int32 × tx_St) (hT : fx_Rules_changesForAll_b48 σ s0 = some t) : gx l E mi_Rules_changesForAll (some (.int t.1), t.2) σ [] 48 [.int s0] := by
  unfold fx_Rules_changesForAll_b48 at hT
  obtain ⟨hz, hT⟩ := tx_rz_some hT
  cases hT
  exact gx_zret (pc := 48) d_Rules_changesForAll_48 rfl hz rfl
set_option maxRecDepth 100000 in
set_option maxHeartbeats 4000000 in
theorem fx_Rules_changesForAll_b43_w {l : Launch} {E : tx_E} (σ : tx_St) (t : Int32 × tx_St) (hT : fx_Rules_changesForAll_b43 σ  = some t) : gx l E mi_Rules_changesForAll (some (.int t.1), t.2) σ [] 43 [] := by
  unfold fx_Rules_changesForAll_b43 at hT
  refine gx_iconst (pc := 43) (1 : Int32) d_Rules_changesForAll_43 (by decide) ?_
  refine gx_goto (pc := 44) 48 d_Rules_changesForAll_44 rfl ?_
  exact fx_Rules_changesForAll_b48_w  σ (1 : Int32) _ hT
set_option maxRecDepth 100000 in
set_option maxHeartbeats 4000000 in
theorem fx_Rules_changesForAll_c (l : Launch) (E : tx_E) (σ : tx_St) (x1 : Int32) (t : Int32 × tx_St) (hT : fx_Rules_changesForAll σ x1 = some t) : tx_MX l E y_Rules_changesForAll mi_Rules_changesForAll (some (.int t.1), t.2) [.ref (E.1 20), .int x1] σ := by
  refine tx_MX_of (by decide) rfl (Nat.le_of_ble_eq_true rfl) ?_
  show gx l E mi_Rules_changesForAll (some (.int t.1), t.2) σ [(0, .ref (E.1 20)), (1, .int x1)] 0 []
  unfold fx_Rules_changesForAll at hT
  refine gx_aload_n (pc := 0) 0 d_Rules_changesForAll_0 rfl rfl ?_
  refine gx_getR (pc := 1) 1 fl_Rules_9 d_Rules_changesForAll_1 (rfl) (by decide) rfl ?_
  refine gx_iload_n (pc := 4) 1 d_Rules_changesForAll_4 rfl rfl ?_
  obtain ⟨r2, σ1, cσ1, hT⟩ := tx_ci_some hT
  refine gx_callV (pc := 5) (As := [.int x1]) (rest := []) cm_Plan_isStaticField lk_Rules_51 (fx_Plan_isStaticField_c l E σ x1 _ cσ1) (rfl) (by decide) rfl rfl tx_fi_Rules_changesForAll_Plan_isStaticField (Nat.le_of_ble_eq_true rfl) d_Rules_changesForAll_5 ?_
  change gx l E mi_Rules_changesForAll _ σ1 [(0, .ref (E.1 20)), (1, .int x1)] 8 [.int r2]
  refine gx_if_ne (pc := 8) 13 d_Rules_changesForAll_8 rfl (fun h3 => ?_) (fun h3 => ?_)
  · have hT := tx_ifn h3 hT
    refine gx_aload_n (pc := 13) 0 d_Rules_changesForAll_13 rfl rfl ?_
    refine gx_getR (pc := 14) 1 fl_Rules_9 d_Rules_changesForAll_14 (rfl) (by decide) rfl ?_
    refine gx_iload_n (pc := 17) 1 d_Rules_changesForAll_17 rfl rfl ?_
    obtain ⟨r5, σ4, cσ4, hT⟩ := tx_ci_some hT
    refine gx_callV (pc := 18) (As := [.int x1]) (rest := []) cm_Plan_isFinalField lk_Rules_54 (fx_Plan_isFinalField_c l E σ1 x1 _ cσ4) (rfl) (by decide) rfl rfl tx_fi_Rules_changesForAll_Plan_isFinalField (Nat.le_of_ble_eq_true rfl) d_Rules_changesForAll_18 ?_
    change gx l E mi_Rules_changesForAll _ σ4 [(0, .ref (E.1 20)), (1, .int x1)] 21 [.int r5]
    refine gx_if_eq (pc := 21) 43 d_Rules_changesForAll_21 rfl (fun h6 => ?_) (fun h6 => ?_)
    · have hT := tx_ifp h6 hT
      refine gx_sub [] rfl ?_
      exact fx_Rules_changesForAll_b43_w  σ4 _ hT
    · have hT := tx_ifn h6 hT
      refine gx_aload_n (pc := 24) 0 d_Rules_changesForAll_24 rfl rfl ?_
      refine gx_getR (pc := 25) 1 fl_Rules_9 d_Rules_changesForAll_25 (rfl) (by decide) rfl ?_
      refine gx_aload_n (pc := 28) 0 d_Rules_changesForAll_28 rfl rfl ?_
      refine gx_getR (pc := 29) 1 fl_Rules_9 d_Rules_changesForAll_29 (rfl) (by decide) rfl ?_
      refine gx_getR (pc := 32) 6 fl_Rules_57 d_Rules_changesForAll_32 (rfl) (by decide) rfl ?_
      refine gx_iload_n (pc := 35) 1 d_Rules_changesForAll_35 rfl rfl ?_
      obtain ⟨v7, gv7, iv7, hT⟩ := tx_rd_some hT
      refine gx_iald (pc := 36) v7 d_Rules_changesForAll_36 (rfl) iv7 gv7 ?_
      obtain ⟨r9, σ8, cσ8, hT⟩ := tx_ci_some hT
      refine gx_callV (pc := 37) (As := [.int v7]) (rest := []) cm_Plan_isPowerless lk_Rules_60 (fx_Plan_isPowerless_c l E σ4 v7 _ cσ8) (rfl) (by decide) rfl rfl tx_fi_Rules_changesForAll_Plan_isPowerless (Nat.le_of_ble_eq_true rfl) d_Rules_changesForAll_37 ?_
      change gx l E mi_Rules_changesForAll _ σ8 [(0, .ref (E.1 20)), (1, .int x1)] 40 [.int r9]
      refine gx_if_ne (pc := 40) 47 d_Rules_changesForAll_40 rfl (fun h10 => ?_) (fun h10 => ?_)
      · have hT := tx_ifn h10 hT
        refine gx_iconst (pc := 47) (0 : Int32) d_Rules_changesForAll_47 (by decide) ?_
        refine gx_sub [] rfl ?_
        exact fx_Rules_changesForAll_b48_w  σ8 (0 : Int32) _ hT
      · have hT := tx_ifp h10 hT
        refine gx_sub [] rfl ?_
        exact fx_Rules_changesForAll_b43_w  σ8 _ hT
  · have hT := tx_ifp h3 hT
    refine gx_iconst (pc := 11) (0 : Int32) d_Rules_changesForAll_11 (by decide) ?_
    cases hT
    exact gx_zret (pc := 12) d_Rules_changesForAll_12 rfl (by decide) rfl
theorem d_Plan_isImmutable_0 : decode c_Plan_isImmutable 0 = .ok (.iload_n 1, 1) := by decide +kernel
theorem d_Plan_isImmutable_1 : decode c_Plan_isImmutable 1 = .ok (.iconst (2), 1) := by decide +kernel
theorem d_Plan_isImmutable_2 : decode c_Plan_isImmutable 2 = .ok (.if_icmp .ge (13), 3) := by decide +kernel
theorem d_Plan_isImmutable_5 : decode c_Plan_isImmutable 5 = .ok (.iload_n 1, 1) := by decide +kernel
theorem d_Plan_isImmutable_6 : decode c_Plan_isImmutable 6 = .ok (.ifCond .ne (7), 3) := by decide +kernel
theorem d_Plan_isImmutable_9 : decode c_Plan_isImmutable 9 = .ok (.iconst (1), 1) := by decide +kernel
theorem d_Plan_isImmutable_10 : decode c_Plan_isImmutable 10 = .ok (.goto (4), 3) := by decide +kernel
theorem d_Plan_isImmutable_13 : decode c_Plan_isImmutable 13 = .ok (.iconst (0), 1) := by decide +kernel
theorem d_Plan_isImmutable_14 : decode c_Plan_isImmutable 14 = .ok (.ireturn, 1) := by decide +kernel
theorem d_Plan_isImmutable_15 : decode c_Plan_isImmutable 15 = .ok (.aload_n 0, 1) := by decide +kernel
theorem d_Plan_isImmutable_16 : decode c_Plan_isImmutable 16 = .ok (.getfield 15, 3) := by decide +kernel
theorem d_Plan_isImmutable_19 : decode c_Plan_isImmutable 19 = .ok (.iload_n 1, 1) := by decide +kernel
theorem d_Plan_isImmutable_20 : decode c_Plan_isImmutable 20 = .ok (.iconst (2), 1) := by decide +kernel
theorem d_Plan_isImmutable_21 : decode c_Plan_isImmutable 21 = .ok (.isub, 1) := by decide +kernel
theorem d_Plan_isImmutable_22 : decode c_Plan_isImmutable 22 = .ok (.iaload, 1) := by decide +kernel
theorem d_Plan_isImmutable_23 : decode c_Plan_isImmutable 23 = .ok (.ifCond .eq (7), 3) := by decide +kernel
theorem d_Plan_isImmutable_26 : decode c_Plan_isImmutable 26 = .ok (.iconst (1), 1) := by decide +kernel
theorem d_Plan_isImmutable_27 : decode c_Plan_isImmutable 27 = .ok (.goto (4), 3) := by decide +kernel
theorem d_Plan_isImmutable_30 : decode c_Plan_isImmutable 30 = .ok (.iconst (0), 1) := by decide +kernel
theorem d_Plan_isImmutable_31 : decode c_Plan_isImmutable 31 = .ok (.ireturn, 1) := by decide +kernel
def fx_Plan_isImmutable_b31 (σ : tx_St) (s0 : Int32) : Option (Int32 × tx_St) := tx_rz s0 σ
def fx_Plan_isImmutable_b14 (σ : tx_St) (s0 : Int32) : Option (Int32 × tx_St) := tx_rz s0 σ
def fx_Plan_isImmutable (σ : tx_St) (x1 : Int32) : Option (Int32 × tx_St) := (if (2 : Int32) ≤ x1 then tx_rd σ 3 8 (x1 - (2 : Int32)) fun v2 => (if v2 = 0 then fx_Plan_isImmutable_b31  σ (0 : Int32) else fx_Plan_isImmutable_b31  σ (1 : Int32)) else (if x1 = 0 then fx_Plan_isImmutable_b14  σ (1 : Int32) else fx_Plan_isImmutable_b14  σ (0 : Int32)))
set_option maxRecDepth 100000 in
set_option maxHeartbeats 4000000 in
theorem fx_Plan_isImmutable_b31_w {l : Launch} {E : tx_E} (σ : tx_St) (s0 : Int32) (t : Int32 × tx_St) (hT : fx_Plan_isImmutable_b31 σ s0 = some t) : gx l E mi_Plan_isImmutable (some (.int t.1), t.2) σ [] 31 [.int s0] := by
  unfold fx_Plan_isImmutable_b31 at hT
  obtain ⟨hz, hT⟩ := tx_rz_some hT
  cases hT
  exact gx_zret (pc := 31) d_Plan_isImmutable_31 rfl hz rfl
set_option maxRecDepth 100000 in
set_option maxHeartbeats 4000000 in
theorem fx_Plan_isImmutable_b14_w {l : Launch} {E : tx_E} (σ : tx_St) (s0 : Int32) (t : Int32 × tx_St) (hT : fx_Plan_isImmutable_b14 σ s0 = some t) : gx l E mi_Plan_isImmutable (some (.int t.1), t.2) σ [] 14 [.int s0] := by
  unfold fx_Plan_isImmutable_b14 at hT
  obtain ⟨hz, hT⟩ := tx_rz_some hT
  cases hT
  exact gx_zret (pc := 14) d_Plan_isImmutable_14 rfl hz rfl
set_option maxRecDepth 100000 in
set_option maxHeartbeats 4000000 in
theorem fx_Plan_isImmutable_c (l : Launch) (E : tx_E) (σ : tx_St) (x1 : Int32) (t : Int32 × tx_St) (hT : fx_Plan_isImmutable σ x1 = some t) : tx_MX l E y_Plan_isImmutable mi_Plan_isImmutable (some (.int t.1), t.2) [.ref (E.1 1), .int x1] σ := by
  refine tx_MX_of (by decide) rfl (Nat.le_of_ble_eq_true rfl) ?_
  show gx l E mi_Plan_isImmutable (some (.int t.1), t.2) σ [(0, .ref (E.1 1)), (1, .int x1)] 0 []
  unfold fx_Plan_isImmutable at hT
  refine gx_iload_n (pc := 0) 1 d_Plan_isImmutable_0 rfl rfl ?_
  refine gx_iconst (pc := 1) (2 : Int32) d_Plan_isImmutable_1 (by decide) ?_
  refine gx_icmp_ge (pc := 2) 15 d_Plan_isImmutable_2 rfl (fun h1 => ?_) (fun h1 => ?_)
  · have hT := tx_ifp h1 hT
    refine gx_aload_n (pc := 15) 0 d_Plan_isImmutable_15 rfl rfl ?_
    refine gx_getR (pc := 16) 3 fl_Plan_15 d_Plan_isImmutable_16 (rfl) (by decide) rfl ?_
    refine gx_iload_n (pc := 19) 1 d_Plan_isImmutable_19 rfl rfl ?_
    refine gx_iconst (pc := 20) (2 : Int32) d_Plan_isImmutable_20 (by decide) ?_
    refine gx_isub (pc := 21) d_Plan_isImmutable_21 ?_
    obtain ⟨v2, gv2, iv2, hT⟩ := tx_rd_some hT
    refine gx_iald (pc := 22) v2 d_Plan_isImmutable_22 (rfl) iv2 gv2 ?_
    refine gx_if_eq (pc := 23) 30 d_Plan_isImmutable_23 rfl (fun h3 => ?_) (fun h3 => ?_)
    · have hT := tx_ifp h3 hT
      refine gx_iconst (pc := 30) (0 : Int32) d_Plan_isImmutable_30 (by decide) ?_
      refine gx_sub [] rfl ?_
      exact fx_Plan_isImmutable_b31_w  σ (0 : Int32) _ hT
    · have hT := tx_ifn h3 hT
      refine gx_iconst (pc := 26) (1 : Int32) d_Plan_isImmutable_26 (by decide) ?_
      refine gx_goto (pc := 27) 31 d_Plan_isImmutable_27 rfl ?_
      refine gx_sub [] rfl ?_
      exact fx_Plan_isImmutable_b31_w  σ (1 : Int32) _ hT
  · have hT := tx_ifn h1 hT
    refine gx_iload_n (pc := 5) 1 d_Plan_isImmutable_5 rfl rfl ?_
    refine gx_if_ne (pc := 6) 13 d_Plan_isImmutable_6 rfl (fun h4 => ?_) (fun h4 => ?_)
    · have hT := tx_ifn h4 hT
      refine gx_iconst (pc := 13) (0 : Int32) d_Plan_isImmutable_13 (by decide) ?_
      refine gx_sub [] rfl ?_
      exact fx_Plan_isImmutable_b14_w  σ (0 : Int32) _ hT
    · have hT := tx_ifp h4 hT
      refine gx_iconst (pc := 9) (1 : Int32) d_Plan_isImmutable_9 (by decide) ?_
      refine gx_goto (pc := 10) 14 d_Plan_isImmutable_10 rfl ?_
      refine gx_sub [] rfl ?_
      exact fx_Plan_isImmutable_b14_w  σ (1 : Int32) _ hT
theorem d_Plan_isUnder_0 : decode c_Plan_isUnder 0 = .ok (.aload_n 0, 1) := by decide +kernel
theorem d_Plan_isUnder_1 : decode c_Plan_isUnder 1 = .ok (.getfield 9, 3) := by decide +kernel
theorem d_Plan_isUnder_4 : decode c_Plan_isUnder 4 = .ok (.iload_n 1, 1) := by decide +kernel
theorem d_Plan_isUnder_5 : decode c_Plan_isUnder 5 = .ok (.iaload, 1) := by decide +kernel
theorem d_Plan_isUnder_6 : decode c_Plan_isUnder 6 = .ok (.iload_n 2, 1) := by decide +kernel
theorem d_Plan_isUnder_7 : decode c_Plan_isUnder 7 = .ok (.ishr, 1) := by decide +kernel
theorem d_Plan_isUnder_8 : decode c_Plan_isUnder 8 = .ok (.iconst (1), 1) := by decide +kernel
theorem d_Plan_isUnder_9 : decode c_Plan_isUnder 9 = .ok (.iand, 1) := by decide +kernel
theorem d_Plan_isUnder_10 : decode c_Plan_isUnder 10 = .ok (.ifCond .eq (7), 3) := by decide +kernel
theorem d_Plan_isUnder_13 : decode c_Plan_isUnder 13 = .ok (.iconst (1), 1) := by decide +kernel
theorem d_Plan_isUnder_14 : decode c_Plan_isUnder 14 = .ok (.goto (4), 3) := by decide +kernel
theorem d_Plan_isUnder_17 : decode c_Plan_isUnder 17 = .ok (.iconst (0), 1) := by decide +kernel
theorem d_Plan_isUnder_18 : decode c_Plan_isUnder 18 = .ok (.ireturn, 1) := by decide +kernel
def fx_Plan_isUnder_b18 (σ : tx_St) (s0 : Int32) : Option (Int32 × tx_St) := tx_rz s0 σ
def fx_Plan_isUnder (σ : tx_St) (x1 : Int32) (x2 : Int32) : Option (Int32 × tx_St) := tx_rd σ 2 8 x1 fun v1 => (if ((v1 >>> (x2 &&& 31)) &&& (1 : Int32)) = 0 then fx_Plan_isUnder_b18  σ (0 : Int32) else fx_Plan_isUnder_b18  σ (1 : Int32))
set_option maxRecDepth 100000 in
set_option maxHeartbeats 4000000 in
theorem fx_Plan_isUnder_b18_w {l : Launch} {E : tx_E} (σ : tx_St) (s0 : Int32) (t : Int32 × tx_St) (hT : fx_Plan_isUnder_b18 σ s0 = some t) : gx l E mi_Plan_isUnder (some (.int t.1), t.2) σ [] 18 [.int s0] := by
  unfold fx_Plan_isUnder_b18 at hT
  obtain ⟨hz, hT⟩ := tx_rz_some hT
  cases hT
  exact gx_zret (pc := 18) d_Plan_isUnder_18 rfl hz rfl
set_option maxRecDepth 100000 in
set_option maxHeartbeats 4000000 in
theorem fx_Plan_isUnder_c (l : Launch) (E : tx_E) (σ : tx_St) (x1 : Int32) (x2 : Int32) (t : Int32 × tx_St) (hT : fx_Plan_isUnder σ x1 x2 = some t) : tx_MX l E y_Plan_isUnder mi_Plan_isUnder (some (.int t.1), t.2) [.ref (E.1 1), .int x1, .int x2] σ := by
  refine tx_MX_of (by decide) rfl (Nat.le_of_ble_eq_true rfl) ?_
  show gx l E mi_Plan_isUnder (some (.int t.1), t.2) σ [(0, .ref (E.1 1)), (1, .int x1), (2, .int x2)] 0 []
  unfold fx_Plan_isUnder at hT
  refine gx_aload_n (pc := 0) 0 d_Plan_isUnder_0 rfl rfl ?_
  refine gx_getR (pc := 1) 2 fl_Plan_9 d_Plan_isUnder_1 (rfl) (by decide) rfl ?_
  refine gx_iload_n (pc := 4) 1 d_Plan_isUnder_4 rfl rfl ?_
  obtain ⟨v1, gv1, iv1, hT⟩ := tx_rd_some hT
  refine gx_iald (pc := 5) v1 d_Plan_isUnder_5 (rfl) iv1 gv1 ?_
  refine gx_iload_n (pc := 6) 2 d_Plan_isUnder_6 rfl rfl ?_
  refine gx_ishr (pc := 7) d_Plan_isUnder_7 ?_
  refine gx_iconst (pc := 8) (1 : Int32) d_Plan_isUnder_8 (by decide) ?_
  refine gx_iand (pc := 9) d_Plan_isUnder_9 ?_
  refine gx_if_eq (pc := 10) 17 d_Plan_isUnder_10 rfl (fun h2 => ?_) (fun h2 => ?_)
  · have hT := tx_ifp h2 hT
    refine gx_iconst (pc := 17) (0 : Int32) d_Plan_isUnder_17 (by decide) ?_
    refine gx_sub [] rfl ?_
    exact fx_Plan_isUnder_b18_w  σ (0 : Int32) _ hT
  · have hT := tx_ifn h2 hT
    refine gx_iconst (pc := 13) (1 : Int32) d_Plan_isUnder_13 (by decide) ?_
    refine gx_goto (pc := 14) 18 d_Plan_isUnder_14 rfl ?_
    refine gx_sub [] rfl ?_
    exact fx_Plan_isUnder_b18_w  σ (1 : Int32) _ hT
theorem d_Plan_owns_0 : decode c_Plan_owns 0 = .ok (.aload_n 0, 1) := by decide +kernel
theorem d_Plan_owns_1 : decode c_Plan_owns 1 = .ok (.iload_n 2, 1) := by decide +kernel
theorem d_Plan_owns_2 : decode c_Plan_owns 2 = .ok (.invokevirtual 61, 3) := by decide +kernel
theorem d_Plan_owns_5 : decode c_Plan_owns 5 = .ok (.ifCond .ne (21), 3) := by decide +kernel
theorem d_Plan_owns_8 : decode c_Plan_owns 8 = .ok (.aload_n 0, 1) := by decide +kernel
theorem d_Plan_owns_9 : decode c_Plan_owns 9 = .ok (.iload_n 1, 1) := by decide +kernel
theorem d_Plan_owns_10 : decode c_Plan_owns 10 = .ok (.aload_n 0, 1) := by decide +kernel
theorem d_Plan_owns_11 : decode c_Plan_owns 11 = .ok (.getfield 18, 3) := by decide +kernel
theorem d_Plan_owns_14 : decode c_Plan_owns 14 = .ok (.iload_n 2, 1) := by decide +kernel
theorem d_Plan_owns_15 : decode c_Plan_owns 15 = .ok (.iaload, 1) := by decide +kernel
theorem d_Plan_owns_16 : decode c_Plan_owns 16 = .ok (.invokevirtual 65, 3) := by decide +kernel
theorem d_Plan_owns_19 : decode c_Plan_owns 19 = .ok (.ifCond .eq (7), 3) := by decide +kernel
theorem d_Plan_owns_22 : decode c_Plan_owns 22 = .ok (.iconst (1), 1) := by decide +kernel
theorem d_Plan_owns_23 : decode c_Plan_owns 23 = .ok (.goto (4), 3) := by decide +kernel
theorem d_Plan_owns_26 : decode c_Plan_owns 26 = .ok (.iconst (0), 1) := by decide +kernel
theorem d_Plan_owns_27 : decode c_Plan_owns 27 = .ok (.ireturn, 1) := by decide +kernel
def fx_Plan_owns_b27 (σ : tx_St) (s0 : Int32) : Option (Int32 × tx_St) := tx_rz s0 σ
def fx_Plan_owns_b26 (σ : tx_St) : Option (Int32 × tx_St) := fx_Plan_owns_b27  σ (0 : Int32)
def fx_Plan_owns (σ : tx_St) (x1 : Int32) (x2 : Int32) : Option (Int32 × tx_St) := tx_ci (fx_Plan_isStaticField σ x2) fun r2 σ1 => (if r2 = 0 then tx_rd σ1 4 12 x2 fun v4 => tx_ci (fx_Plan_isUnder σ1 x1 v4) fun r6 σ5 => (if r6 = 0 then fx_Plan_owns_b26  σ5 else fx_Plan_owns_b27  σ5 (1 : Int32)) else fx_Plan_owns_b26  σ1)
set_option maxRecDepth 100000 in
set_option maxHeartbeats 4000000 in
theorem fx_Plan_owns_b27_w {l : Launch} {E : tx_E} (σ : tx_St) (s0 : Int32) (t : Int32 × tx_St) (hT : fx_Plan_owns_b27 σ s0 = some t) : gx l E mi_Plan_owns (some (.int t.1), t.2) σ [] 27 [.int s0] := by
  unfold fx_Plan_owns_b27 at hT
  obtain ⟨hz, hT⟩ := tx_rz_some hT
  cases hT
  exact gx_zret (pc := 27) d_Plan_owns_27 rfl hz rfl
set_option maxRecDepth 100000 in
set_option maxHeartbeats 4000000 in
theorem fx_Plan_owns_b26_w {l : Launch} {E : tx_E} (σ : tx_St) (t : Int32 × tx_St) (hT : fx_Plan_owns_b26 σ  = some t) : gx l E mi_Plan_owns (some (.int t.1), t.2) σ [] 26 [] := by
  unfold fx_Plan_owns_b26 at hT
  refine gx_iconst (pc := 26) (0 : Int32) d_Plan_owns_26 (by decide) ?_
  exact fx_Plan_owns_b27_w  σ (0 : Int32) _ hT
set_option maxRecDepth 100000 in
set_option maxHeartbeats 4000000 in
theorem fx_Plan_owns_c (l : Launch) (E : tx_E) (σ : tx_St) (x1 : Int32) (x2 : Int32) (t : Int32 × tx_St) (hT : fx_Plan_owns σ x1 x2 = some t) : tx_MX l E y_Plan_owns mi_Plan_owns (some (.int t.1), t.2) [.ref (E.1 1), .int x1, .int x2] σ := by
  refine tx_MX_of (by decide) rfl (Nat.le_of_ble_eq_true rfl) ?_
  show gx l E mi_Plan_owns (some (.int t.1), t.2) σ [(0, .ref (E.1 1)), (1, .int x1), (2, .int x2)] 0 []
  unfold fx_Plan_owns at hT
  refine gx_aload_n (pc := 0) 0 d_Plan_owns_0 rfl rfl ?_
  refine gx_iload_n (pc := 1) 2 d_Plan_owns_1 rfl rfl ?_
  obtain ⟨r2, σ1, cσ1, hT⟩ := tx_ci_some hT
  refine gx_callV (pc := 2) (As := [.int x2]) (rest := []) cm_Plan_isStaticField lk_Plan_61 (fx_Plan_isStaticField_c l E σ x2 _ cσ1) (rfl) (by decide) rfl rfl tx_fi_Plan_owns_Plan_isStaticField (Nat.le_of_ble_eq_true rfl) d_Plan_owns_2 ?_
  change gx l E mi_Plan_owns _ σ1 [(0, .ref (E.1 1)), (1, .int x1), (2, .int x2)] 5 [.int r2]
  refine gx_if_ne (pc := 5) 26 d_Plan_owns_5 rfl (fun h3 => ?_) (fun h3 => ?_)
  · have hT := tx_ifn h3 hT
    refine gx_sub [] rfl ?_
    exact fx_Plan_owns_b26_w  σ1 _ hT
  · have hT := tx_ifp h3 hT
    refine gx_aload_n (pc := 8) 0 d_Plan_owns_8 rfl rfl ?_
    refine gx_iload_n (pc := 9) 1 d_Plan_owns_9 rfl rfl ?_
    refine gx_aload_n (pc := 10) 0 d_Plan_owns_10 rfl rfl ?_
    refine gx_getR (pc := 11) 4 fl_Plan_18 d_Plan_owns_11 (rfl) (by decide) rfl ?_
    refine gx_iload_n (pc := 14) 2 d_Plan_owns_14 rfl rfl ?_
    obtain ⟨v4, gv4, iv4, hT⟩ := tx_rd_some hT
    refine gx_iald (pc := 15) v4 d_Plan_owns_15 (rfl) iv4 gv4 ?_
    obtain ⟨r6, σ5, cσ5, hT⟩ := tx_ci_some hT
    refine gx_callV (pc := 16) (As := [.int x1, .int v4]) (rest := []) cm_Plan_isUnder lk_Plan_65 (fx_Plan_isUnder_c l E σ1 x1 v4 _ cσ5) (rfl) (by decide) rfl rfl tx_fi_Plan_owns_Plan_isUnder (Nat.le_of_ble_eq_true rfl) d_Plan_owns_16 ?_
    change gx l E mi_Plan_owns _ σ5 [(0, .ref (E.1 1)), (1, .int x1), (2, .int x2)] 19 [.int r6]
    refine gx_if_eq (pc := 19) 26 d_Plan_owns_19 rfl (fun h7 => ?_) (fun h7 => ?_)
    · have hT := tx_ifp h7 hT
      refine gx_sub [] rfl ?_
      exact fx_Plan_owns_b26_w  σ5 _ hT
    · have hT := tx_ifn h7 hT
      refine gx_iconst (pc := 22) (1 : Int32) d_Plan_owns_22 (by decide) ?_
      refine gx_goto (pc := 23) 27 d_Plan_owns_23 rfl ?_
      refine gx_sub [] rfl ?_
      exact fx_Plan_owns_b27_w  σ5 (1 : Int32) _ hT
theorem d_Rules_changesImmutable_0 : decode c_Rules_changesImmutable 0 = .ok (.aload_n 0, 1) := by decide +kernel
theorem d_Rules_changesImmutable_1 : decode c_Rules_changesImmutable 1 = .ok (.getfield 9, 3) := by decide +kernel
theorem d_Rules_changesImmutable_4 : decode c_Rules_changesImmutable 4 = .ok (.iload_n 1, 1) := by decide +kernel
theorem d_Rules_changesImmutable_5 : decode c_Rules_changesImmutable 5 = .ok (.invokevirtual 54, 3) := by decide +kernel
theorem d_Rules_changesImmutable_8 : decode c_Rules_changesImmutable 8 = .ok (.ifCond .eq (26), 3) := by decide +kernel
theorem d_Rules_changesImmutable_11 : decode c_Rules_changesImmutable 11 = .ok (.aload_n 0, 1) := by decide +kernel
theorem d_Rules_changesImmutable_12 : decode c_Rules_changesImmutable 12 = .ok (.getfield 9, 3) := by decide +kernel
theorem d_Rules_changesImmutable_15 : decode c_Rules_changesImmutable 15 = .ok (.aload_n 0, 1) := by decide +kernel
theorem d_Rules_changesImmutable_16 : decode c_Rules_changesImmutable 16 = .ok (.getfield 9, 3) := by decide +kernel
theorem d_Rules_changesImmutable_19 : decode c_Rules_changesImmutable 19 = .ok (.getfield 57, 3) := by decide +kernel
theorem d_Rules_changesImmutable_22 : decode c_Rules_changesImmutable 22 = .ok (.iload_n 1, 1) := by decide +kernel
theorem d_Rules_changesImmutable_23 : decode c_Rules_changesImmutable 23 = .ok (.iaload, 1) := by decide +kernel
theorem d_Rules_changesImmutable_24 : decode c_Rules_changesImmutable 24 = .ok (.invokevirtual 63, 3) := by decide +kernel
theorem d_Rules_changesImmutable_27 : decode c_Rules_changesImmutable 27 = .ok (.ifCond .eq (7), 3) := by decide +kernel
theorem d_Rules_changesImmutable_30 : decode c_Rules_changesImmutable 30 = .ok (.iconst (1), 1) := by decide +kernel
theorem d_Rules_changesImmutable_31 : decode c_Rules_changesImmutable 31 = .ok (.goto (4), 3) := by decide +kernel
theorem d_Rules_changesImmutable_34 : decode c_Rules_changesImmutable 34 = .ok (.iconst (0), 1) := by decide +kernel
theorem d_Rules_changesImmutable_35 : decode c_Rules_changesImmutable 35 = .ok (.istore_n 2, 1) := by decide +kernel
theorem d_Rules_changesImmutable_36 : decode c_Rules_changesImmutable 36 = .ok (.aload_n 0, 1) := by decide +kernel
theorem d_Rules_changesImmutable_37 : decode c_Rules_changesImmutable 37 = .ok (.getfield 9, 3) := by decide +kernel
theorem d_Rules_changesImmutable_40 : decode c_Rules_changesImmutable 40 = .ok (.aload_n 0, 1) := by decide +kernel
theorem d_Rules_changesImmutable_41 : decode c_Rules_changesImmutable 41 = .ok (.getfield 9, 3) := by decide +kernel
theorem d_Rules_changesImmutable_44 : decode c_Rules_changesImmutable 44 = .ok (.getfield 57, 3) := by decide +kernel
theorem d_Rules_changesImmutable_47 : decode c_Rules_changesImmutable 47 = .ok (.iload_n 1, 1) := by decide +kernel
theorem d_Rules_changesImmutable_48 : decode c_Rules_changesImmutable 48 = .ok (.iaload, 1) := by decide +kernel
theorem d_Rules_changesImmutable_49 : decode c_Rules_changesImmutable 49 = .ok (.invokevirtual 60, 3) := by decide +kernel
theorem d_Rules_changesImmutable_52 : decode c_Rules_changesImmutable 52 = .ok (.istore_n 3, 1) := by decide +kernel
theorem d_Rules_changesImmutable_53 : decode c_Rules_changesImmutable 53 = .ok (.iconst (0), 1) := by decide +kernel
theorem d_Rules_changesImmutable_54 : decode c_Rules_changesImmutable 54 = .ok (.istore 4, 2) := by decide +kernel
theorem d_Rules_changesImmutable_56 : decode c_Rules_changesImmutable 56 = .ok (.iload 4, 2) := by decide +kernel
theorem d_Rules_changesImmutable_58 : decode c_Rules_changesImmutable 58 = .ok (.aload_n 0, 1) := by decide +kernel
theorem d_Rules_changesImmutable_59 : decode c_Rules_changesImmutable 59 = .ok (.getfield 9, 3) := by decide +kernel
theorem d_Rules_changesImmutable_62 : decode c_Rules_changesImmutable 62 = .ok (.getfield 66, 3) := by decide +kernel
theorem d_Rules_changesImmutable_65 : decode c_Rules_changesImmutable 65 = .ok (.if_icmp .ge (67), 3) := by decide +kernel
theorem d_Rules_changesImmutable_68 : decode c_Rules_changesImmutable 68 = .ok (.iconst (2), 1) := by decide +kernel
theorem d_Rules_changesImmutable_69 : decode c_Rules_changesImmutable 69 = .ok (.iload 4, 2) := by decide +kernel
theorem d_Rules_changesImmutable_71 : decode c_Rules_changesImmutable 71 = .ok (.iadd, 1) := by decide +kernel
theorem d_Rules_changesImmutable_72 : decode c_Rules_changesImmutable 72 = .ok (.istore 5, 2) := by decide +kernel
theorem d_Rules_changesImmutable_74 : decode c_Rules_changesImmutable 74 = .ok (.aload_n 0, 1) := by decide +kernel
theorem d_Rules_changesImmutable_75 : decode c_Rules_changesImmutable 75 = .ok (.getfield 9, 3) := by decide +kernel
theorem d_Rules_changesImmutable_78 : decode c_Rules_changesImmutable 78 = .ok (.iload 4, 2) := by decide +kernel
theorem d_Rules_changesImmutable_80 : decode c_Rules_changesImmutable 80 = .ok (.iload_n 1, 1) := by decide +kernel
theorem d_Rules_changesImmutable_81 : decode c_Rules_changesImmutable 81 = .ok (.invokevirtual 69, 3) := by decide +kernel
theorem d_Rules_changesImmutable_84 : decode c_Rules_changesImmutable 84 = .ok (.ifCond .ne (6), 3) := by decide +kernel
theorem d_Rules_changesImmutable_87 : decode c_Rules_changesImmutable 87 = .ok (.goto (39), 3) := by decide +kernel
theorem d_Rules_changesImmutable_90 : decode c_Rules_changesImmutable 90 = .ok (.aload_n 0, 1) := by decide +kernel
theorem d_Rules_changesImmutable_91 : decode c_Rules_changesImmutable 91 = .ok (.getfield 9, 3) := by decide +kernel
theorem d_Rules_changesImmutable_94 : decode c_Rules_changesImmutable 94 = .ok (.iload 5, 2) := by decide +kernel
theorem d_Rules_changesImmutable_96 : decode c_Rules_changesImmutable 96 = .ok (.invokevirtual 63, 3) := by decide +kernel
theorem d_Rules_changesImmutable_99 : decode c_Rules_changesImmutable 99 = .ok (.ifCond .eq (9), 3) := by decide +kernel
theorem d_Rules_changesImmutable_102 : decode c_Rules_changesImmutable 102 = .ok (.iload_n 2, 1) := by decide +kernel
theorem d_Rules_changesImmutable_103 : decode c_Rules_changesImmutable 103 = .ok (.ifCond .ne (5), 3) := by decide +kernel
theorem d_Rules_changesImmutable_106 : decode c_Rules_changesImmutable 106 = .ok (.iconst (1), 1) := by decide +kernel
theorem d_Rules_changesImmutable_107 : decode c_Rules_changesImmutable 107 = .ok (.ireturn, 1) := by decide +kernel
theorem d_Rules_changesImmutable_108 : decode c_Rules_changesImmutable 108 = .ok (.aload_n 0, 1) := by decide +kernel
theorem d_Rules_changesImmutable_109 : decode c_Rules_changesImmutable 109 = .ok (.getfield 9, 3) := by decide +kernel
theorem d_Rules_changesImmutable_112 : decode c_Rules_changesImmutable 112 = .ok (.iload 5, 2) := by decide +kernel
theorem d_Rules_changesImmutable_114 : decode c_Rules_changesImmutable 114 = .ok (.invokevirtual 60, 3) := by decide +kernel
theorem d_Rules_changesImmutable_117 : decode c_Rules_changesImmutable 117 = .ok (.ifCond .eq (9), 3) := by decide +kernel
theorem d_Rules_changesImmutable_120 : decode c_Rules_changesImmutable 120 = .ok (.iload_n 3, 1) := by decide +kernel
theorem d_Rules_changesImmutable_121 : decode c_Rules_changesImmutable 121 = .ok (.ifCond .ne (5), 3) := by decide +kernel
theorem d_Rules_changesImmutable_124 : decode c_Rules_changesImmutable 124 = .ok (.iconst (1), 1) := by decide +kernel
theorem d_Rules_changesImmutable_125 : decode c_Rules_changesImmutable 125 = .ok (.ireturn, 1) := by decide +kernel
theorem d_Rules_changesImmutable_126 : decode c_Rules_changesImmutable 126 = .ok (.iinc 4 (1), 3) := by decide +kernel
theorem d_Rules_changesImmutable_129 : decode c_Rules_changesImmutable 129 = .ok (.goto (-73), 3) := by decide +kernel
theorem d_Rules_changesImmutable_132 : decode c_Rules_changesImmutable 132 = .ok (.iconst (0), 1) := by decide +kernel
theorem d_Rules_changesImmutable_133 : decode c_Rules_changesImmutable 133 = .ok (.ireturn, 1) := by decide +kernel
def fx_Rules_changesImmutable_b126 (k56 : tx_St → Int32 → Int32 → Int32 → Int32 → Option (Int32 × tx_St)) (σ : tx_St) (x1 : Int32) (x2 : Int32) (x3 : Int32) (x4 : Int32) : Option (Int32 × tx_St) := k56 σ x1 x2 x3 (x4 + (1 : Int32))
def fx_Rules_changesImmutable_b108 (k56 : tx_St → Int32 → Int32 → Int32 → Int32 → Option (Int32 × tx_St)) (σ : tx_St) (x1 : Int32) (x2 : Int32) (x3 : Int32) (x4 : Int32) (x5 : Int32) : Option (Int32 × tx_St) := tx_ci (fx_Plan_isPowerless σ x5) fun r20 σ19 => (if r20 = 0 then fx_Rules_changesImmutable_b126 (k56) σ19 x1 x2 x3 x4 else (if x3 = 0 then some ((1 : Int32), σ19) else fx_Rules_changesImmutable_b126 (k56) σ19 x1 x2 x3 x4))
def fx_Rules_changesImmutable_b56 : Nat → tx_St → Int32 → Int32 → Int32 → Int32 → Option (Int32 × tx_St)
  | 0, _, _, _, _, _ => none
  | n + 1, σ, x1, x2, x3, x4 => (if (σ 1 0) ≤ x4 then some ((0 : Int32), σ) else tx_ci (fx_Plan_owns σ x4 x1) fun r13 σ12 => (if r13 = 0 then fx_Rules_changesImmutable_b126 (fx_Rules_changesImmutable_b56 n) σ12 x1 x2 x3 x4 else tx_ci (fx_Plan_isImmutable σ12 ((2 : Int32) + x4)) fun r16 σ15 => (if r16 = 0 then fx_Rules_changesImmutable_b108 (fx_Rules_changesImmutable_b56 n) σ15 x1 x2 x3 x4 ((2 : Int32) + x4) else (if x2 = 0 then some ((1 : Int32), σ15) else fx_Rules_changesImmutable_b108 (fx_Rules_changesImmutable_b56 n) σ15 x1 x2 x3 x4 ((2 : Int32) + x4)))))
def fx_Rules_changesImmutable_b35 (σ : tx_St) (x1 : Int32) (s0 : Int32) : Option (Int32 × tx_St) := tx_rd σ 6 12 x1 fun v8 => tx_ci (fx_Plan_isPowerless σ v8) fun r10 σ9 => fx_Rules_changesImmutable_b56  tx_fu σ9 x1 s0 r10 (0 : Int32)
def fx_Rules_changesImmutable_b34 (σ : tx_St) (x1 : Int32) : Option (Int32 × tx_St) := fx_Rules_changesImmutable_b35  σ x1 (0 : Int32)
def fx_Rules_changesImmutable (σ : tx_St) (x1 : Int32) : Option (Int32 × tx_St) := tx_ci (fx_Plan_isFinalField σ x1) fun r2 σ1 => (if r2 = 0 then fx_Rules_changesImmutable_b34  σ1 x1 else tx_rd σ1 6 12 x1 fun v4 => tx_ci (fx_Plan_isImmutable σ1 v4) fun r6 σ5 => (if r6 = 0 then fx_Rules_changesImmutable_b34  σ5 x1 else fx_Rules_changesImmutable_b35  σ5 x1 (1 : Int32)))
set_option maxRecDepth 100000 in
set_option maxHeartbeats 4000000 in
theorem fx_Rules_changesImmutable_b126_w {l : Launch} {E : tx_E} (k56 : tx_St → Int32 → Int32 → Int32 → Int32 → Option (Int32 × tx_St)) (j56 : ∀ (σ : tx_St) (x1 : Int32) (x2 : Int32) (x3 : Int32) (x4 : Int32) (t : Int32 × tx_St), k56 σ x1 x2 x3 x4 = some t → gx l E mi_Rules_changesImmutable (some (.int t.1), t.2) σ [(0, .ref (E.1 20)), (1, .int x1), (2, .int x2), (3, .int x3), (4, .int x4)] 56 []) (σ : tx_St) (x1 : Int32) (x2 : Int32) (x3 : Int32) (x4 : Int32) (t : Int32 × tx_St) (hT : fx_Rules_changesImmutable_b126 k56 σ x1 x2 x3 x4 = some t) : gx l E mi_Rules_changesImmutable (some (.int t.1), t.2) σ [(0, .ref (E.1 20)), (1, .int x1), (2, .int x2), (3, .int x3), (4, .int x4)] 126 [] := by
  unfold fx_Rules_changesImmutable_b126 at hT
  refine gx_iinc (pc := 126) (x4 + (1 : Int32)) 4 [(4, .int (x4 + (1 : Int32))), (0, .ref (E.1 20)), (1, .int x1), (2, .int x2), (3, .int x3)] d_Rules_changesImmutable_126 rfl (tx_inc (by decide)) (Nat.le_of_ble_eq_true rfl) rfl ?_
  refine gx_goto (pc := 129) 56 d_Rules_changesImmutable_129 rfl ?_
  refine gx_sub [1, 2, 3, 4, 0] rfl ?_
  exact j56 σ x1 x2 x3 (x4 + (1 : Int32)) _ hT
set_option maxRecDepth 100000 in
set_option maxHeartbeats 4000000 in
theorem fx_Rules_changesImmutable_b108_w {l : Launch} {E : tx_E} (k56 : tx_St → Int32 → Int32 → Int32 → Int32 → Option (Int32 × tx_St)) (j56 : ∀ (σ : tx_St) (x1 : Int32) (x2 : Int32) (x3 : Int32) (x4 : Int32) (t : Int32 × tx_St), k56 σ x1 x2 x3 x4 = some t → gx l E mi_Rules_changesImmutable (some (.int t.1), t.2) σ [(0, .ref (E.1 20)), (1, .int x1), (2, .int x2), (3, .int x3), (4, .int x4)] 56 []) (σ : tx_St) (x1 : Int32) (x2 : Int32) (x3 : Int32) (x4 : Int32) (x5 : Int32) (t : Int32 × tx_St) (hT : fx_Rules_changesImmutable_b108 k56 σ x1 x2 x3 x4 x5 = some t) : gx l E mi_Rules_changesImmutable (some (.int t.1), t.2) σ [(0, .ref (E.1 20)), (1, .int x1), (2, .int x2), (3, .int x3), (4, .int x4), (5, .int x5)] 108 [] := by
  unfold fx_Rules_changesImmutable_b108 at hT
  refine gx_aload_n (pc := 108) 0 d_Rules_changesImmutable_108 rfl rfl ?_
  refine gx_getR (pc := 109) 1 fl_Rules_9 d_Rules_changesImmutable_109 (rfl) (by decide) rfl ?_
  refine gx_iload (pc := 112) 5 d_Rules_changesImmutable_112 rfl ?_
  obtain ⟨r20, σ19, cσ19, hT⟩ := tx_ci_some hT
  refine gx_callV (pc := 114) (As := [.int x5]) (rest := []) cm_Plan_isPowerless lk_Rules_60 (fx_Plan_isPowerless_c l E σ x5 _ cσ19) (rfl) (by decide) rfl rfl tx_fi_Rules_changesImmutable_Plan_isPowerless (Nat.le_of_ble_eq_true rfl) d_Rules_changesImmutable_114 ?_
  change gx l E mi_Rules_changesImmutable _ σ19 [(0, .ref (E.1 20)), (1, .int x1), (2, .int x2), (3, .int x3), (4, .int x4), (5, .int x5)] 117 [.int r20]
  refine gx_if_eq (pc := 117) 126 d_Rules_changesImmutable_117 rfl (fun h21 => ?_) (fun h21 => ?_)
  · have hT := tx_ifp h21 hT
    refine gx_sub [0, 1, 2, 3, 4] rfl ?_
    exact fx_Rules_changesImmutable_b126_w (k56) (j56) σ19 x1 x2 x3 x4 _ hT
  · have hT := tx_ifn h21 hT
    refine gx_iload_n (pc := 120) 3 d_Rules_changesImmutable_120 rfl rfl ?_
    refine gx_if_ne (pc := 121) 126 d_Rules_changesImmutable_121 rfl (fun h22 => ?_) (fun h22 => ?_)
    · have hT := tx_ifn h22 hT
      refine gx_sub [0, 1, 2, 3, 4] rfl ?_
      exact fx_Rules_changesImmutable_b126_w (k56) (j56) σ19 x1 x2 x3 x4 _ hT
    · have hT := tx_ifp h22 hT
      refine gx_iconst (pc := 124) (1 : Int32) d_Rules_changesImmutable_124 (by decide) ?_
      cases hT
      exact gx_zret (pc := 125) d_Rules_changesImmutable_125 rfl (by decide) rfl
set_option maxRecDepth 100000 in
set_option maxHeartbeats 4000000 in
theorem fx_Rules_changesImmutable_b56_w {l : Launch} {E : tx_E} : ∀ (n : Nat) (σ : tx_St) (x1 : Int32) (x2 : Int32) (x3 : Int32) (x4 : Int32) (t : Int32 × tx_St), fx_Rules_changesImmutable_b56 n σ x1 x2 x3 x4 = some t → gx l E mi_Rules_changesImmutable (some (.int t.1), t.2) σ [(0, .ref (E.1 20)), (1, .int x1), (2, .int x2), (3, .int x3), (4, .int x4)] 56 [] := by
  intro n
  induction n with
  | zero => intro σ x1 x2 x3 x4 t hT; cases hT
  | succ n ih =>
    intro σ x1 x2 x3 x4 t hT
    rw [fx_Rules_changesImmutable_b56] at hT
    refine gx_iload (pc := 56) 4 d_Rules_changesImmutable_56 rfl ?_
    refine gx_aload_n (pc := 58) 0 d_Rules_changesImmutable_58 rfl rfl ?_
    refine gx_getR (pc := 59) 1 fl_Rules_9 d_Rules_changesImmutable_59 (rfl) (by decide) rfl ?_
    refine gx_getI (pc := 62) (σ 1 0) fl_Rules_66 d_Rules_changesImmutable_62 (rfl) (by decide) rfl rfl ?_
    refine gx_icmp_ge (pc := 65) 132 d_Rules_changesImmutable_65 rfl (fun h11 => ?_) (fun h11 => ?_)
    · have hT := tx_ifp h11 hT
      refine gx_iconst (pc := 132) (0 : Int32) d_Rules_changesImmutable_132 (by decide) ?_
      cases hT
      exact gx_zret (pc := 133) d_Rules_changesImmutable_133 rfl (by decide) rfl
    · have hT := tx_ifn h11 hT
      refine gx_iconst (pc := 68) (2 : Int32) d_Rules_changesImmutable_68 (by decide) ?_
      refine gx_iload (pc := 69) 4 d_Rules_changesImmutable_69 rfl ?_
      refine gx_iadd (pc := 71) d_Rules_changesImmutable_71 ?_
      refine gx_istore (pc := 72) [(5, .int ((2 : Int32) + x4)), (0, .ref (E.1 20)), (1, .int x1), (2, .int x2), (3, .int x3), (4, .int x4)] d_Rules_changesImmutable_72 (Nat.le_of_ble_eq_true rfl) rfl ?_
      refine gx_aload_n (pc := 74) 1 d_Rules_changesImmutable_74 rfl rfl ?_
      refine gx_getR (pc := 75) 1 fl_Rules_9 d_Rules_changesImmutable_75 (rfl) (by decide) rfl ?_
      refine gx_iload (pc := 78) 5 d_Rules_changesImmutable_78 rfl ?_
      refine gx_iload_n (pc := 80) 2 d_Rules_changesImmutable_80 rfl rfl ?_
      obtain ⟨r13, σ12, cσ12, hT⟩ := tx_ci_some hT
      refine gx_callV (pc := 81) (As := [.int x4, .int x1]) (rest := []) cm_Plan_owns lk_Rules_69 (fx_Plan_owns_c l E σ x4 x1 _ cσ12) (rfl) (by decide) rfl rfl tx_fi_Rules_changesImmutable_Plan_owns (Nat.le_of_ble_eq_true rfl) d_Rules_changesImmutable_81 ?_
      change gx l E mi_Rules_changesImmutable _ σ12 [(5, .int ((2 : Int32) + x4)), (0, .ref (E.1 20)), (1, .int x1), (2, .int x2), (3, .int x3), (4, .int x4)] 84 [.int r13]
      refine gx_if_ne (pc := 84) 90 d_Rules_changesImmutable_84 rfl (fun h14 => ?_) (fun h14 => ?_)
      · have hT := tx_ifn h14 hT
        refine gx_aload_n (pc := 90) 1 d_Rules_changesImmutable_90 rfl rfl ?_
        refine gx_getR (pc := 91) 1 fl_Rules_9 d_Rules_changesImmutable_91 (rfl) (by decide) rfl ?_
        refine gx_iload (pc := 94) 0 d_Rules_changesImmutable_94 rfl ?_
        obtain ⟨r16, σ15, cσ15, hT⟩ := tx_ci_some hT
        refine gx_callV (pc := 96) (As := [.int ((2 : Int32) + x4)]) (rest := []) cm_Plan_isImmutable lk_Rules_63 (fx_Plan_isImmutable_c l E σ12 ((2 : Int32) + x4) _ cσ15) (rfl) (by decide) rfl rfl tx_fi_Rules_changesImmutable_Plan_isImmutable (Nat.le_of_ble_eq_true rfl) d_Rules_changesImmutable_96 ?_
        change gx l E mi_Rules_changesImmutable _ σ15 [(5, .int ((2 : Int32) + x4)), (0, .ref (E.1 20)), (1, .int x1), (2, .int x2), (3, .int x3), (4, .int x4)] 99 [.int r16]
        refine gx_if_eq (pc := 99) 108 d_Rules_changesImmutable_99 rfl (fun h17 => ?_) (fun h17 => ?_)
        · have hT := tx_ifp h17 hT
          refine gx_sub [1, 2, 3, 4, 5, 0] rfl ?_
          exact fx_Rules_changesImmutable_b108_w (fx_Rules_changesImmutable_b56 n) (ih) σ15 x1 x2 x3 x4 ((2 : Int32) + x4) _ hT
        · have hT := tx_ifn h17 hT
          refine gx_iload_n (pc := 102) 3 d_Rules_changesImmutable_102 rfl rfl ?_
          refine gx_if_ne (pc := 103) 108 d_Rules_changesImmutable_103 rfl (fun h18 => ?_) (fun h18 => ?_)
          · have hT := tx_ifn h18 hT
            refine gx_sub [1, 2, 3, 4, 5, 0] rfl ?_
            exact fx_Rules_changesImmutable_b108_w (fx_Rules_changesImmutable_b56 n) (ih) σ15 x1 x2 x3 x4 ((2 : Int32) + x4) _ hT
          · have hT := tx_ifp h18 hT
            refine gx_iconst (pc := 106) (1 : Int32) d_Rules_changesImmutable_106 (by decide) ?_
            cases hT
            exact gx_zret (pc := 107) d_Rules_changesImmutable_107 rfl (by decide) rfl
      · have hT := tx_ifp h14 hT
        refine gx_goto (pc := 87) 126 d_Rules_changesImmutable_87 rfl ?_
        refine gx_sub [1, 2, 3, 4, 5] rfl ?_
        exact fx_Rules_changesImmutable_b126_w (fx_Rules_changesImmutable_b56 n) (ih) σ12 x1 x2 x3 x4 _ hT
set_option maxRecDepth 100000 in
set_option maxHeartbeats 4000000 in
theorem fx_Rules_changesImmutable_b35_w {l : Launch} {E : tx_E} (σ : tx_St) (x1 : Int32) (s0 : Int32) (t : Int32 × tx_St) (hT : fx_Rules_changesImmutable_b35 σ x1 s0 = some t) : gx l E mi_Rules_changesImmutable (some (.int t.1), t.2) σ [(0, .ref (E.1 20)), (1, .int x1)] 35 [.int s0] := by
  unfold fx_Rules_changesImmutable_b35 at hT
  refine gx_istore_n (pc := 35) [(2, .int s0), (0, .ref (E.1 20)), (1, .int x1)] d_Rules_changesImmutable_35 rfl (Nat.le_of_ble_eq_true rfl) rfl ?_
  refine gx_aload_n (pc := 36) 1 d_Rules_changesImmutable_36 rfl rfl ?_
  refine gx_getR (pc := 37) 1 fl_Rules_9 d_Rules_changesImmutable_37 (rfl) (by decide) rfl ?_
  refine gx_aload_n (pc := 40) 1 d_Rules_changesImmutable_40 rfl rfl ?_
  refine gx_getR (pc := 41) 1 fl_Rules_9 d_Rules_changesImmutable_41 (rfl) (by decide) rfl ?_
  refine gx_getR (pc := 44) 6 fl_Rules_57 d_Rules_changesImmutable_44 (rfl) (by decide) rfl ?_
  refine gx_iload_n (pc := 47) 2 d_Rules_changesImmutable_47 rfl rfl ?_
  obtain ⟨v8, gv8, iv8, hT⟩ := tx_rd_some hT
  refine gx_iald (pc := 48) v8 d_Rules_changesImmutable_48 (rfl) iv8 gv8 ?_
  obtain ⟨r10, σ9, cσ9, hT⟩ := tx_ci_some hT
  refine gx_callV (pc := 49) (As := [.int v8]) (rest := []) cm_Plan_isPowerless lk_Rules_60 (fx_Plan_isPowerless_c l E σ v8 _ cσ9) (rfl) (by decide) rfl rfl tx_fi_Rules_changesImmutable_Plan_isPowerless (Nat.le_of_ble_eq_true rfl) d_Rules_changesImmutable_49 ?_
  change gx l E mi_Rules_changesImmutable _ σ9 [(2, .int s0), (0, .ref (E.1 20)), (1, .int x1)] 52 [.int r10]
  refine gx_istore_n (pc := 52) [(3, .int r10), (2, .int s0), (0, .ref (E.1 20)), (1, .int x1)] d_Rules_changesImmutable_52 rfl (Nat.le_of_ble_eq_true rfl) rfl ?_
  refine gx_iconst (pc := 53) (0 : Int32) d_Rules_changesImmutable_53 (by decide) ?_
  refine gx_istore (pc := 54) [(4, .int (0 : Int32)), (3, .int r10), (2, .int s0), (0, .ref (E.1 20)), (1, .int x1)] d_Rules_changesImmutable_54 (Nat.le_of_ble_eq_true rfl) rfl ?_
  refine gx_sub [3, 4, 2, 1, 0] rfl ?_
  exact fx_Rules_changesImmutable_b56_w  tx_fu σ9 x1 s0 r10 (0 : Int32) _ hT
set_option maxRecDepth 100000 in
set_option maxHeartbeats 4000000 in
theorem fx_Rules_changesImmutable_b34_w {l : Launch} {E : tx_E} (σ : tx_St) (x1 : Int32) (t : Int32 × tx_St) (hT : fx_Rules_changesImmutable_b34 σ x1 = some t) : gx l E mi_Rules_changesImmutable (some (.int t.1), t.2) σ [(0, .ref (E.1 20)), (1, .int x1)] 34 [] := by
  unfold fx_Rules_changesImmutable_b34 at hT
  refine gx_iconst (pc := 34) (0 : Int32) d_Rules_changesImmutable_34 (by decide) ?_
  exact fx_Rules_changesImmutable_b35_w  σ x1 (0 : Int32) _ hT
set_option maxRecDepth 100000 in
set_option maxHeartbeats 4000000 in
theorem fx_Rules_changesImmutable_c (l : Launch) (E : tx_E) (σ : tx_St) (x1 : Int32) (t : Int32 × tx_St) (hT : fx_Rules_changesImmutable σ x1 = some t) : tx_MX l E y_Rules_changesImmutable mi_Rules_changesImmutable (some (.int t.1), t.2) [.ref (E.1 20), .int x1] σ := by
  refine tx_MX_of (by decide) rfl (Nat.le_of_ble_eq_true rfl) ?_
  show gx l E mi_Rules_changesImmutable (some (.int t.1), t.2) σ [(0, .ref (E.1 20)), (1, .int x1)] 0 []
  unfold fx_Rules_changesImmutable at hT
  refine gx_aload_n (pc := 0) 0 d_Rules_changesImmutable_0 rfl rfl ?_
  refine gx_getR (pc := 1) 1 fl_Rules_9 d_Rules_changesImmutable_1 (rfl) (by decide) rfl ?_
  refine gx_iload_n (pc := 4) 1 d_Rules_changesImmutable_4 rfl rfl ?_
  obtain ⟨r2, σ1, cσ1, hT⟩ := tx_ci_some hT
  refine gx_callV (pc := 5) (As := [.int x1]) (rest := []) cm_Plan_isFinalField lk_Rules_54 (fx_Plan_isFinalField_c l E σ x1 _ cσ1) (rfl) (by decide) rfl rfl tx_fi_Rules_changesImmutable_Plan_isFinalField (Nat.le_of_ble_eq_true rfl) d_Rules_changesImmutable_5 ?_
  change gx l E mi_Rules_changesImmutable _ σ1 [(0, .ref (E.1 20)), (1, .int x1)] 8 [.int r2]
  refine gx_if_eq (pc := 8) 34 d_Rules_changesImmutable_8 rfl (fun h3 => ?_) (fun h3 => ?_)
  · have hT := tx_ifp h3 hT
    exact fx_Rules_changesImmutable_b34_w  σ1 x1 _ hT
  · have hT := tx_ifn h3 hT
    refine gx_aload_n (pc := 11) 0 d_Rules_changesImmutable_11 rfl rfl ?_
    refine gx_getR (pc := 12) 1 fl_Rules_9 d_Rules_changesImmutable_12 (rfl) (by decide) rfl ?_
    refine gx_aload_n (pc := 15) 0 d_Rules_changesImmutable_15 rfl rfl ?_
    refine gx_getR (pc := 16) 1 fl_Rules_9 d_Rules_changesImmutable_16 (rfl) (by decide) rfl ?_
    refine gx_getR (pc := 19) 6 fl_Rules_57 d_Rules_changesImmutable_19 (rfl) (by decide) rfl ?_
    refine gx_iload_n (pc := 22) 1 d_Rules_changesImmutable_22 rfl rfl ?_
    obtain ⟨v4, gv4, iv4, hT⟩ := tx_rd_some hT
    refine gx_iald (pc := 23) v4 d_Rules_changesImmutable_23 (rfl) iv4 gv4 ?_
    obtain ⟨r6, σ5, cσ5, hT⟩ := tx_ci_some hT
    refine gx_callV (pc := 24) (As := [.int v4]) (rest := []) cm_Plan_isImmutable lk_Rules_63 (fx_Plan_isImmutable_c l E σ1 v4 _ cσ5) (rfl) (by decide) rfl rfl tx_fi_Rules_changesImmutable_Plan_isImmutable (Nat.le_of_ble_eq_true rfl) d_Rules_changesImmutable_24 ?_
    change gx l E mi_Rules_changesImmutable _ σ5 [(0, .ref (E.1 20)), (1, .int x1)] 27 [.int r6]
    refine gx_if_eq (pc := 27) 34 d_Rules_changesImmutable_27 rfl (fun h7 => ?_) (fun h7 => ?_)
    · have hT := tx_ifp h7 hT
      exact fx_Rules_changesImmutable_b34_w  σ5 x1 _ hT
    · have hT := tx_ifn h7 hT
      refine gx_iconst (pc := 30) (1 : Int32) d_Rules_changesImmutable_30 (by decide) ?_
      refine gx_goto (pc := 31) 35 d_Rules_changesImmutable_31 rfl ?_
      exact fx_Rules_changesImmutable_b35_w  σ5 x1 (1 : Int32) _ hT
theorem d_Plan_isStaticMethod_0 : decode c_Plan_isStaticMethod 0 = .ok (.aload_n 0, 1) := by decide +kernel
theorem d_Plan_isStaticMethod_1 : decode c_Plan_isStaticMethod 1 = .ok (.getfield 30, 3) := by decide +kernel
theorem d_Plan_isStaticMethod_4 : decode c_Plan_isStaticMethod 4 = .ok (.iload_n 1, 1) := by decide +kernel
theorem d_Plan_isStaticMethod_5 : decode c_Plan_isStaticMethod 5 = .ok (.iaload, 1) := by decide +kernel
theorem d_Plan_isStaticMethod_6 : decode c_Plan_isStaticMethod 6 = .ok (.iconst (1), 1) := by decide +kernel
theorem d_Plan_isStaticMethod_7 : decode c_Plan_isStaticMethod 7 = .ok (.iand, 1) := by decide +kernel
theorem d_Plan_isStaticMethod_8 : decode c_Plan_isStaticMethod 8 = .ok (.ifCond .eq (7), 3) := by decide +kernel
theorem d_Plan_isStaticMethod_11 : decode c_Plan_isStaticMethod 11 = .ok (.iconst (1), 1) := by decide +kernel
theorem d_Plan_isStaticMethod_12 : decode c_Plan_isStaticMethod 12 = .ok (.goto (4), 3) := by decide +kernel
theorem d_Plan_isStaticMethod_15 : decode c_Plan_isStaticMethod 15 = .ok (.iconst (0), 1) := by decide +kernel
theorem d_Plan_isStaticMethod_16 : decode c_Plan_isStaticMethod 16 = .ok (.ireturn, 1) := by decide +kernel
def fx_Plan_isStaticMethod_b16 (σ : tx_St) (s0 : Int32) : Option (Int32 × tx_St) := tx_rz s0 σ
def fx_Plan_isStaticMethod (σ : tx_St) (x1 : Int32) : Option (Int32 × tx_St) := tx_rd σ 8 8 x1 fun v1 => (if (v1 &&& (1 : Int32)) = 0 then fx_Plan_isStaticMethod_b16  σ (0 : Int32) else fx_Plan_isStaticMethod_b16  σ (1 : Int32))
set_option maxRecDepth 100000 in
set_option maxHeartbeats 4000000 in
theorem fx_Plan_isStaticMethod_b16_w {l : Launch} {E : tx_E} (σ : tx_St) (s0 : Int32) (t : Int32 × tx_St) (hT : fx_Plan_isStaticMethod_b16 σ s0 = some t) : gx l E mi_Plan_isStaticMethod (some (.int t.1), t.2) σ [] 16 [.int s0] := by
  unfold fx_Plan_isStaticMethod_b16 at hT
  obtain ⟨hz, hT⟩ := tx_rz_some hT
  cases hT
  exact gx_zret (pc := 16) d_Plan_isStaticMethod_16 rfl hz rfl
set_option maxRecDepth 100000 in
set_option maxHeartbeats 4000000 in
theorem fx_Plan_isStaticMethod_c (l : Launch) (E : tx_E) (σ : tx_St) (x1 : Int32) (t : Int32 × tx_St) (hT : fx_Plan_isStaticMethod σ x1 = some t) : tx_MX l E y_Plan_isStaticMethod mi_Plan_isStaticMethod (some (.int t.1), t.2) [.ref (E.1 1), .int x1] σ := by
  refine tx_MX_of (by decide) rfl (Nat.le_of_ble_eq_true rfl) ?_
  show gx l E mi_Plan_isStaticMethod (some (.int t.1), t.2) σ [(0, .ref (E.1 1)), (1, .int x1)] 0 []
  unfold fx_Plan_isStaticMethod at hT
  refine gx_aload_n (pc := 0) 0 d_Plan_isStaticMethod_0 rfl rfl ?_
  refine gx_getR (pc := 1) 8 fl_Plan_30 d_Plan_isStaticMethod_1 (rfl) (by decide) rfl ?_
  refine gx_iload_n (pc := 4) 1 d_Plan_isStaticMethod_4 rfl rfl ?_
  obtain ⟨v1, gv1, iv1, hT⟩ := tx_rd_some hT
  refine gx_iald (pc := 5) v1 d_Plan_isStaticMethod_5 (rfl) iv1 gv1 ?_
  refine gx_iconst (pc := 6) (1 : Int32) d_Plan_isStaticMethod_6 (by decide) ?_
  refine gx_iand (pc := 7) d_Plan_isStaticMethod_7 ?_
  refine gx_if_eq (pc := 8) 15 d_Plan_isStaticMethod_8 rfl (fun h2 => ?_) (fun h2 => ?_)
  · have hT := tx_ifp h2 hT
    refine gx_iconst (pc := 15) (0 : Int32) d_Plan_isStaticMethod_15 (by decide) ?_
    refine gx_sub [] rfl ?_
    exact fx_Plan_isStaticMethod_b16_w  σ (0 : Int32) _ hT
  · have hT := tx_ifn h2 hT
    refine gx_iconst (pc := 11) (1 : Int32) d_Plan_isStaticMethod_11 (by decide) ?_
    refine gx_goto (pc := 12) 16 d_Plan_isStaticMethod_12 rfl ?_
    refine gx_sub [] rfl ?_
    exact fx_Plan_isStaticMethod_b16_w  σ (1 : Int32) _ hT
theorem d_Rules_agree_0 : decode c_Rules_agree 0 = .ok (.aload_n 0, 1) := by decide +kernel
theorem d_Rules_agree_1 : decode c_Rules_agree 1 = .ok (.getfield 9, 3) := by decide +kernel
theorem d_Rules_agree_4 : decode c_Rules_agree 4 = .ok (.iload_n 1, 1) := by decide +kernel
theorem d_Rules_agree_5 : decode c_Rules_agree 5 = .ok (.invokevirtual 85, 3) := by decide +kernel
theorem d_Rules_agree_8 : decode c_Rules_agree 8 = .ok (.ifCond .ne (14), 3) := by decide +kernel
theorem d_Rules_agree_11 : decode c_Rules_agree 11 = .ok (.aload_n 0, 1) := by decide +kernel
theorem d_Rules_agree_12 : decode c_Rules_agree 12 = .ok (.getfield 9, 3) := by decide +kernel
theorem d_Rules_agree_15 : decode c_Rules_agree 15 = .ok (.iload_n 2, 1) := by decide +kernel
theorem d_Rules_agree_16 : decode c_Rules_agree 16 = .ok (.invokevirtual 85, 3) := by decide +kernel
theorem d_Rules_agree_19 : decode c_Rules_agree 19 = .ok (.ifCond .eq (5), 3) := by decide +kernel
theorem d_Rules_agree_22 : decode c_Rules_agree 22 = .ok (.iconst (0), 1) := by decide +kernel
theorem d_Rules_agree_23 : decode c_Rules_agree 23 = .ok (.ireturn, 1) := by decide +kernel
theorem d_Rules_agree_24 : decode c_Rules_agree 24 = .ok (.aload_n 0, 1) := by decide +kernel
theorem d_Rules_agree_25 : decode c_Rules_agree 25 = .ok (.getfield 9, 3) := by decide +kernel
theorem d_Rules_agree_28 : decode c_Rules_agree 28 = .ok (.getfield 88, 3) := by decide +kernel
theorem d_Rules_agree_31 : decode c_Rules_agree 31 = .ok (.iload_n 1, 1) := by decide +kernel
theorem d_Rules_agree_32 : decode c_Rules_agree 32 = .ok (.iaload, 1) := by decide +kernel
theorem d_Rules_agree_33 : decode c_Rules_agree 33 = .ok (.aload_n 0, 1) := by decide +kernel
theorem d_Rules_agree_34 : decode c_Rules_agree 34 = .ok (.getfield 9, 3) := by decide +kernel
theorem d_Rules_agree_37 : decode c_Rules_agree 37 = .ok (.getfield 88, 3) := by decide +kernel
theorem d_Rules_agree_40 : decode c_Rules_agree 40 = .ok (.iload_n 2, 1) := by decide +kernel
theorem d_Rules_agree_41 : decode c_Rules_agree 41 = .ok (.iaload, 1) := by decide +kernel
theorem d_Rules_agree_42 : decode c_Rules_agree 42 = .ok (.if_icmp .ne (28), 3) := by decide +kernel
theorem d_Rules_agree_45 : decode c_Rules_agree 45 = .ok (.aload_n 0, 1) := by decide +kernel
theorem d_Rules_agree_46 : decode c_Rules_agree 46 = .ok (.getfield 9, 3) := by decide +kernel
theorem d_Rules_agree_49 : decode c_Rules_agree 49 = .ok (.getfield 91, 3) := by decide +kernel
theorem d_Rules_agree_52 : decode c_Rules_agree 52 = .ok (.iload_n 1, 1) := by decide +kernel
theorem d_Rules_agree_53 : decode c_Rules_agree 53 = .ok (.iaload, 1) := by decide +kernel
theorem d_Rules_agree_54 : decode c_Rules_agree 54 = .ok (.aload_n 0, 1) := by decide +kernel
theorem d_Rules_agree_55 : decode c_Rules_agree 55 = .ok (.getfield 9, 3) := by decide +kernel
theorem d_Rules_agree_58 : decode c_Rules_agree 58 = .ok (.getfield 91, 3) := by decide +kernel
theorem d_Rules_agree_61 : decode c_Rules_agree 61 = .ok (.iload_n 2, 1) := by decide +kernel
theorem d_Rules_agree_62 : decode c_Rules_agree 62 = .ok (.iaload, 1) := by decide +kernel
theorem d_Rules_agree_63 : decode c_Rules_agree 63 = .ok (.if_icmp .ne (7), 3) := by decide +kernel
theorem d_Rules_agree_66 : decode c_Rules_agree 66 = .ok (.iconst (1), 1) := by decide +kernel
theorem d_Rules_agree_67 : decode c_Rules_agree 67 = .ok (.goto (4), 3) := by decide +kernel
theorem d_Rules_agree_70 : decode c_Rules_agree 70 = .ok (.iconst (0), 1) := by decide +kernel
theorem d_Rules_agree_71 : decode c_Rules_agree 71 = .ok (.ireturn, 1) := by decide +kernel
def fx_Rules_agree_b22 (σ : tx_St) : Option (Int32 × tx_St) := some ((0 : Int32), σ)
def fx_Rules_agree_b71 (σ : tx_St) (s0 : Int32) : Option (Int32 × tx_St) := tx_rz s0 σ
def fx_Rules_agree_b70 (σ : tx_St) : Option (Int32 × tx_St) := fx_Rules_agree_b71  σ (0 : Int32)
def fx_Rules_agree (σ : tx_St) (x1 : Int32) (x2 : Int32) : Option (Int32 × tx_St) := tx_ci (fx_Plan_isStaticMethod σ x1) fun r2 σ1 => (if r2 = 0 then tx_ci (fx_Plan_isStaticMethod σ1 x2) fun r5 σ4 => (if r5 = 0 then tx_rd σ4 10 8 x1 fun v7 => tx_rd σ4 10 8 x2 fun v8 => (if v7 = v8 then tx_rd σ4 11 8 x1 fun v10 => tx_rd σ4 11 8 x2 fun v11 => (if v10 = v11 then fx_Rules_agree_b71  σ4 (1 : Int32) else fx_Rules_agree_b70  σ4) else fx_Rules_agree_b70  σ4) else fx_Rules_agree_b22  σ4) else fx_Rules_agree_b22  σ1)
set_option maxRecDepth 100000 in
set_option maxHeartbeats 4000000 in
theorem fx_Rules_agree_b22_w {l : Launch} {E : tx_E} (σ : tx_St) (t : Int32 × tx_St) (hT : fx_Rules_agree_b22 σ  = some t) : gx l E mi_Rules_agree (some (.int t.1), t.2) σ [] 22 [] := by
  unfold fx_Rules_agree_b22 at hT
  refine gx_iconst (pc := 22) (0 : Int32) d_Rules_agree_22 (by decide) ?_
  cases hT
  exact gx_zret (pc := 23) d_Rules_agree_23 rfl (by decide) rfl
set_option maxRecDepth 100000 in
set_option maxHeartbeats 4000000 in
theorem fx_Rules_agree_b71_w {l : Launch} {E : tx_E} (σ : tx_St) (s0 : Int32) (t : Int32 × tx_St) (hT : fx_Rules_agree_b71 σ s0 = some t) : gx l E mi_Rules_agree (some (.int t.1), t.2) σ [] 71 [.int s0] := by
  unfold fx_Rules_agree_b71 at hT
  obtain ⟨hz, hT⟩ := tx_rz_some hT
  cases hT
  exact gx_zret (pc := 71) d_Rules_agree_71 rfl hz rfl
set_option maxRecDepth 100000 in
set_option maxHeartbeats 4000000 in
theorem fx_Rules_agree_b70_w {l : Launch} {E : tx_E} (σ : tx_St) (t : Int32 × tx_St) (hT : fx_Rules_agree_b70 σ  = some t) : gx l E mi_Rules_agree (some (.int t.1), t.2) σ [] 70 [] := by
  unfold fx_Rules_agree_b70 at hT
  refine gx_iconst (pc := 70) (0 : Int32) d_Rules_agree_70 (by decide) ?_
  exact fx_Rules_agree_b71_w  σ (0 : Int32) _ hT
set_option maxRecDepth 100000 in
set_option maxHeartbeats 4000000 in
theorem fx_Rules_agree_c (l : Launch) (E : tx_E) (σ : tx_St) (x1 : Int32) (x2 : Int32) (t : Int32 × tx_St) (hT : fx_Rules_agree σ x1 x2 = some t) : tx_MX l E y_Rules_agree mi_Rules_agree (some (.int t.1), t.2) [.ref (E.1 20), .int x1, .int x2] σ := by
  refine tx_MX_of (by decide) rfl (Nat.le_of_ble_eq_true rfl) ?_
  show gx l E mi_Rules_agree (some (.int t.1), t.2) σ [(0, .ref (E.1 20)), (1, .int x1), (2, .int x2)] 0 []
  unfold fx_Rules_agree at hT
  refine gx_aload_n (pc := 0) 0 d_Rules_agree_0 rfl rfl ?_
  refine gx_getR (pc := 1) 1 fl_Rules_9 d_Rules_agree_1 (rfl) (by decide) rfl ?_
  refine gx_iload_n (pc := 4) 1 d_Rules_agree_4 rfl rfl ?_
  obtain ⟨r2, σ1, cσ1, hT⟩ := tx_ci_some hT
  refine gx_callV (pc := 5) (As := [.int x1]) (rest := []) cm_Plan_isStaticMethod lk_Rules_85 (fx_Plan_isStaticMethod_c l E σ x1 _ cσ1) (rfl) (by decide) rfl rfl tx_fi_Rules_agree_Plan_isStaticMethod (Nat.le_of_ble_eq_true rfl) d_Rules_agree_5 ?_
  change gx l E mi_Rules_agree _ σ1 [(0, .ref (E.1 20)), (1, .int x1), (2, .int x2)] 8 [.int r2]
  refine gx_if_ne (pc := 8) 22 d_Rules_agree_8 rfl (fun h3 => ?_) (fun h3 => ?_)
  · have hT := tx_ifn h3 hT
    refine gx_sub [] rfl ?_
    exact fx_Rules_agree_b22_w  σ1 _ hT
  · have hT := tx_ifp h3 hT
    refine gx_aload_n (pc := 11) 0 d_Rules_agree_11 rfl rfl ?_
    refine gx_getR (pc := 12) 1 fl_Rules_9 d_Rules_agree_12 (rfl) (by decide) rfl ?_
    refine gx_iload_n (pc := 15) 2 d_Rules_agree_15 rfl rfl ?_
    obtain ⟨r5, σ4, cσ4, hT⟩ := tx_ci_some hT
    refine gx_callV (pc := 16) (As := [.int x2]) (rest := []) cm_Plan_isStaticMethod lk_Rules_85 (fx_Plan_isStaticMethod_c l E σ1 x2 _ cσ4) (rfl) (by decide) rfl rfl tx_fi_Rules_agree_Plan_isStaticMethod (Nat.le_of_ble_eq_true rfl) d_Rules_agree_16 ?_
    change gx l E mi_Rules_agree _ σ4 [(0, .ref (E.1 20)), (1, .int x1), (2, .int x2)] 19 [.int r5]
    refine gx_if_eq (pc := 19) 24 d_Rules_agree_19 rfl (fun h6 => ?_) (fun h6 => ?_)
    · have hT := tx_ifp h6 hT
      refine gx_aload_n (pc := 24) 0 d_Rules_agree_24 rfl rfl ?_
      refine gx_getR (pc := 25) 1 fl_Rules_9 d_Rules_agree_25 (rfl) (by decide) rfl ?_
      refine gx_getR (pc := 28) 10 fl_Rules_88 d_Rules_agree_28 (rfl) (by decide) rfl ?_
      refine gx_iload_n (pc := 31) 1 d_Rules_agree_31 rfl rfl ?_
      obtain ⟨v7, gv7, iv7, hT⟩ := tx_rd_some hT
      refine gx_iald (pc := 32) v7 d_Rules_agree_32 (rfl) iv7 gv7 ?_
      refine gx_aload_n (pc := 33) 0 d_Rules_agree_33 rfl rfl ?_
      refine gx_getR (pc := 34) 1 fl_Rules_9 d_Rules_agree_34 (rfl) (by decide) rfl ?_
      refine gx_getR (pc := 37) 10 fl_Rules_88 d_Rules_agree_37 (rfl) (by decide) rfl ?_
      refine gx_iload_n (pc := 40) 2 d_Rules_agree_40 rfl rfl ?_
      obtain ⟨v8, gv8, iv8, hT⟩ := tx_rd_some hT
      refine gx_iald (pc := 41) v8 d_Rules_agree_41 (rfl) iv8 gv8 ?_
      refine gx_icmp_ne (pc := 42) 70 d_Rules_agree_42 rfl (fun h9 => ?_) (fun h9 => ?_)
      · have hT := tx_ifn h9 hT
        refine gx_sub [] rfl ?_
        exact fx_Rules_agree_b70_w  σ4 _ hT
      · have hT := tx_ifp h9 hT
        refine gx_aload_n (pc := 45) 0 d_Rules_agree_45 rfl rfl ?_
        refine gx_getR (pc := 46) 1 fl_Rules_9 d_Rules_agree_46 (rfl) (by decide) rfl ?_
        refine gx_getR (pc := 49) 11 fl_Rules_91 d_Rules_agree_49 (rfl) (by decide) rfl ?_
        refine gx_iload_n (pc := 52) 1 d_Rules_agree_52 rfl rfl ?_
        obtain ⟨v10, gv10, iv10, hT⟩ := tx_rd_some hT
        refine gx_iald (pc := 53) v10 d_Rules_agree_53 (rfl) iv10 gv10 ?_
        refine gx_aload_n (pc := 54) 0 d_Rules_agree_54 rfl rfl ?_
        refine gx_getR (pc := 55) 1 fl_Rules_9 d_Rules_agree_55 (rfl) (by decide) rfl ?_
        refine gx_getR (pc := 58) 11 fl_Rules_91 d_Rules_agree_58 (rfl) (by decide) rfl ?_
        refine gx_iload_n (pc := 61) 2 d_Rules_agree_61 rfl rfl ?_
        obtain ⟨v11, gv11, iv11, hT⟩ := tx_rd_some hT
        refine gx_iald (pc := 62) v11 d_Rules_agree_62 (rfl) iv11 gv11 ?_
        refine gx_icmp_ne (pc := 63) 70 d_Rules_agree_63 rfl (fun h12 => ?_) (fun h12 => ?_)
        · have hT := tx_ifn h12 hT
          refine gx_sub [] rfl ?_
          exact fx_Rules_agree_b70_w  σ4 _ hT
        · have hT := tx_ifp h12 hT
          refine gx_iconst (pc := 66) (1 : Int32) d_Rules_agree_66 (by decide) ?_
          refine gx_goto (pc := 67) 71 d_Rules_agree_67 rfl ?_
          refine gx_sub [] rfl ?_
          exact fx_Rules_agree_b71_w  σ4 (1 : Int32) _ hT
    · have hT := tx_ifn h6 hT
      refine gx_sub [] rfl ?_
      exact fx_Rules_agree_b22_w  σ4 _ hT
theorem d_Rules_overridesBadly_0 : decode c_Rules_overridesBadly 0 = .ok (.aload_n 0, 1) := by decide +kernel
theorem d_Rules_overridesBadly_1 : decode c_Rules_overridesBadly 1 = .ok (.getfield 9, 3) := by decide +kernel
theorem d_Rules_overridesBadly_4 : decode c_Rules_overridesBadly 4 = .ok (.getfield 73, 3) := by decide +kernel
theorem d_Rules_overridesBadly_7 : decode c_Rules_overridesBadly 7 = .ok (.iload_n 1, 1) := by decide +kernel
theorem d_Rules_overridesBadly_8 : decode c_Rules_overridesBadly 8 = .ok (.iaload, 1) := by decide +kernel
theorem d_Rules_overridesBadly_9 : decode c_Rules_overridesBadly 9 = .ok (.istore_n 2, 1) := by decide +kernel
theorem d_Rules_overridesBadly_10 : decode c_Rules_overridesBadly 10 = .ok (.iconst (0), 1) := by decide +kernel
theorem d_Rules_overridesBadly_11 : decode c_Rules_overridesBadly 11 = .ok (.istore_n 3, 1) := by decide +kernel
theorem d_Rules_overridesBadly_12 : decode c_Rules_overridesBadly 12 = .ok (.iload_n 3, 1) := by decide +kernel
theorem d_Rules_overridesBadly_13 : decode c_Rules_overridesBadly 13 = .ok (.aload_n 0, 1) := by decide +kernel
theorem d_Rules_overridesBadly_14 : decode c_Rules_overridesBadly 14 = .ok (.getfield 9, 3) := by decide +kernel
theorem d_Rules_overridesBadly_17 : decode c_Rules_overridesBadly 17 = .ok (.getfield 32, 3) := by decide +kernel
theorem d_Rules_overridesBadly_20 : decode c_Rules_overridesBadly 20 = .ok (.if_icmp .ge (83), 3) := by decide +kernel
theorem d_Rules_overridesBadly_23 : decode c_Rules_overridesBadly 23 = .ok (.aload_n 0, 1) := by decide +kernel
theorem d_Rules_overridesBadly_24 : decode c_Rules_overridesBadly 24 = .ok (.getfield 9, 3) := by decide +kernel
theorem d_Rules_overridesBadly_27 : decode c_Rules_overridesBadly 27 = .ok (.getfield 73, 3) := by decide +kernel
theorem d_Rules_overridesBadly_30 : decode c_Rules_overridesBadly 30 = .ok (.iload_n 3, 1) := by decide +kernel
theorem d_Rules_overridesBadly_31 : decode c_Rules_overridesBadly 31 = .ok (.iaload, 1) := by decide +kernel
theorem d_Rules_overridesBadly_32 : decode c_Rules_overridesBadly 32 = .ok (.istore 4, 2) := by decide +kernel
theorem d_Rules_overridesBadly_34 : decode c_Rules_overridesBadly 34 = .ok (.iload 4, 2) := by decide +kernel
theorem d_Rules_overridesBadly_36 : decode c_Rules_overridesBadly 36 = .ok (.iload_n 2, 1) := by decide +kernel
theorem d_Rules_overridesBadly_37 : decode c_Rules_overridesBadly 37 = .ok (.if_icmp .eq (41), 3) := by decide +kernel
theorem d_Rules_overridesBadly_40 : decode c_Rules_overridesBadly 40 = .ok (.aload_n 0, 1) := by decide +kernel
theorem d_Rules_overridesBadly_41 : decode c_Rules_overridesBadly 41 = .ok (.getfield 9, 3) := by decide +kernel
theorem d_Rules_overridesBadly_44 : decode c_Rules_overridesBadly 44 = .ok (.iload_n 2, 1) := by decide +kernel
theorem d_Rules_overridesBadly_45 : decode c_Rules_overridesBadly 45 = .ok (.iload 4, 2) := by decide +kernel
theorem d_Rules_overridesBadly_47 : decode c_Rules_overridesBadly 47 = .ok (.invokevirtual 76, 3) := by decide +kernel
theorem d_Rules_overridesBadly_50 : decode c_Rules_overridesBadly 50 = .ok (.ifCond .eq (28), 3) := by decide +kernel
theorem d_Rules_overridesBadly_53 : decode c_Rules_overridesBadly 53 = .ok (.aload_n 0, 1) := by decide +kernel
theorem d_Rules_overridesBadly_54 : decode c_Rules_overridesBadly 54 = .ok (.getfield 9, 3) := by decide +kernel
theorem d_Rules_overridesBadly_57 : decode c_Rules_overridesBadly 57 = .ok (.getfield 79, 3) := by decide +kernel
theorem d_Rules_overridesBadly_60 : decode c_Rules_overridesBadly 60 = .ok (.iload_n 3, 1) := by decide +kernel
theorem d_Rules_overridesBadly_61 : decode c_Rules_overridesBadly 61 = .ok (.iaload, 1) := by decide +kernel
theorem d_Rules_overridesBadly_62 : decode c_Rules_overridesBadly 62 = .ok (.aload_n 0, 1) := by decide +kernel
theorem d_Rules_overridesBadly_63 : decode c_Rules_overridesBadly 63 = .ok (.getfield 9, 3) := by decide +kernel
theorem d_Rules_overridesBadly_66 : decode c_Rules_overridesBadly 66 = .ok (.getfield 79, 3) := by decide +kernel
theorem d_Rules_overridesBadly_69 : decode c_Rules_overridesBadly 69 = .ok (.iload_n 1, 1) := by decide +kernel
theorem d_Rules_overridesBadly_70 : decode c_Rules_overridesBadly 70 = .ok (.iaload, 1) := by decide +kernel
theorem d_Rules_overridesBadly_71 : decode c_Rules_overridesBadly 71 = .ok (.if_icmp .ne (7), 3) := by decide +kernel
theorem d_Rules_overridesBadly_74 : decode c_Rules_overridesBadly 74 = .ok (.iconst (1), 1) := by decide +kernel
theorem d_Rules_overridesBadly_75 : decode c_Rules_overridesBadly 75 = .ok (.goto (4), 3) := by decide +kernel
theorem d_Rules_overridesBadly_78 : decode c_Rules_overridesBadly 78 = .ok (.iconst (0), 1) := by decide +kernel
theorem d_Rules_overridesBadly_79 : decode c_Rules_overridesBadly 79 = .ok (.istore 5, 2) := by decide +kernel
theorem d_Rules_overridesBadly_81 : decode c_Rules_overridesBadly 81 = .ok (.iload 5, 2) := by decide +kernel
theorem d_Rules_overridesBadly_83 : decode c_Rules_overridesBadly 83 = .ok (.ifCond .eq (14), 3) := by decide +kernel
theorem d_Rules_overridesBadly_86 : decode c_Rules_overridesBadly 86 = .ok (.aload_n 0, 1) := by decide +kernel
theorem d_Rules_overridesBadly_87 : decode c_Rules_overridesBadly 87 = .ok (.iload_n 1, 1) := by decide +kernel
theorem d_Rules_overridesBadly_88 : decode c_Rules_overridesBadly 88 = .ok (.iload_n 3, 1) := by decide +kernel
theorem d_Rules_overridesBadly_89 : decode c_Rules_overridesBadly 89 = .ok (.invokevirtual 82, 3) := by decide +kernel
theorem d_Rules_overridesBadly_92 : decode c_Rules_overridesBadly 92 = .ok (.ifCond .ne (5), 3) := by decide +kernel
theorem d_Rules_overridesBadly_95 : decode c_Rules_overridesBadly 95 = .ok (.iconst (1), 1) := by decide +kernel
theorem d_Rules_overridesBadly_96 : decode c_Rules_overridesBadly 96 = .ok (.ireturn, 1) := by decide +kernel
theorem d_Rules_overridesBadly_97 : decode c_Rules_overridesBadly 97 = .ok (.iinc 3 (1), 3) := by decide +kernel
theorem d_Rules_overridesBadly_100 : decode c_Rules_overridesBadly 100 = .ok (.goto (-88), 3) := by decide +kernel
theorem d_Rules_overridesBadly_103 : decode c_Rules_overridesBadly 103 = .ok (.iconst (0), 1) := by decide +kernel
theorem d_Rules_overridesBadly_104 : decode c_Rules_overridesBadly 104 = .ok (.ireturn, 1) := by decide +kernel
def fx_Rules_overridesBadly_b97 (k12 : tx_St → Int32 → Int32 → Int32 → Option (Int32 × tx_St)) (σ : tx_St) (x1 : Int32) (x2 : Int32) (x3 : Int32) : Option (Int32 × tx_St) := k12 σ x1 x2 (x3 + (1 : Int32))
def fx_Rules_overridesBadly_b79 (k12 : tx_St → Int32 → Int32 → Int32 → Option (Int32 × tx_St)) (σ : tx_St) (x1 : Int32) (x2 : Int32) (x3 : Int32) (s0 : Int32) : Option (Int32 × tx_St) := (if s0 = 0 then fx_Rules_overridesBadly_b97 (k12) σ x1 x2 x3 else tx_ci (fx_Rules_agree σ x1 x3) fun r13 σ12 => (if r13 = 0 then some ((1 : Int32), σ12) else fx_Rules_overridesBadly_b97 (k12) σ12 x1 x2 x3))
def fx_Rules_overridesBadly_b78 (k12 : tx_St → Int32 → Int32 → Int32 → Option (Int32 × tx_St)) (σ : tx_St) (x1 : Int32) (x2 : Int32) (x3 : Int32) : Option (Int32 × tx_St) := fx_Rules_overridesBadly_b79 (k12) σ x1 x2 x3 (0 : Int32)
def fx_Rules_overridesBadly_b12 : Nat → tx_St → Int32 → Int32 → Int32 → Option (Int32 × tx_St)
  | 0, _, _, _, _ => none
  | n + 1, σ, x1, x2, x3 => (if (σ 1 2) ≤ x3 then some ((0 : Int32), σ) else tx_rd σ 7 8 x3 fun v3 => (if v3 = x2 then fx_Rules_overridesBadly_b78 (fx_Rules_overridesBadly_b12 n) σ x1 x2 x3 else tx_ci (fx_Plan_isUnder σ x2 v3) fun r6 σ5 => (if r6 = 0 then fx_Rules_overridesBadly_b78 (fx_Rules_overridesBadly_b12 n) σ5 x1 x2 x3 else tx_rd σ5 9 8 x3 fun v8 => tx_rd σ5 9 8 x1 fun v9 => (if v8 = v9 then fx_Rules_overridesBadly_b79 (fx_Rules_overridesBadly_b12 n) σ5 x1 x2 x3 (1 : Int32) else fx_Rules_overridesBadly_b78 (fx_Rules_overridesBadly_b12 n) σ5 x1 x2 x3))))
def fx_Rules_overridesBadly (σ : tx_St) (x1 : Int32) : Option (Int32 × tx_St) := tx_rd σ 7 8 x1 fun v1 => fx_Rules_overridesBadly_b12  tx_fu σ x1 v1 (0 : Int32)
set_option maxRecDepth 100000 in
set_option maxHeartbeats 4000000 in
theorem fx_Rules_overridesBadly_b97_w {l : Launch} {E : tx_E} (k12 : tx_St → Int32 → Int32 → Int32 → Option (Int32 × tx_St)) (j12 : ∀ (σ : tx_St) (x1 : Int32) (x2 : Int32) (x3 : Int32) (t : Int32 × tx_St), k12 σ x1 x2 x3 = some t → gx l E mi_Rules_overridesBadly (some (.int t.1), t.2) σ [(0, .ref (E.1 20)), (1, .int x1), (2, .int x2), (3, .int x3)] 12 []) (σ : tx_St) (x1 : Int32) (x2 : Int32) (x3 : Int32) (t : Int32 × tx_St) (hT : fx_Rules_overridesBadly_b97 k12 σ x1 x2 x3 = some t) : gx l E mi_Rules_overridesBadly (some (.int t.1), t.2) σ [(0, .ref (E.1 20)), (1, .int x1), (2, .int x2), (3, .int x3)] 97 [] := by
  unfold fx_Rules_overridesBadly_b97 at hT
  refine gx_iinc (pc := 97) (x3 + (1 : Int32)) 3 [(3, .int (x3 + (1 : Int32))), (0, .ref (E.1 20)), (1, .int x1), (2, .int x2)] d_Rules_overridesBadly_97 rfl (tx_inc (by decide)) (Nat.le_of_ble_eq_true rfl) rfl ?_
  refine gx_goto (pc := 100) 12 d_Rules_overridesBadly_100 rfl ?_
  refine gx_sub [1, 2, 3, 0] rfl ?_
  exact j12 σ x1 x2 (x3 + (1 : Int32)) _ hT
set_option maxRecDepth 100000 in
set_option maxHeartbeats 4000000 in
theorem fx_Rules_overridesBadly_b79_w {l : Launch} {E : tx_E} (k12 : tx_St → Int32 → Int32 → Int32 → Option (Int32 × tx_St)) (j12 : ∀ (σ : tx_St) (x1 : Int32) (x2 : Int32) (x3 : Int32) (t : Int32 × tx_St), k12 σ x1 x2 x3 = some t → gx l E mi_Rules_overridesBadly (some (.int t.1), t.2) σ [(0, .ref (E.1 20)), (1, .int x1), (2, .int x2), (3, .int x3)] 12 []) (σ : tx_St) (x1 : Int32) (x2 : Int32) (x3 : Int32) (s0 : Int32) (t : Int32 × tx_St) (hT : fx_Rules_overridesBadly_b79 k12 σ x1 x2 x3 s0 = some t) : gx l E mi_Rules_overridesBadly (some (.int t.1), t.2) σ [(0, .ref (E.1 20)), (1, .int x1), (2, .int x2), (3, .int x3)] 79 [.int s0] := by
  unfold fx_Rules_overridesBadly_b79 at hT
  refine gx_istore (pc := 79) [(5, .int s0), (0, .ref (E.1 20)), (1, .int x1), (2, .int x2), (3, .int x3)] d_Rules_overridesBadly_79 (Nat.le_of_ble_eq_true rfl) rfl ?_
  refine gx_iload (pc := 81) 0 d_Rules_overridesBadly_81 rfl ?_
  refine gx_if_eq (pc := 83) 97 d_Rules_overridesBadly_83 rfl (fun h11 => ?_) (fun h11 => ?_)
  · have hT := tx_ifp h11 hT
    refine gx_sub [1, 2, 3, 4] rfl ?_
    exact fx_Rules_overridesBadly_b97_w (k12) (j12) σ x1 x2 x3 _ hT
  · have hT := tx_ifn h11 hT
    refine gx_aload_n (pc := 86) 1 d_Rules_overridesBadly_86 rfl rfl ?_
    refine gx_iload_n (pc := 87) 2 d_Rules_overridesBadly_87 rfl rfl ?_
    refine gx_iload_n (pc := 88) 4 d_Rules_overridesBadly_88 rfl rfl ?_
    obtain ⟨r13, σ12, cσ12, hT⟩ := tx_ci_some hT
    refine gx_callV (pc := 89) (As := [.int x1, .int x3]) (rest := []) cm_Rules_agree lk_Rules_82 (fx_Rules_agree_c l E σ x1 x3 _ cσ12) (rfl) (by decide) rfl rfl tx_fi_Rules_overridesBadly_Rules_agree (Nat.le_of_ble_eq_true rfl) d_Rules_overridesBadly_89 ?_
    change gx l E mi_Rules_overridesBadly _ σ12 [(5, .int s0), (0, .ref (E.1 20)), (1, .int x1), (2, .int x2), (3, .int x3)] 92 [.int r13]
    refine gx_if_ne (pc := 92) 97 d_Rules_overridesBadly_92 rfl (fun h14 => ?_) (fun h14 => ?_)
    · have hT := tx_ifn h14 hT
      refine gx_sub [1, 2, 3, 4] rfl ?_
      exact fx_Rules_overridesBadly_b97_w (k12) (j12) σ12 x1 x2 x3 _ hT
    · have hT := tx_ifp h14 hT
      refine gx_iconst (pc := 95) (1 : Int32) d_Rules_overridesBadly_95 (by decide) ?_
      cases hT
      exact gx_zret (pc := 96) d_Rules_overridesBadly_96 rfl (by decide) rfl
set_option maxRecDepth 100000 in
set_option maxHeartbeats 4000000 in
theorem fx_Rules_overridesBadly_b78_w {l : Launch} {E : tx_E} (k12 : tx_St → Int32 → Int32 → Int32 → Option (Int32 × tx_St)) (j12 : ∀ (σ : tx_St) (x1 : Int32) (x2 : Int32) (x3 : Int32) (t : Int32 × tx_St), k12 σ x1 x2 x3 = some t → gx l E mi_Rules_overridesBadly (some (.int t.1), t.2) σ [(0, .ref (E.1 20)), (1, .int x1), (2, .int x2), (3, .int x3)] 12 []) (σ : tx_St) (x1 : Int32) (x2 : Int32) (x3 : Int32) (t : Int32 × tx_St) (hT : fx_Rules_overridesBadly_b78 k12 σ x1 x2 x3 = some t) : gx l E mi_Rules_overridesBadly (some (.int t.1), t.2) σ [(0, .ref (E.1 20)), (1, .int x1), (2, .int x2), (3, .int x3)] 78 [] := by
  unfold fx_Rules_overridesBadly_b78 at hT
  refine gx_iconst (pc := 78) (0 : Int32) d_Rules_overridesBadly_78 (by decide) ?_
  exact fx_Rules_overridesBadly_b79_w (k12) (j12) σ x1 x2 x3 (0 : Int32) _ hT
set_option maxRecDepth 100000 in
set_option maxHeartbeats 4000000 in
theorem fx_Rules_overridesBadly_b12_w {l : Launch} {E : tx_E} : ∀ (n : Nat) (σ : tx_St) (x1 : Int32) (x2 : Int32) (x3 : Int32) (t : Int32 × tx_St), fx_Rules_overridesBadly_b12 n σ x1 x2 x3 = some t → gx l E mi_Rules_overridesBadly (some (.int t.1), t.2) σ [(0, .ref (E.1 20)), (1, .int x1), (2, .int x2), (3, .int x3)] 12 [] := by
  intro n
  induction n with
  | zero => intro σ x1 x2 x3 t hT; cases hT
  | succ n ih =>
    intro σ x1 x2 x3 t hT
    rw [fx_Rules_overridesBadly_b12] at hT
    refine gx_iload_n (pc := 12) 3 d_Rules_overridesBadly_12 rfl rfl ?_
    refine gx_aload_n (pc := 13) 0 d_Rules_overridesBadly_13 rfl rfl ?_
    refine gx_getR (pc := 14) 1 fl_Rules_9 d_Rules_overridesBadly_14 (rfl) (by decide) rfl ?_
    refine gx_getI (pc := 17) (σ 1 2) fl_Rules_32 d_Rules_overridesBadly_17 (rfl) (by decide) rfl rfl ?_
    refine gx_icmp_ge (pc := 20) 103 d_Rules_overridesBadly_20 rfl (fun h2 => ?_) (fun h2 => ?_)
    · have hT := tx_ifp h2 hT
      refine gx_iconst (pc := 103) (0 : Int32) d_Rules_overridesBadly_103 (by decide) ?_
      cases hT
      exact gx_zret (pc := 104) d_Rules_overridesBadly_104 rfl (by decide) rfl
    · have hT := tx_ifn h2 hT
      refine gx_aload_n (pc := 23) 0 d_Rules_overridesBadly_23 rfl rfl ?_
      refine gx_getR (pc := 24) 1 fl_Rules_9 d_Rules_overridesBadly_24 (rfl) (by decide) rfl ?_
      refine gx_getR (pc := 27) 7 fl_Rules_73 d_Rules_overridesBadly_27 (rfl) (by decide) rfl ?_
      refine gx_iload_n (pc := 30) 3 d_Rules_overridesBadly_30 rfl rfl ?_
      obtain ⟨v3, gv3, iv3, hT⟩ := tx_rd_some hT
      refine gx_iald (pc := 31) v3 d_Rules_overridesBadly_31 (rfl) iv3 gv3 ?_
      refine gx_istore (pc := 32) [(4, .int v3), (0, .ref (E.1 20)), (1, .int x1), (2, .int x2), (3, .int x3)] d_Rules_overridesBadly_32 (Nat.le_of_ble_eq_true rfl) rfl ?_
      refine gx_iload (pc := 34) 0 d_Rules_overridesBadly_34 rfl ?_
      refine gx_iload_n (pc := 36) 3 d_Rules_overridesBadly_36 rfl rfl ?_
      refine gx_icmp_eq (pc := 37) 78 d_Rules_overridesBadly_37 rfl (fun h4 => ?_) (fun h4 => ?_)
      · have hT := tx_ifp h4 hT
        refine gx_sub [1, 2, 3, 4] rfl ?_
        exact fx_Rules_overridesBadly_b78_w (fx_Rules_overridesBadly_b12 n) (ih) σ x1 x2 x3 _ hT
      · have hT := tx_ifn h4 hT
        refine gx_aload_n (pc := 40) 1 d_Rules_overridesBadly_40 rfl rfl ?_
        refine gx_getR (pc := 41) 1 fl_Rules_9 d_Rules_overridesBadly_41 (rfl) (by decide) rfl ?_
        refine gx_iload_n (pc := 44) 3 d_Rules_overridesBadly_44 rfl rfl ?_
        refine gx_iload (pc := 45) 0 d_Rules_overridesBadly_45 rfl ?_
        obtain ⟨r6, σ5, cσ5, hT⟩ := tx_ci_some hT
        refine gx_callV (pc := 47) (As := [.int x2, .int v3]) (rest := []) cm_Plan_isUnder lk_Rules_76 (fx_Plan_isUnder_c l E σ x2 v3 _ cσ5) (rfl) (by decide) rfl rfl tx_fi_Rules_overridesBadly_Plan_isUnder (Nat.le_of_ble_eq_true rfl) d_Rules_overridesBadly_47 ?_
        change gx l E mi_Rules_overridesBadly _ σ5 [(4, .int v3), (0, .ref (E.1 20)), (1, .int x1), (2, .int x2), (3, .int x3)] 50 [.int r6]
        refine gx_if_eq (pc := 50) 78 d_Rules_overridesBadly_50 rfl (fun h7 => ?_) (fun h7 => ?_)
        · have hT := tx_ifp h7 hT
          refine gx_sub [1, 2, 3, 4] rfl ?_
          exact fx_Rules_overridesBadly_b78_w (fx_Rules_overridesBadly_b12 n) (ih) σ5 x1 x2 x3 _ hT
        · have hT := tx_ifn h7 hT
          refine gx_aload_n (pc := 53) 1 d_Rules_overridesBadly_53 rfl rfl ?_
          refine gx_getR (pc := 54) 1 fl_Rules_9 d_Rules_overridesBadly_54 (rfl) (by decide) rfl ?_
          refine gx_getR (pc := 57) 9 fl_Rules_79 d_Rules_overridesBadly_57 (rfl) (by decide) rfl ?_
          refine gx_iload_n (pc := 60) 4 d_Rules_overridesBadly_60 rfl rfl ?_
          obtain ⟨v8, gv8, iv8, hT⟩ := tx_rd_some hT
          refine gx_iald (pc := 61) v8 d_Rules_overridesBadly_61 (rfl) iv8 gv8 ?_
          refine gx_aload_n (pc := 62) 1 d_Rules_overridesBadly_62 rfl rfl ?_
          refine gx_getR (pc := 63) 1 fl_Rules_9 d_Rules_overridesBadly_63 (rfl) (by decide) rfl ?_
          refine gx_getR (pc := 66) 9 fl_Rules_79 d_Rules_overridesBadly_66 (rfl) (by decide) rfl ?_
          refine gx_iload_n (pc := 69) 2 d_Rules_overridesBadly_69 rfl rfl ?_
          obtain ⟨v9, gv9, iv9, hT⟩ := tx_rd_some hT
          refine gx_iald (pc := 70) v9 d_Rules_overridesBadly_70 (rfl) iv9 gv9 ?_
          refine gx_icmp_ne (pc := 71) 78 d_Rules_overridesBadly_71 rfl (fun h10 => ?_) (fun h10 => ?_)
          · have hT := tx_ifn h10 hT
            refine gx_sub [1, 2, 3, 4] rfl ?_
            exact fx_Rules_overridesBadly_b78_w (fx_Rules_overridesBadly_b12 n) (ih) σ5 x1 x2 x3 _ hT
          · have hT := tx_ifp h10 hT
            refine gx_iconst (pc := 74) (1 : Int32) d_Rules_overridesBadly_74 (by decide) ?_
            refine gx_goto (pc := 75) 79 d_Rules_overridesBadly_75 rfl ?_
            refine gx_sub [1, 2, 3, 4] rfl ?_
            exact fx_Rules_overridesBadly_b79_w (fx_Rules_overridesBadly_b12 n) (ih) σ5 x1 x2 x3 (1 : Int32) _ hT
set_option maxRecDepth 100000 in
set_option maxHeartbeats 4000000 in
theorem fx_Rules_overridesBadly_c (l : Launch) (E : tx_E) (σ : tx_St) (x1 : Int32) (t : Int32 × tx_St) (hT : fx_Rules_overridesBadly σ x1 = some t) : tx_MX l E y_Rules_overridesBadly mi_Rules_overridesBadly (some (.int t.1), t.2) [.ref (E.1 20), .int x1] σ := by
  refine tx_MX_of (by decide) rfl (Nat.le_of_ble_eq_true rfl) ?_
  show gx l E mi_Rules_overridesBadly (some (.int t.1), t.2) σ [(0, .ref (E.1 20)), (1, .int x1)] 0 []
  unfold fx_Rules_overridesBadly at hT
  refine gx_aload_n (pc := 0) 0 d_Rules_overridesBadly_0 rfl rfl ?_
  refine gx_getR (pc := 1) 1 fl_Rules_9 d_Rules_overridesBadly_1 (rfl) (by decide) rfl ?_
  refine gx_getR (pc := 4) 7 fl_Rules_73 d_Rules_overridesBadly_4 (rfl) (by decide) rfl ?_
  refine gx_iload_n (pc := 7) 1 d_Rules_overridesBadly_7 rfl rfl ?_
  obtain ⟨v1, gv1, iv1, hT⟩ := tx_rd_some hT
  refine gx_iald (pc := 8) v1 d_Rules_overridesBadly_8 (rfl) iv1 gv1 ?_
  refine gx_istore_n (pc := 9) [(2, .int v1), (0, .ref (E.1 20)), (1, .int x1)] d_Rules_overridesBadly_9 rfl (Nat.le_of_ble_eq_true rfl) rfl ?_
  refine gx_iconst (pc := 10) (0 : Int32) d_Rules_overridesBadly_10 (by decide) ?_
  refine gx_istore_n (pc := 11) [(3, .int (0 : Int32)), (2, .int v1), (0, .ref (E.1 20)), (1, .int x1)] d_Rules_overridesBadly_11 rfl (Nat.le_of_ble_eq_true rfl) rfl ?_
  refine gx_sub [2, 3, 1, 0] rfl ?_
  exact fx_Rules_overridesBadly_b12_w  tx_fu σ x1 v1 (0 : Int32) _ hT
theorem d_Arr_rangeCheck_0 : decode c_Arr_rangeCheck 0 = .ok (.iload_n 1, 1) := by decide +kernel
theorem d_Arr_rangeCheck_1 : decode c_Arr_rangeCheck 1 = .ok (.iload_n 2, 1) := by decide +kernel
theorem d_Arr_rangeCheck_2 : decode c_Arr_rangeCheck 2 = .ok (.if_icmp .le (44), 3) := by decide +kernel
theorem d_Arr_rangeCheck_5 : decode c_Arr_rangeCheck 5 = .ok (.new 43, 3) := by decide +kernel
theorem d_Arr_rangeCheck_46 : decode c_Arr_rangeCheck 46 = .ok (.iload_n 1, 1) := by decide +kernel
theorem d_Arr_rangeCheck_47 : decode c_Arr_rangeCheck 47 = .ok (.ifCond .ge (12), 3) := by decide +kernel
theorem d_Arr_rangeCheck_50 : decode c_Arr_rangeCheck 50 = .ok (.new 68, 3) := by decide +kernel
theorem d_Arr_rangeCheck_59 : decode c_Arr_rangeCheck 59 = .ok (.iload_n 2, 1) := by decide +kernel
theorem d_Arr_rangeCheck_60 : decode c_Arr_rangeCheck 60 = .ok (.iload_n 0, 1) := by decide +kernel
theorem d_Arr_rangeCheck_61 : decode c_Arr_rangeCheck 61 = .ok (.if_icmp .le (12), 3) := by decide +kernel
theorem d_Arr_rangeCheck_64 : decode c_Arr_rangeCheck 64 = .ok (.new 68, 3) := by decide +kernel
theorem d_Arr_rangeCheck_73 : decode c_Arr_rangeCheck 73 = .ok (.return_, 1) := by decide +kernel
def fx_Arr_rangeCheck (σ : tx_St) (x0 : Int32) (x1 : Int32) (x2 : Int32) : Option tx_St := (if x1 ≤ x2 then (if 0 ≤ x1 then (if x2 ≤ x0 then some σ else none) else none) else none)
set_option maxRecDepth 100000 in
set_option maxHeartbeats 4000000 in
theorem fx_Arr_rangeCheck_c (l : Launch) (E : tx_E) (σ : tx_St) (x0 : Int32) (x1 : Int32) (x2 : Int32) (t : tx_St) (hT : fx_Arr_rangeCheck σ x0 x1 x2 = some t) : tx_MX l E y_Arr_rangeCheck mi_Arr_rangeCheck (none, t) [.int x0, .int x1, .int x2] σ := by
  refine tx_MX_of (by decide) rfl (Nat.le_of_ble_eq_true rfl) ?_
  show gx l E mi_Arr_rangeCheck (none, t) σ [(0, .int x0), (1, .int x1), (2, .int x2)] 0 []
  unfold fx_Arr_rangeCheck at hT
  refine gx_iload_n (pc := 0) 1 d_Arr_rangeCheck_0 rfl rfl ?_
  refine gx_iload_n (pc := 1) 2 d_Arr_rangeCheck_1 rfl rfl ?_
  refine gx_icmp_le (pc := 2) 46 d_Arr_rangeCheck_2 rfl (fun h1 => ?_) (fun h1 => ?_)
  · have hT := tx_ifp h1 hT
    refine gx_iload_n (pc := 46) 1 d_Arr_rangeCheck_46 rfl rfl ?_
    refine gx_if_ge (pc := 47) 59 d_Arr_rangeCheck_47 rfl (fun h2 => ?_) (fun h2 => ?_)
    · have hT := tx_ifp h2 hT
      refine gx_iload_n (pc := 59) 2 d_Arr_rangeCheck_59 rfl rfl ?_
      refine gx_iload_n (pc := 60) 0 d_Arr_rangeCheck_60 rfl rfl ?_
      refine gx_icmp_le (pc := 61) 73 d_Arr_rangeCheck_61 rfl (fun h3 => ?_) (fun h3 => ?_)
      · have hT := tx_ifp h3 hT
        cases hT
        exact gx_vret (pc := 73) d_Arr_rangeCheck_73 rfl rfl
      · have hT := tx_ifn h3 hT
        cases hT
    · have hT := tx_ifn h2 hT
      cases hT
  · have hT := tx_ifn h1 hT
    cases hT
theorem d_Arr_fill4_0 : decode c_Arr_fill4 0 = .ok (.aload_n 0, 1) := by decide +kernel
theorem d_Arr_fill4_1 : decode c_Arr_fill4 1 = .ok (.arraylength, 1) := by decide +kernel
theorem d_Arr_fill4_2 : decode c_Arr_fill4 2 = .ok (.iload_n 1, 1) := by decide +kernel
theorem d_Arr_fill4_3 : decode c_Arr_fill4 3 = .ok (.iload_n 2, 1) := by decide +kernel
theorem d_Arr_fill4_4 : decode c_Arr_fill4 4 = .ok (.invokestatic 13, 3) := by decide +kernel
theorem d_Arr_fill4_7 : decode c_Arr_fill4 7 = .ok (.iload_n 1, 1) := by decide +kernel
theorem d_Arr_fill4_8 : decode c_Arr_fill4 8 = .ok (.istore 4, 2) := by decide +kernel
theorem d_Arr_fill4_10 : decode c_Arr_fill4 10 = .ok (.iload 4, 2) := by decide +kernel
theorem d_Arr_fill4_12 : decode c_Arr_fill4 12 = .ok (.iload_n 2, 1) := by decide +kernel
theorem d_Arr_fill4_13 : decode c_Arr_fill4 13 = .ok (.if_icmp .ge (14), 3) := by decide +kernel
theorem d_Arr_fill4_16 : decode c_Arr_fill4 16 = .ok (.aload_n 0, 1) := by decide +kernel
theorem d_Arr_fill4_17 : decode c_Arr_fill4 17 = .ok (.iload 4, 2) := by decide +kernel
theorem d_Arr_fill4_19 : decode c_Arr_fill4 19 = .ok (.iload_n 3, 1) := by decide +kernel
theorem d_Arr_fill4_20 : decode c_Arr_fill4 20 = .ok (.iastore, 1) := by decide +kernel
theorem d_Arr_fill4_21 : decode c_Arr_fill4 21 = .ok (.iinc 4 (1), 3) := by decide +kernel
theorem d_Arr_fill4_24 : decode c_Arr_fill4 24 = .ok (.goto (-14), 3) := by decide +kernel
theorem d_Arr_fill4_27 : decode c_Arr_fill4 27 = .ok (.return_, 1) := by decide +kernel
def fx_Arr_fill4_b10 (ka : Nat) (na : Nat) : Nat → tx_St → Int32 → Int32 → Int32 → Option tx_St
  | 0, _, _, _, _ => none
  | n + 1, σ, x2, x3, x4 => (if x2 ≤ x4 then some σ else tx_wr σ ka na x4 x3 fun σ3 => fx_Arr_fill4_b10 ka na n σ3 x2 x3 (x4 + (1 : Int32)))
def fx_Arr_fill4 (ka : Nat) (na : Nat) (σ : tx_St) (x1 : Int32) (x2 : Int32) (x3 : Int32) : Option tx_St := tx_cv (fx_Arr_rangeCheck σ (Int32.ofNat na) x1 x2) fun σ1 => fx_Arr_fill4_b10 ka na  tx_fu σ1 x2 x3 x1
set_option maxRecDepth 100000 in
set_option maxHeartbeats 4000000 in
theorem fx_Arr_fill4_b10_w {l : Launch} {E : tx_E} (ka : Nat) (na : Nat) (ha : tx_sh ka = (0, na, [])) (hn : na ≠ 0) : ∀ (n : Nat) (σ : tx_St) (x2 : Int32) (x3 : Int32) (x4 : Int32) (t : tx_St), fx_Arr_fill4_b10 ka na n σ x2 x3 x4 = some t → gx l E mi_Arr_fill4 (none, t) σ [(0, .ref (E.1 ka)), (2, .int x2), (3, .int x3), (4, .int x4)] 10 [] := by
  intro n
  induction n with
  | zero => intro σ x2 x3 x4 t hT; cases hT
  | succ n ih =>
    intro σ x2 x3 x4 t hT
    rw [fx_Arr_fill4_b10] at hT
    refine gx_iload (pc := 10) 3 d_Arr_fill4_10 rfl ?_
    refine gx_iload_n (pc := 12) 1 d_Arr_fill4_12 rfl rfl ?_
    refine gx_icmp_ge (pc := 13) 27 d_Arr_fill4_13 rfl (fun h2 => ?_) (fun h2 => ?_)
    · have hT := tx_ifp h2 hT
      cases hT
      exact gx_vret (pc := 27) d_Arr_fill4_27 rfl rfl
    · have hT := tx_ifn h2 hT
      refine gx_aload_n (pc := 16) 0 d_Arr_fill4_16 rfl rfl ?_
      refine gx_iload (pc := 17) 3 d_Arr_fill4_17 rfl ?_
      refine gx_iload_n (pc := 19) 2 d_Arr_fill4_19 rfl rfl ?_
      obtain ⟨σ3, gσ3, iσ3, hT⟩ := tx_wr_some hT
      refine gx_iast (pc := 20) d_Arr_fill4_20 ha iσ3 ?_
      rw [gσ3]
      refine gx_iinc (pc := 21) (x4 + (1 : Int32)) 3 [(4, .int (x4 + (1 : Int32))), (0, .ref (E.1 ka)), (2, .int x2), (3, .int x3)] d_Arr_fill4_21 rfl (tx_inc (by decide)) (Nat.le_of_ble_eq_true rfl) rfl ?_
      refine gx_goto (pc := 24) 10 d_Arr_fill4_24 rfl ?_
      refine gx_sub [1, 2, 3, 0] rfl ?_
      exact ih σ3 x2 x3 (x4 + (1 : Int32)) _ hT
set_option maxRecDepth 100000 in
set_option maxHeartbeats 4000000 in
theorem fx_Arr_fill4_c (l : Launch) (E : tx_E) (ka : Nat) (na : Nat) (σ : tx_St) (x1 : Int32) (x2 : Int32) (x3 : Int32) (ha : tx_sh ka = (0, na, [])) (hn : na ≠ 0) (t : tx_St) (hT : fx_Arr_fill4 ka na σ x1 x2 x3 = some t) : tx_MX l E y_Arr_fill4 mi_Arr_fill4 (none, t) [.ref (E.1 ka), .int x1, .int x2, .int x3] σ := by
  refine tx_MX_of (by decide) rfl (Nat.le_of_ble_eq_true rfl) ?_
  show gx l E mi_Arr_fill4 (none, t) σ [(0, .ref (E.1 ka)), (1, .int x1), (2, .int x2), (3, .int x3)] 0 []
  unfold fx_Arr_fill4 at hT
  refine gx_aload_n (pc := 0) 0 d_Arr_fill4_0 rfl rfl ?_
  refine gx_alen (pc := 1) (Int32.ofNat na) d_Arr_fill4_1 ha hn rfl ?_
  refine gx_iload_n (pc := 2) 1 d_Arr_fill4_2 rfl rfl ?_
  refine gx_iload_n (pc := 3) 2 d_Arr_fill4_3 rfl rfl ?_
  obtain ⟨σ1, cσ1, hT⟩ := tx_cv_some hT
  refine gx_callS (pc := 4) (As := [.int (Int32.ofNat na), .int x1, .int x2]) (rest := []) cm_Arr_rangeCheck lk_Arr_13 (fx_Arr_rangeCheck_c l E σ (Int32.ofNat na) x1 x2 _ cσ1) rfl rfl tx_fi_Arr_fill4_Arr_rangeCheck (Nat.le_of_ble_eq_true rfl) d_Arr_fill4_4 ?_
  change gx l E mi_Arr_fill4 _ σ1 [(0, .ref (E.1 ka)), (1, .int x1), (2, .int x2), (3, .int x3)] 7 []
  refine gx_iload_n (pc := 7) 1 d_Arr_fill4_7 rfl rfl ?_
  refine gx_istore (pc := 8) [(4, .int x1), (0, .ref (E.1 ka)), (1, .int x1), (2, .int x2), (3, .int x3)] d_Arr_fill4_8 (Nat.le_of_ble_eq_true rfl) rfl ?_
  refine gx_sub [1, 3, 4, 0] rfl ?_
  exact fx_Arr_fill4_b10_w ka na ha hn  tx_fu σ1 x2 x3 x1 _ hT
theorem d_Arr_fill2_0 : decode c_Arr_fill2 0 = .ok (.iconst (0), 1) := by decide +kernel
theorem d_Arr_fill2_1 : decode c_Arr_fill2 1 = .ok (.istore_n 2, 1) := by decide +kernel
theorem d_Arr_fill2_2 : decode c_Arr_fill2 2 = .ok (.aload_n 0, 1) := by decide +kernel
theorem d_Arr_fill2_3 : decode c_Arr_fill2 3 = .ok (.arraylength, 1) := by decide +kernel
theorem d_Arr_fill2_4 : decode c_Arr_fill2 4 = .ok (.istore_n 3, 1) := by decide +kernel
theorem d_Arr_fill2_5 : decode c_Arr_fill2 5 = .ok (.iload_n 2, 1) := by decide +kernel
theorem d_Arr_fill2_6 : decode c_Arr_fill2 6 = .ok (.iload_n 3, 1) := by decide +kernel
theorem d_Arr_fill2_7 : decode c_Arr_fill2 7 = .ok (.if_icmp .ge (13), 3) := by decide +kernel
theorem d_Arr_fill2_10 : decode c_Arr_fill2 10 = .ok (.aload_n 0, 1) := by decide +kernel
theorem d_Arr_fill2_11 : decode c_Arr_fill2 11 = .ok (.iload_n 2, 1) := by decide +kernel
theorem d_Arr_fill2_12 : decode c_Arr_fill2 12 = .ok (.iload_n 1, 1) := by decide +kernel
theorem d_Arr_fill2_13 : decode c_Arr_fill2 13 = .ok (.iastore, 1) := by decide +kernel
theorem d_Arr_fill2_14 : decode c_Arr_fill2 14 = .ok (.iinc 2 (1), 3) := by decide +kernel
theorem d_Arr_fill2_17 : decode c_Arr_fill2 17 = .ok (.goto (-12), 3) := by decide +kernel
theorem d_Arr_fill2_20 : decode c_Arr_fill2 20 = .ok (.return_, 1) := by decide +kernel
def fx_Arr_fill2_b5 (ka : Nat) (na : Nat) : Nat → tx_St → Int32 → Int32 → Int32 → Option tx_St
  | 0, _, _, _, _ => none
  | n + 1, σ, x1, x2, x3 => (if x3 ≤ x2 then some σ else tx_wr σ ka na x2 x1 fun σ2 => fx_Arr_fill2_b5 ka na n σ2 x1 (x2 + (1 : Int32)) x3)
def fx_Arr_fill2 (ka : Nat) (na : Nat) (σ : tx_St) (x1 : Int32) : Option tx_St := fx_Arr_fill2_b5 ka na  tx_fu σ x1 (0 : Int32) (Int32.ofNat na)
set_option maxRecDepth 100000 in
set_option maxHeartbeats 4000000 in
theorem fx_Arr_fill2_b5_w {l : Launch} {E : tx_E} (ka : Nat) (na : Nat) (ha : tx_sh ka = (0, na, [])) (hn : na ≠ 0) : ∀ (n : Nat) (σ : tx_St) (x1 : Int32) (x2 : Int32) (x3 : Int32) (t : tx_St), fx_Arr_fill2_b5 ka na n σ x1 x2 x3 = some t → gx l E mi_Arr_fill2 (none, t) σ [(0, .ref (E.1 ka)), (1, .int x1), (2, .int x2), (3, .int x3)] 5 [] := by
  intro n
  induction n with
  | zero => intro σ x1 x2 x3 t hT; cases hT
  | succ n ih =>
    intro σ x1 x2 x3 t hT
    rw [fx_Arr_fill2_b5] at hT
    refine gx_iload_n (pc := 5) 2 d_Arr_fill2_5 rfl rfl ?_
    refine gx_iload_n (pc := 6) 3 d_Arr_fill2_6 rfl rfl ?_
    refine gx_icmp_ge (pc := 7) 20 d_Arr_fill2_7 rfl (fun h1 => ?_) (fun h1 => ?_)
    · have hT := tx_ifp h1 hT
      cases hT
      exact gx_vret (pc := 20) d_Arr_fill2_20 rfl rfl
    · have hT := tx_ifn h1 hT
      refine gx_aload_n (pc := 10) 0 d_Arr_fill2_10 rfl rfl ?_
      refine gx_iload_n (pc := 11) 2 d_Arr_fill2_11 rfl rfl ?_
      refine gx_iload_n (pc := 12) 1 d_Arr_fill2_12 rfl rfl ?_
      obtain ⟨σ2, gσ2, iσ2, hT⟩ := tx_wr_some hT
      refine gx_iast (pc := 13) d_Arr_fill2_13 ha iσ2 ?_
      rw [gσ2]
      refine gx_iinc (pc := 14) (x2 + (1 : Int32)) 2 [(2, .int (x2 + (1 : Int32))), (0, .ref (E.1 ka)), (1, .int x1), (3, .int x3)] d_Arr_fill2_14 rfl (tx_inc (by decide)) (Nat.le_of_ble_eq_true rfl) rfl ?_
      refine gx_goto (pc := 17) 5 d_Arr_fill2_17 rfl ?_
      refine gx_sub [1, 2, 0, 3] rfl ?_
      exact ih σ2 x1 (x2 + (1 : Int32)) x3 _ hT
set_option maxRecDepth 100000 in
set_option maxHeartbeats 4000000 in
theorem fx_Arr_fill2_c (l : Launch) (E : tx_E) (ka : Nat) (na : Nat) (σ : tx_St) (x1 : Int32) (ha : tx_sh ka = (0, na, [])) (hn : na ≠ 0) (t : tx_St) (hT : fx_Arr_fill2 ka na σ x1 = some t) : tx_MX l E y_Arr_fill2 mi_Arr_fill2 (none, t) [.ref (E.1 ka), .int x1] σ := by
  refine tx_MX_of (by decide) rfl (Nat.le_of_ble_eq_true rfl) ?_
  show gx l E mi_Arr_fill2 (none, t) σ [(0, .ref (E.1 ka)), (1, .int x1)] 0 []
  unfold fx_Arr_fill2 at hT
  refine gx_iconst (pc := 0) (0 : Int32) d_Arr_fill2_0 (by decide) ?_
  refine gx_istore_n (pc := 1) [(2, .int (0 : Int32)), (0, .ref (E.1 ka)), (1, .int x1)] d_Arr_fill2_1 rfl (Nat.le_of_ble_eq_true rfl) rfl ?_
  refine gx_aload_n (pc := 2) 1 d_Arr_fill2_2 rfl rfl ?_
  refine gx_alen (pc := 3) (Int32.ofNat na) d_Arr_fill2_3 ha hn rfl ?_
  refine gx_istore_n (pc := 4) [(3, .int (Int32.ofNat na)), (2, .int (0 : Int32)), (0, .ref (E.1 ka)), (1, .int x1)] d_Arr_fill2_4 rfl (Nat.le_of_ble_eq_true rfl) rfl ?_
  refine gx_sub [2, 3, 1, 0] rfl ?_
  exact fx_Arr_fill2_b5_w ka na ha hn  tx_fu σ x1 (0 : Int32) (Int32.ofNat na) _ hT
theorem d_Fitting_begin_0 : decode c_Fitting_begin 0 = .ok (.aload_n 0, 1) := by decide +kernel
theorem d_Fitting_begin_1 : decode c_Fitting_begin 1 = .ok (.iload_n 1, 1) := by decide +kernel
theorem d_Fitting_begin_2 : decode c_Fitting_begin 2 = .ok (.putfield 43, 3) := by decide +kernel
theorem d_Fitting_begin_5 : decode c_Fitting_begin 5 = .ok (.aload_n 0, 1) := by decide +kernel
theorem d_Fitting_begin_6 : decode c_Fitting_begin 6 = .ok (.iconst (1), 1) := by decide +kernel
theorem d_Fitting_begin_7 : decode c_Fitting_begin 7 = .ok (.putfield 39, 3) := by decide +kernel
theorem d_Fitting_begin_10 : decode c_Fitting_begin 10 = .ok (.aload_n 0, 1) := by decide +kernel
theorem d_Fitting_begin_11 : decode c_Fitting_begin 11 = .ok (.iconst (0), 1) := by decide +kernel
theorem d_Fitting_begin_12 : decode c_Fitting_begin 12 = .ok (.putfield 35, 3) := by decide +kernel
theorem d_Fitting_begin_15 : decode c_Fitting_begin 15 = .ok (.aload_n 0, 1) := by decide +kernel
theorem d_Fitting_begin_16 : decode c_Fitting_begin 16 = .ok (.iconst (0), 1) := by decide +kernel
theorem d_Fitting_begin_17 : decode c_Fitting_begin 17 = .ok (.putfield 68, 3) := by decide +kernel
theorem d_Fitting_begin_20 : decode c_Fitting_begin 20 = .ok (.aload_n 0, 1) := by decide +kernel
theorem d_Fitting_begin_21 : decode c_Fitting_begin 21 = .ok (.getfield 9, 3) := by decide +kernel
theorem d_Fitting_begin_24 : decode c_Fitting_begin 24 = .ok (.aload_n 0, 1) := by decide +kernel
theorem d_Fitting_begin_25 : decode c_Fitting_begin 25 = .ok (.getfield 43, 3) := by decide +kernel
theorem d_Fitting_begin_28 : decode c_Fitting_begin 28 = .ok (.bipush (12), 2) := by decide +kernel
theorem d_Fitting_begin_30 : decode c_Fitting_begin 30 = .ok (.imul, 1) := by decide +kernel
theorem d_Fitting_begin_31 : decode c_Fitting_begin 31 = .ok (.aload_n 0, 1) := by decide +kernel
theorem d_Fitting_begin_32 : decode c_Fitting_begin 32 = .ok (.getfield 43, 3) := by decide +kernel
theorem d_Fitting_begin_35 : decode c_Fitting_begin 35 = .ok (.iconst (1), 1) := by decide +kernel
theorem d_Fitting_begin_36 : decode c_Fitting_begin 36 = .ok (.iadd, 1) := by decide +kernel
theorem d_Fitting_begin_37 : decode c_Fitting_begin 37 = .ok (.bipush (12), 2) := by decide +kernel
theorem d_Fitting_begin_39 : decode c_Fitting_begin 39 = .ok (.imul, 1) := by decide +kernel
theorem d_Fitting_begin_40 : decode c_Fitting_begin 40 = .ok (.iconst (-1), 1) := by decide +kernel
theorem d_Fitting_begin_41 : decode c_Fitting_begin 41 = .ok (.invokestatic 75, 3) := by decide +kernel
theorem d_Fitting_begin_44 : decode c_Fitting_begin 44 = .ok (.aload_n 0, 1) := by decide +kernel
theorem d_Fitting_begin_45 : decode c_Fitting_begin 45 = .ok (.getfield 18, 3) := by decide +kernel
theorem d_Fitting_begin_48 : decode c_Fitting_begin 48 = .ok (.iconst (-1), 1) := by decide +kernel
theorem d_Fitting_begin_49 : decode c_Fitting_begin 49 = .ok (.invokestatic 81, 3) := by decide +kernel
theorem d_Fitting_begin_52 : decode c_Fitting_begin 52 = .ok (.iconst (0), 1) := by decide +kernel
theorem d_Fitting_begin_53 : decode c_Fitting_begin 53 = .ok (.istore_n 2, 1) := by decide +kernel
theorem d_Fitting_begin_54 : decode c_Fitting_begin 54 = .ok (.aload_n 0, 1) := by decide +kernel
theorem d_Fitting_begin_55 : decode c_Fitting_begin 55 = .ok (.getfield 24, 3) := by decide +kernel
theorem d_Fitting_begin_58 : decode c_Fitting_begin 58 = .ok (.aload_n 0, 1) := by decide +kernel
theorem d_Fitting_begin_59 : decode c_Fitting_begin 59 = .ok (.getfield 43, 3) := by decide +kernel
theorem d_Fitting_begin_62 : decode c_Fitting_begin 62 = .ok (.invokevirtual 84, 3) := by decide +kernel
theorem d_Fitting_begin_65 : decode c_Fitting_begin 65 = .ok (.ifCond .ne (25), 3) := by decide +kernel
theorem d_Fitting_begin_68 : decode c_Fitting_begin 68 = .ok (.aload_n 0, 1) := by decide +kernel
theorem d_Fitting_begin_69 : decode c_Fitting_begin 69 = .ok (.getfield 18, 3) := by decide +kernel
theorem d_Fitting_begin_72 : decode c_Fitting_begin 72 = .ok (.iconst (0), 1) := by decide +kernel
theorem d_Fitting_begin_73 : decode c_Fitting_begin 73 = .ok (.iconst (2), 1) := by decide +kernel
theorem d_Fitting_begin_74 : decode c_Fitting_begin 74 = .ok (.aload_n 0, 1) := by decide +kernel
theorem d_Fitting_begin_75 : decode c_Fitting_begin 75 = .ok (.getfield 24, 3) := by decide +kernel
theorem d_Fitting_begin_78 : decode c_Fitting_begin 78 = .ok (.getfield 87, 3) := by decide +kernel
theorem d_Fitting_begin_81 : decode c_Fitting_begin 81 = .ok (.aload_n 0, 1) := by decide +kernel
theorem d_Fitting_begin_82 : decode c_Fitting_begin 82 = .ok (.getfield 43, 3) := by decide +kernel
theorem d_Fitting_begin_85 : decode c_Fitting_begin 85 = .ok (.iaload, 1) := by decide +kernel
theorem d_Fitting_begin_86 : decode c_Fitting_begin 86 = .ok (.iadd, 1) := by decide +kernel
theorem d_Fitting_begin_87 : decode c_Fitting_begin 87 = .ok (.iastore, 1) := by decide +kernel
theorem d_Fitting_begin_88 : decode c_Fitting_begin 88 = .ok (.iconst (1), 1) := by decide +kernel
theorem d_Fitting_begin_89 : decode c_Fitting_begin 89 = .ok (.istore_n 2, 1) := by decide +kernel
theorem d_Fitting_begin_90 : decode c_Fitting_begin 90 = .ok (.aload_n 0, 1) := by decide +kernel
theorem d_Fitting_begin_91 : decode c_Fitting_begin 91 = .ok (.getfield 18, 3) := by decide +kernel
theorem d_Fitting_begin_94 : decode c_Fitting_begin 94 = .ok (.iload_n 2, 1) := by decide +kernel
theorem d_Fitting_begin_95 : decode c_Fitting_begin 95 = .ok (.aload_n 0, 1) := by decide +kernel
theorem d_Fitting_begin_96 : decode c_Fitting_begin 96 = .ok (.getfield 24, 3) := by decide +kernel
theorem d_Fitting_begin_99 : decode c_Fitting_begin 99 = .ok (.getfield 90, 3) := by decide +kernel
theorem d_Fitting_begin_102 : decode c_Fitting_begin 102 = .ok (.aload_n 0, 1) := by decide +kernel
theorem d_Fitting_begin_103 : decode c_Fitting_begin 103 = .ok (.getfield 43, 3) := by decide +kernel
theorem d_Fitting_begin_106 : decode c_Fitting_begin 106 = .ok (.iaload, 1) := by decide +kernel
theorem d_Fitting_begin_107 : decode c_Fitting_begin 107 = .ok (.iastore, 1) := by decide +kernel
theorem d_Fitting_begin_108 : decode c_Fitting_begin 108 = .ok (.return_, 1) := by decide +kernel
def fx_Fitting_begin_b90 (σ : tx_St) (x2 : Int32) : Option tx_St := tx_rd σ 10 8 (σ 15 7) fun v12 => tx_wr σ 18 3 x2 v12 fun σ13 => some σ13
def fx_Fitting_begin (σ : tx_St) (x1 : Int32) : Option tx_St := tx_pt σ 15 7 x1 fun σ1 => tx_pz σ1 15 8 (1 : Int32) fun σ2 => tx_pt σ2 15 5 (0 : Int32) fun σ3 => tx_pt σ3 15 6 (0 : Int32) fun σ4 => tx_cv (fx_Arr_fill4 16 96 σ4 ((σ4 15 7) * (12 : Int32)) (((σ4 15 7) + (1 : Int32)) * (12 : Int32)) (-1 : Int32)) fun σ5 => tx_cv (fx_Arr_fill2 18 3 σ5 (-1 : Int32)) fun σ6 => tx_ci (fx_Plan_isStaticMethod σ6 (σ6 15 7)) fun r8 σ7 => (if r8 = 0 then tx_rd σ7 7 8 (σ7 15 7) fun v10 => tx_wr σ7 18 3 (0 : Int32) ((2 : Int32) + v10) fun σ11 => fx_Fitting_begin_b90  σ11 (1 : Int32) else fx_Fitting_begin_b90  σ7 (0 : Int32))
set_option maxRecDepth 100000 in
set_option maxHeartbeats 4000000 in
theorem fx_Fitting_begin_b90_w {l : Launch} {E : tx_E} (σ : tx_St) (x2 : Int32) (t : tx_St) (hT : fx_Fitting_begin_b90 σ x2 = some t) : gx l E mi_Fitting_begin (none, t) σ [(0, .ref (E.1 15)), (2, .int x2)] 90 [] := by
  unfold fx_Fitting_begin_b90 at hT
  refine gx_aload_n (pc := 90) 0 d_Fitting_begin_90 rfl rfl ?_
  refine gx_getR (pc := 91) 18 fl_Fitting_18 d_Fitting_begin_91 (rfl) (by decide) rfl ?_
  refine gx_iload_n (pc := 94) 1 d_Fitting_begin_94 rfl rfl ?_
  refine gx_aload_n (pc := 95) 0 d_Fitting_begin_95 rfl rfl ?_
  refine gx_getR (pc := 96) 1 fl_Fitting_24 d_Fitting_begin_96 (rfl) (by decide) rfl ?_
  refine gx_getR (pc := 99) 10 fl_Fitting_90 d_Fitting_begin_99 (rfl) (by decide) rfl ?_
  refine gx_aload_n (pc := 102) 0 d_Fitting_begin_102 rfl rfl ?_
  refine gx_getI (pc := 103) (σ 15 7) fl_Fitting_43 d_Fitting_begin_103 (rfl) (by decide) rfl rfl ?_
  obtain ⟨v12, gv12, iv12, hT⟩ := tx_rd_some hT
  refine gx_iald (pc := 106) v12 d_Fitting_begin_106 (rfl) iv12 gv12 ?_
  obtain ⟨σ13, gσ13, iσ13, hT⟩ := tx_wr_some hT
  refine gx_iast (pc := 107) d_Fitting_begin_107 (rfl) iσ13 ?_
  rw [gσ13]
  cases hT
  exact gx_vret (pc := 108) d_Fitting_begin_108 rfl rfl
set_option maxRecDepth 100000 in
set_option maxHeartbeats 4000000 in
theorem fx_Fitting_begin_c (l : Launch) (E : tx_E) (σ : tx_St) (x1 : Int32) (t : tx_St) (hT : fx_Fitting_begin σ x1 = some t) : tx_MX l E y_Fitting_begin mi_Fitting_begin (none, t) [.ref (E.1 15), .int x1] σ := by
  refine tx_MX_of (by decide) rfl (Nat.le_of_ble_eq_true rfl) ?_
  show gx l E mi_Fitting_begin (none, t) σ [(0, .ref (E.1 15)), (1, .int x1)] 0 []
  unfold fx_Fitting_begin at hT
  refine gx_aload_n (pc := 0) 0 d_Fitting_begin_0 rfl rfl ?_
  refine gx_iload_n (pc := 1) 1 d_Fitting_begin_1 rfl rfl ?_
  obtain ⟨σ1, gσ1, hT⟩ := tx_pt_some hT
  refine gx_putI (pc := 2) fp_Fitting_43 d_Fitting_begin_2 (rfl) (by decide) rfl ?_
  rw [gσ1]
  refine gx_aload_n (pc := 5) 0 d_Fitting_begin_5 rfl rfl ?_
  refine gx_iconst (pc := 6) (1 : Int32) d_Fitting_begin_6 (by decide) ?_
  obtain ⟨σ2, gσ2, bσ2, hT⟩ := tx_pz_some hT
  refine gx_putZ (pc := 7) fp_Fitting_39 d_Fitting_begin_7 (rfl) (by decide) rfl bσ2 ?_
  rw [gσ2]
  refine gx_aload_n (pc := 10) 0 d_Fitting_begin_10 rfl rfl ?_
  refine gx_iconst (pc := 11) (0 : Int32) d_Fitting_begin_11 (by decide) ?_
  obtain ⟨σ3, gσ3, hT⟩ := tx_pt_some hT
  refine gx_putI (pc := 12) fp_Fitting_35 d_Fitting_begin_12 (rfl) (by decide) rfl ?_
  rw [gσ3]
  refine gx_aload_n (pc := 15) 0 d_Fitting_begin_15 rfl rfl ?_
  refine gx_iconst (pc := 16) (0 : Int32) d_Fitting_begin_16 (by decide) ?_
  obtain ⟨σ4, gσ4, hT⟩ := tx_pt_some hT
  refine gx_putI (pc := 17) fp_Fitting_68 d_Fitting_begin_17 (rfl) (by decide) rfl ?_
  rw [gσ4]
  refine gx_aload_n (pc := 20) 0 d_Fitting_begin_20 rfl rfl ?_
  refine gx_getR (pc := 21) 16 fl_Fitting_9 d_Fitting_begin_21 (rfl) (by decide) rfl ?_
  refine gx_aload_n (pc := 24) 0 d_Fitting_begin_24 rfl rfl ?_
  refine gx_getI (pc := 25) (σ4 15 7) fl_Fitting_43 d_Fitting_begin_25 (rfl) (by decide) rfl rfl ?_
  refine gx_bipush (pc := 28) (12 : Int32) d_Fitting_begin_28 (by decide) ?_
  refine gx_imul (pc := 30) d_Fitting_begin_30 ?_
  refine gx_aload_n (pc := 31) 0 d_Fitting_begin_31 rfl rfl ?_
  refine gx_getI (pc := 32) (σ4 15 7) fl_Fitting_43 d_Fitting_begin_32 (rfl) (by decide) rfl rfl ?_
  refine gx_iconst (pc := 35) (1 : Int32) d_Fitting_begin_35 (by decide) ?_
  refine gx_iadd (pc := 36) d_Fitting_begin_36 ?_
  refine gx_bipush (pc := 37) (12 : Int32) d_Fitting_begin_37 (by decide) ?_
  refine gx_imul (pc := 39) d_Fitting_begin_39 ?_
  refine gx_iconst (pc := 40) (-1 : Int32) d_Fitting_begin_40 (by decide) ?_
  obtain ⟨σ5, cσ5, hT⟩ := tx_cv_some hT
  refine gx_callS (pc := 41) (As := [.ref (E.1 16), .int ((σ4 15 7) * (12 : Int32)), .int (((σ4 15 7) + (1 : Int32)) * (12 : Int32)), .int (-1 : Int32)]) (rest := []) cm_Arr_fill4 lk_Fitting_75 (fx_Arr_fill4_c l E 16 96 σ4 ((σ4 15 7) * (12 : Int32)) (((σ4 15 7) + (1 : Int32)) * (12 : Int32)) (-1 : Int32) (rfl) (by decide) _ cσ5) rfl rfl tx_fi_Fitting_begin_Arr_fill4 (Nat.le_of_ble_eq_true rfl) d_Fitting_begin_41 ?_
  change gx l E mi_Fitting_begin _ σ5 [(0, .ref (E.1 15)), (1, .int x1)] 44 []
  refine gx_aload_n (pc := 44) 0 d_Fitting_begin_44 rfl rfl ?_
  refine gx_getR (pc := 45) 18 fl_Fitting_18 d_Fitting_begin_45 (rfl) (by decide) rfl ?_
  refine gx_iconst (pc := 48) (-1 : Int32) d_Fitting_begin_48 (by decide) ?_
  obtain ⟨σ6, cσ6, hT⟩ := tx_cv_some hT
  refine gx_callS (pc := 49) (As := [.ref (E.1 18), .int (-1 : Int32)]) (rest := []) cm_Arr_fill2 lk_Fitting_81 (fx_Arr_fill2_c l E 18 3 σ5 (-1 : Int32) (rfl) (by decide) _ cσ6) rfl rfl tx_fi_Fitting_begin_Arr_fill2 (Nat.le_of_ble_eq_true rfl) d_Fitting_begin_49 ?_
  change gx l E mi_Fitting_begin _ σ6 [(0, .ref (E.1 15)), (1, .int x1)] 52 []
  refine gx_iconst (pc := 52) (0 : Int32) d_Fitting_begin_52 (by decide) ?_
  refine gx_istore_n (pc := 53) [(2, .int (0 : Int32)), (0, .ref (E.1 15)), (1, .int x1)] d_Fitting_begin_53 rfl (Nat.le_of_ble_eq_true rfl) rfl ?_
  refine gx_aload_n (pc := 54) 1 d_Fitting_begin_54 rfl rfl ?_
  refine gx_getR (pc := 55) 1 fl_Fitting_24 d_Fitting_begin_55 (rfl) (by decide) rfl ?_
  refine gx_aload_n (pc := 58) 1 d_Fitting_begin_58 rfl rfl ?_
  refine gx_getI (pc := 59) (σ6 15 7) fl_Fitting_43 d_Fitting_begin_59 (rfl) (by decide) rfl rfl ?_
  obtain ⟨r8, σ7, cσ7, hT⟩ := tx_ci_some hT
  refine gx_callV (pc := 62) (As := [.int (σ6 15 7)]) (rest := []) cm_Plan_isStaticMethod lk_Fitting_84 (fx_Plan_isStaticMethod_c l E σ6 (σ6 15 7) _ cσ7) (rfl) (by decide) rfl rfl tx_fi_Fitting_begin_Plan_isStaticMethod (Nat.le_of_ble_eq_true rfl) d_Fitting_begin_62 ?_
  change gx l E mi_Fitting_begin _ σ7 [(2, .int (0 : Int32)), (0, .ref (E.1 15)), (1, .int x1)] 65 [.int r8]
  refine gx_if_ne (pc := 65) 90 d_Fitting_begin_65 rfl (fun h9 => ?_) (fun h9 => ?_)
  · have hT := tx_ifn h9 hT
    refine gx_sub [1, 0] rfl ?_
    exact fx_Fitting_begin_b90_w  σ7 (0 : Int32) _ hT
  · have hT := tx_ifp h9 hT
    refine gx_aload_n (pc := 68) 1 d_Fitting_begin_68 rfl rfl ?_
    refine gx_getR (pc := 69) 18 fl_Fitting_18 d_Fitting_begin_69 (rfl) (by decide) rfl ?_
    refine gx_iconst (pc := 72) (0 : Int32) d_Fitting_begin_72 (by decide) ?_
    refine gx_iconst (pc := 73) (2 : Int32) d_Fitting_begin_73 (by decide) ?_
    refine gx_aload_n (pc := 74) 1 d_Fitting_begin_74 rfl rfl ?_
    refine gx_getR (pc := 75) 1 fl_Fitting_24 d_Fitting_begin_75 (rfl) (by decide) rfl ?_
    refine gx_getR (pc := 78) 7 fl_Fitting_87 d_Fitting_begin_78 (rfl) (by decide) rfl ?_
    refine gx_aload_n (pc := 81) 1 d_Fitting_begin_81 rfl rfl ?_
    refine gx_getI (pc := 82) (σ7 15 7) fl_Fitting_43 d_Fitting_begin_82 (rfl) (by decide) rfl rfl ?_
    obtain ⟨v10, gv10, iv10, hT⟩ := tx_rd_some hT
    refine gx_iald (pc := 85) v10 d_Fitting_begin_85 (rfl) iv10 gv10 ?_
    refine gx_iadd (pc := 86) d_Fitting_begin_86 ?_
    obtain ⟨σ11, gσ11, iσ11, hT⟩ := tx_wr_some hT
    refine gx_iast (pc := 87) d_Fitting_begin_87 (rfl) iσ11 ?_
    rw [gσ11]
    refine gx_iconst (pc := 88) (1 : Int32) d_Fitting_begin_88 (by decide) ?_
    refine gx_istore_n (pc := 89) [(2, .int (1 : Int32)), (0, .ref (E.1 15)), (1, .int x1)] d_Fitting_begin_89 rfl (Nat.le_of_ble_eq_true rfl) rfl ?_
    refine gx_sub [1, 0] rfl ?_
    exact fx_Fitting_begin_b90_w  σ11 (1 : Int32) _ hT
theorem d_Plan_isInstruction_0 : decode c_Plan_isInstruction 0 = .ok (.iload_n 2, 1) := by decide +kernel
theorem d_Plan_isInstruction_1 : decode c_Plan_isInstruction 1 = .ok (.ifCond .lt (17), 3) := by decide +kernel
theorem d_Plan_isInstruction_4 : decode c_Plan_isInstruction 4 = .ok (.iload_n 2, 1) := by decide +kernel
theorem d_Plan_isInstruction_5 : decode c_Plan_isInstruction 5 = .ok (.aload_n 0, 1) := by decide +kernel
theorem d_Plan_isInstruction_6 : decode c_Plan_isInstruction 6 = .ok (.getfield 42, 3) := by decide +kernel
theorem d_Plan_isInstruction_9 : decode c_Plan_isInstruction 9 = .ok (.iload_n 1, 1) := by decide +kernel
theorem d_Plan_isInstruction_10 : decode c_Plan_isInstruction 10 = .ok (.iaload, 1) := by decide +kernel
theorem d_Plan_isInstruction_11 : decode c_Plan_isInstruction 11 = .ok (.if_icmp .ge (7), 3) := by decide +kernel
theorem d_Plan_isInstruction_14 : decode c_Plan_isInstruction 14 = .ok (.iconst (1), 1) := by decide +kernel
theorem d_Plan_isInstruction_15 : decode c_Plan_isInstruction 15 = .ok (.goto (4), 3) := by decide +kernel
theorem d_Plan_isInstruction_18 : decode c_Plan_isInstruction 18 = .ok (.iconst (0), 1) := by decide +kernel
theorem d_Plan_isInstruction_19 : decode c_Plan_isInstruction 19 = .ok (.ireturn, 1) := by decide +kernel
def fx_Plan_isInstruction_b19 (σ : tx_St) (s0 : Int32) : Option (Int32 × tx_St) := tx_rz s0 σ
def fx_Plan_isInstruction_b18 (σ : tx_St) : Option (Int32 × tx_St) := fx_Plan_isInstruction_b19  σ (0 : Int32)
def fx_Plan_isInstruction (σ : tx_St) (x1 : Int32) (x2 : Int32) : Option (Int32 × tx_St) := (if x2 < 0 then fx_Plan_isInstruction_b18  σ else tx_rd σ 12 8 x1 fun v2 => (if v2 ≤ x2 then fx_Plan_isInstruction_b18  σ else fx_Plan_isInstruction_b19  σ (1 : Int32)))
set_option maxRecDepth 100000 in
set_option maxHeartbeats 4000000 in
theorem fx_Plan_isInstruction_b19_w {l : Launch} {E : tx_E} (σ : tx_St) (s0 : Int32) (t : Int32 × tx_St) (hT : fx_Plan_isInstruction_b19 σ s0 = some t) : gx l E mi_Plan_isInstruction (some (.int t.1), t.2) σ [] 19 [.int s0] := by
  unfold fx_Plan_isInstruction_b19 at hT
  obtain ⟨hz, hT⟩ := tx_rz_some hT
  cases hT
  exact gx_zret (pc := 19) d_Plan_isInstruction_19 rfl hz rfl
set_option maxRecDepth 100000 in
set_option maxHeartbeats 4000000 in
theorem fx_Plan_isInstruction_b18_w {l : Launch} {E : tx_E} (σ : tx_St) (t : Int32 × tx_St) (hT : fx_Plan_isInstruction_b18 σ  = some t) : gx l E mi_Plan_isInstruction (some (.int t.1), t.2) σ [] 18 [] := by
  unfold fx_Plan_isInstruction_b18 at hT
  refine gx_iconst (pc := 18) (0 : Int32) d_Plan_isInstruction_18 (by decide) ?_
  exact fx_Plan_isInstruction_b19_w  σ (0 : Int32) _ hT
set_option maxRecDepth 100000 in
set_option maxHeartbeats 4000000 in
theorem fx_Plan_isInstruction_c (l : Launch) (E : tx_E) (σ : tx_St) (x1 : Int32) (x2 : Int32) (t : Int32 × tx_St) (hT : fx_Plan_isInstruction σ x1 x2 = some t) : tx_MX l E y_Plan_isInstruction mi_Plan_isInstruction (some (.int t.1), t.2) [.ref (E.1 1), .int x1, .int x2] σ := by
  refine tx_MX_of (by decide) rfl (Nat.le_of_ble_eq_true rfl) ?_
  show gx l E mi_Plan_isInstruction (some (.int t.1), t.2) σ [(0, .ref (E.1 1)), (1, .int x1), (2, .int x2)] 0 []
  unfold fx_Plan_isInstruction at hT
  refine gx_iload_n (pc := 0) 2 d_Plan_isInstruction_0 rfl rfl ?_
  refine gx_if_lt (pc := 1) 18 d_Plan_isInstruction_1 rfl (fun h1 => ?_) (fun h1 => ?_)
  · have hT := tx_ifp h1 hT
    refine gx_sub [] rfl ?_
    exact fx_Plan_isInstruction_b18_w  σ _ hT
  · have hT := tx_ifn h1 hT
    refine gx_iload_n (pc := 4) 2 d_Plan_isInstruction_4 rfl rfl ?_
    refine gx_aload_n (pc := 5) 0 d_Plan_isInstruction_5 rfl rfl ?_
    refine gx_getR (pc := 6) 12 fl_Plan_42 d_Plan_isInstruction_6 (rfl) (by decide) rfl ?_
    refine gx_iload_n (pc := 9) 1 d_Plan_isInstruction_9 rfl rfl ?_
    obtain ⟨v2, gv2, iv2, hT⟩ := tx_rd_some hT
    refine gx_iald (pc := 10) v2 d_Plan_isInstruction_10 (rfl) iv2 gv2 ?_
    refine gx_icmp_ge (pc := 11) 18 d_Plan_isInstruction_11 rfl (fun h3 => ?_) (fun h3 => ?_)
    · have hT := tx_ifp h3 hT
      refine gx_sub [] rfl ?_
      exact fx_Plan_isInstruction_b18_w  σ _ hT
    · have hT := tx_ifn h3 hT
      refine gx_iconst (pc := 14) (1 : Int32) d_Plan_isInstruction_14 (by decide) ?_
      refine gx_goto (pc := 15) 19 d_Plan_isInstruction_15 rfl ?_
      refine gx_sub [] rfl ?_
      exact fx_Plan_isInstruction_b19_w  σ (1 : Int32) _ hT
