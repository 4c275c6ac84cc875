theorem d_Mo_fielded_0 : decode c_Mo_fielded 0 = .ok (.aload_n 0, 1) := by decide +kernel
theorem d_Mo_fielded_1 : decode c_Mo_fielded 1 = .ok (.iload_n 3, 1) := by decide +kernel
theorem d_Mo_fielded_2 : decode c_Mo_fielded 2 = .ok (.iload_n 1, 1) := by decide +kernel
theorem d_Mo_fielded_3 : decode c_Mo_fielded 3 = .ok (.bipush (10), 2) := by decide +kernel
theorem d_Mo_fielded_5 : decode c_Mo_fielded 5 = .ok (.if_icmp .lt (7), 3) := by decide +kernel
theorem d_Mo_fielded_8 : decode c_Mo_fielded 8 = .ok (.iconst (1), 1) := by decide +kernel
theorem d_Mo_fielded_9 : decode c_Mo_fielded 9 = .ok (.goto (4), 3) := by decide +kernel
theorem d_Mo_fielded_12 : decode c_Mo_fielded 12 = .ok (.iconst (0), 1) := by decide +kernel
theorem d_Mo_fielded_13 : decode c_Mo_fielded 13 = .ok (.invokevirtual 146, 3) := by decide +kernel
theorem d_Mo_fielded_16 : decode c_Mo_fielded 16 = .ok (.ifCond .ne (5), 3) := by decide +kernel
theorem d_Mo_fielded_19 : decode c_Mo_fielded 19 = .ok (.iconst (-1), 1) := by decide +kernel
theorem d_Mo_fielded_20 : decode c_Mo_fielded 20 = .ok (.ireturn, 1) := by decide +kernel
theorem d_Mo_fielded_21 : decode c_Mo_fielded 21 = .ok (.aload_n 0, 1) := by decide +kernel
theorem d_Mo_fielded_22 : decode c_Mo_fielded 22 = .ok (.getfield 22, 3) := by decide +kernel
theorem d_Mo_fielded_25 : decode c_Mo_fielded 25 = .ok (.iload_n 3, 1) := by decide +kernel
theorem d_Mo_fielded_26 : decode c_Mo_fielded 26 = .ok (.iaload, 1) := by decide +kernel
theorem d_Mo_fielded_27 : decode c_Mo_fielded 27 = .ok (.istore 4, 2) := by decide +kernel
theorem d_Mo_fielded_29 : decode c_Mo_fielded 29 = .ok (.iconst (2), 1) := by decide +kernel
theorem d_Mo_fielded_30 : decode c_Mo_fielded 30 = .ok (.aload_n 0, 1) := by decide +kernel
theorem d_Mo_fielded_31 : decode c_Mo_fielded 31 = .ok (.getfield 16, 3) := by decide +kernel
theorem d_Mo_fielded_34 : decode c_Mo_fielded 34 = .ok (.iload_n 3, 1) := by decide +kernel
theorem d_Mo_fielded_35 : decode c_Mo_fielded 35 = .ok (.iaload, 1) := by decide +kernel
theorem d_Mo_fielded_36 : decode c_Mo_fielded 36 = .ok (.iadd, 1) := by decide +kernel
theorem d_Mo_fielded_37 : decode c_Mo_fielded 37 = .ok (.istore 5, 2) := by decide +kernel
theorem d_Mo_fielded_39 : decode c_Mo_fielded 39 = .ok (.iload_n 1, 1) := by decide +kernel
theorem d_Mo_fielded_40 : decode c_Mo_fielded 40 = .ok (.bipush (8), 2) := by decide +kernel
theorem d_Mo_fielded_42 : decode c_Mo_fielded 42 = .ok (.if_icmp .ne (16), 3) := by decide +kernel
theorem d_Mo_fielded_45 : decode c_Mo_fielded 45 = .ok (.aload_n 0, 1) := by decide +kernel
theorem d_Mo_fielded_46 : decode c_Mo_fielded 46 = .ok (.iload_n 2, 1) := by decide +kernel
theorem d_Mo_fielded_47 : decode c_Mo_fielded 47 = .ok (.iload 5, 2) := by decide +kernel
theorem d_Mo_fielded_49 : decode c_Mo_fielded 49 = .ok (.invokevirtual 143, 3) := by decide +kernel
theorem d_Mo_fielded_52 : decode c_Mo_fielded 52 = .ok (.iload 4, 2) := by decide +kernel
theorem d_Mo_fielded_54 : decode c_Mo_fielded 54 = .ok (.invokestatic 137, 3) := by decide +kernel
theorem d_Mo_fielded_57 : decode c_Mo_fielded 57 = .ok (.ireturn, 1) := by decide +kernel
theorem d_Mo_fielded_58 : decode c_Mo_fielded 58 = .ok (.iload_n 1, 1) := by decide +kernel
theorem d_Mo_fielded_59 : decode c_Mo_fielded 59 = .ok (.bipush (9), 2) := by decide +kernel
theorem d_Mo_fielded_61 : decode c_Mo_fielded 61 = .ok (.if_icmp .ne (17), 3) := by decide +kernel
theorem d_Mo_fielded_64 : decode c_Mo_fielded 64 = .ok (.aload_n 0, 1) := by decide +kernel
theorem d_Mo_fielded_65 : decode c_Mo_fielded 65 = .ok (.aload_n 0, 1) := by decide +kernel
theorem d_Mo_fielded_66 : decode c_Mo_fielded 66 = .ok (.iload_n 2, 1) := by decide +kernel
theorem d_Mo_fielded_67 : decode c_Mo_fielded 67 = .ok (.iload 4, 2) := by decide +kernel
theorem d_Mo_fielded_69 : decode c_Mo_fielded 69 = .ok (.invokevirtual 143, 3) := by decide +kernel
theorem d_Mo_fielded_72 : decode c_Mo_fielded 72 = .ok (.iload 5, 2) := by decide +kernel
theorem d_Mo_fielded_74 : decode c_Mo_fielded 74 = .ok (.invokevirtual 143, 3) := by decide +kernel
theorem d_Mo_fielded_77 : decode c_Mo_fielded 77 = .ok (.ireturn, 1) := by decide +kernel
theorem d_Mo_fielded_78 : decode c_Mo_fielded 78 = .ok (.iload_n 1, 1) := by decide +kernel
theorem d_Mo_fielded_79 : decode c_Mo_fielded 79 = .ok (.bipush (10), 2) := by decide +kernel
theorem d_Mo_fielded_81 : decode c_Mo_fielded 81 = .ok (.if_icmp .ne (12), 3) := by decide +kernel
theorem d_Mo_fielded_84 : decode c_Mo_fielded 84 = .ok (.iload_n 2, 1) := by decide +kernel
theorem d_Mo_fielded_85 : decode c_Mo_fielded 85 = .ok (.iload 4, 2) := by decide +kernel
theorem d_Mo_fielded_87 : decode c_Mo_fielded 87 = .ok (.invokestatic 137, 3) := by decide +kernel
theorem d_Mo_fielded_90 : decode c_Mo_fielded 90 = .ok (.goto (10), 3) := by decide +kernel
theorem d_Mo_fielded_93 : decode c_Mo_fielded 93 = .ok (.aload_n 0, 1) := by decide +kernel
theorem d_Mo_fielded_94 : decode c_Mo_fielded 94 = .ok (.iload_n 2, 1) := by decide +kernel
theorem d_Mo_fielded_95 : decode c_Mo_fielded 95 = .ok (.iload 4, 2) := by decide +kernel
theorem d_Mo_fielded_97 : decode c_Mo_fielded 97 = .ok (.invokevirtual 143, 3) := by decide +kernel
theorem d_Mo_fielded_100 : decode c_Mo_fielded 100 = .ok (.ireturn, 1) := by decide +kernel
def fx_Mo_fielded_b100 (σ : tx_St) (s0 : Int32) : Option (Int32 × tx_St) := some (s0, σ)
def fx_Mo_fielded_b13 (σ : tx_St) (x1 : Int32) (x2 : Int32) (x3 : Int32) (s0 : Int32) (s1 : Int32) : Option (Int32 × tx_St) := tx_ci (fx_Mo_isField σ s1 s0) fun r3 σ2 => (if r3 = 0 then some ((-1 : Int32), σ2) else tx_rd σ2 50 12 x3 fun v5 => tx_rd σ2 48 12 x3 fun v6 => (if x1 = (8 : Int32) then tx_ci (fx_Mo_take σ2 x2 ((2 : Int32) + v6)) fun r19 σ18 => tx_ci (fx_Mo_give σ18 r19 v5) fun r21 σ20 => some (r21, σ20) else (if x1 = (9 : Int32) then tx_ci (fx_Mo_take σ2 x2 v5) fun r15 σ14 => tx_ci (fx_Mo_take σ14 r15 ((2 : Int32) + v6)) fun r17 σ16 => some (r17, σ16) else (if x1 = (10 : Int32) then tx_ci (fx_Mo_give σ2 x2 v5) fun r13 σ12 => fx_Mo_fielded_b100  σ12 r13 else tx_ci (fx_Mo_take σ2 x2 v5) fun r11 σ10 => fx_Mo_fielded_b100  σ10 r11))))
def fx_Mo_fielded (σ : tx_St) (x1 : Int32) (x2 : Int32) (x3 : Int32) : Option (Int32 × tx_St) := (if x1 < (10 : Int32) then fx_Mo_fielded_b13  σ x1 x2 x3 (0 : Int32) x3 else fx_Mo_fielded_b13  σ x1 x2 x3 (1 : Int32) x3)
set_option maxRecDepth 100000 in
set_option maxHeartbeats 4000000 in
theorem fx_Mo_fielded_b100_w {l : Launch} {E : tx_E} (σ : tx_St) (s0 : Int32) (t : Int32 × tx_St) (hT : fx_Mo_fielded_b100 σ s0 = some t) : gx l E mi_Mo_fielded (some (.int t.1), t.2) σ [] 100 [.int s0] := by
  unfold fx_Mo_fielded_b100 at hT
  cases hT
  exact gx_iret (pc := 100) d_Mo_fielded_100 rfl rfl
set_option maxRecDepth 100000 in
set_option maxHeartbeats 4000000 in
theorem fx_Mo_fielded_b13_w {l : Launch} {E : tx_E} (σ : tx_St) (x1 : Int32) (x2 : Int32) (x3 : Int32) (s0 : Int32) (s1 : Int32) (t : Int32 × tx_St) (hT : fx_Mo_fielded_b13 σ x1 x2 x3 s0 s1 = some t) : gx l E mi_Mo_fielded (some (.int t.1), t.2) σ [(0, .ref (E.1 45)), (1, .int x1), (2, .int x2), (3, .int x3)] 13 [.int s0, .int s1, .ref (E.1 45)] := by
  unfold fx_Mo_fielded_b13 at hT
  obtain ⟨r3, σ2, cσ2, hT⟩ := tx_ci_some hT
  refine gx_callV (pc := 13) (As := [.int s1, .int s0]) (rest := []) cm_Mo_isField lk_Mo_146 (fx_Mo_isField_c l E σ s1 s0 _ cσ2) (rfl) (by decide) rfl rfl tx_fi_Mo_fielded_Mo_isField (Nat.le_of_ble_eq_true rfl) d_Mo_fielded_13 ?_
  change gx l E mi_Mo_fielded _ σ2 [(0, .ref (E.1 45)), (1, .int x1), (2, .int x2), (3, .int x3)] 16 [.int r3]
  refine gx_if_ne (pc := 16) 21 d_Mo_fielded_16 rfl (fun h4 => ?_) (fun h4 => ?_)
  · have hT := tx_ifn h4 hT
    refine gx_aload_n (pc := 21) 0 d_Mo_fielded_21 rfl rfl ?_
    refine gx_getR (pc := 22) 50 fl_Mo_22 d_Mo_fielded_22 (rfl) (by decide) rfl ?_
    refine gx_iload_n (pc := 25) 3 d_Mo_fielded_25 rfl rfl ?_
    obtain ⟨v5, gv5, iv5, hT⟩ := tx_rd_some hT
    refine gx_iald (pc := 26) v5 d_Mo_fielded_26 (rfl) iv5 gv5 ?_
    refine gx_istore (pc := 27) [(4, .int v5), (0, .ref (E.1 45)), (1, .int x1), (2, .int x2), (3, .int x3)] d_Mo_fielded_27 (Nat.le_of_ble_eq_true rfl) rfl ?_
    refine gx_iconst (pc := 29) (2 : Int32) d_Mo_fielded_29 (by decide) ?_
    refine gx_aload_n (pc := 30) 1 d_Mo_fielded_30 rfl rfl ?_
    refine gx_getR (pc := 31) 48 fl_Mo_16 d_Mo_fielded_31 (rfl) (by decide) rfl ?_
    refine gx_iload_n (pc := 34) 4 d_Mo_fielded_34 rfl rfl ?_
    obtain ⟨v6, gv6, iv6, hT⟩ := tx_rd_some hT
    refine gx_iald (pc := 35) v6 d_Mo_fielded_35 (rfl) iv6 gv6 ?_
    refine gx_iadd (pc := 36) d_Mo_fielded_36 ?_
    refine gx_istore (pc := 37) [(5, .int ((2 : Int32) + v6)), (4, .int v5), (0, .ref (E.1 45)), (1, .int x1), (2, .int x2), (3, .int x3)] d_Mo_fielded_37 (Nat.le_of_ble_eq_true rfl) rfl ?_
    refine gx_iload_n (pc := 39) 3 d_Mo_fielded_39 rfl rfl ?_
    refine gx_bipush (pc := 40) (8 : Int32) d_Mo_fielded_40 (by decide) ?_
    refine gx_icmp_ne (pc := 42) 58 d_Mo_fielded_42 rfl (fun h7 => ?_) (fun h7 => ?_)
    · have hT := tx_ifn h7 hT
      refine gx_iload_n (pc := 58) 3 d_Mo_fielded_58 rfl rfl ?_
      refine gx_bipush (pc := 59) (9 : Int32) d_Mo_fielded_59 (by decide) ?_
      refine gx_icmp_ne (pc := 61) 78 d_Mo_fielded_61 rfl (fun h8 => ?_) (fun h8 => ?_)
      · have hT := tx_ifn h8 hT
        refine gx_iload_n (pc := 78) 3 d_Mo_fielded_78 rfl rfl ?_
        refine gx_bipush (pc := 79) (10 : Int32) d_Mo_fielded_79 (by decide) ?_
        refine gx_icmp_ne (pc := 81) 93 d_Mo_fielded_81 rfl (fun h9 => ?_) (fun h9 => ?_)
        · have hT := tx_ifn h9 hT
          refine gx_aload_n (pc := 93) 2 d_Mo_fielded_93 rfl rfl ?_
          refine gx_iload_n (pc := 94) 4 d_Mo_fielded_94 rfl rfl ?_
          refine gx_iload (pc := 95) 1 d_Mo_fielded_95 rfl ?_
          obtain ⟨r11, σ10, cσ10, hT⟩ := tx_ci_some hT
          refine gx_callV (pc := 97) (As := [.int x2, .int v5]) (rest := []) cm_Mo_take lk_Mo_143 (fx_Mo_take_c l E σ2 x2 v5 _ cσ10) (rfl) (by decide) rfl rfl tx_fi_Mo_fielded_Mo_take (Nat.le_of_ble_eq_true rfl) d_Mo_fielded_97 ?_
          change gx l E mi_Mo_fielded _ σ10 [(5, .int ((2 : Int32) + v6)), (4, .int v5), (0, .ref (E.1 45)), (1, .int x1), (2, .int x2), (3, .int x3)] 100 [.int r11]
          refine gx_sub [] rfl ?_
          exact fx_Mo_fielded_b100_w  σ10 r11 _ hT
        · have hT := tx_ifp h9 hT
          refine gx_iload_n (pc := 84) 4 d_Mo_fielded_84 rfl rfl ?_
          refine gx_iload (pc := 85) 1 d_Mo_fielded_85 rfl ?_
          obtain ⟨r13, σ12, cσ12, hT⟩ := tx_ci_some hT
          refine gx_callS (pc := 87) (As := [.int x2, .int v5]) (rest := []) cm_Mo_give lk_Mo_137 (fx_Mo_give_c l E σ2 x2 v5 _ cσ12) rfl rfl tx_fi_Mo_fielded_Mo_give (Nat.le_of_ble_eq_true rfl) d_Mo_fielded_87 ?_
          change gx l E mi_Mo_fielded _ σ12 [(5, .int ((2 : Int32) + v6)), (4, .int v5), (0, .ref (E.1 45)), (1, .int x1), (2, .int x2), (3, .int x3)] 90 [.int r13]
          refine gx_goto (pc := 90) 100 d_Mo_fielded_90 rfl ?_
          refine gx_sub [] rfl ?_
          exact fx_Mo_fielded_b100_w  σ12 r13 _ hT
      · have hT := tx_ifp h8 hT
        refine gx_aload_n (pc := 64) 2 d_Mo_fielded_64 rfl rfl ?_
        refine gx_aload_n (pc := 65) 2 d_Mo_fielded_65 rfl rfl ?_
        refine gx_iload_n (pc := 66) 4 d_Mo_fielded_66 rfl rfl ?_
        refine gx_iload (pc := 67) 1 d_Mo_fielded_67 rfl ?_
        obtain ⟨r15, σ14, cσ14, hT⟩ := tx_ci_some hT
        refine gx_callV (pc := 69) (As := [.int x2, .int v5]) (rest := [.ref (E.1 45)]) cm_Mo_take lk_Mo_143 (fx_Mo_take_c l E σ2 x2 v5 _ cσ14) (rfl) (by decide) rfl rfl tx_fi_Mo_fielded_Mo_take (Nat.le_of_ble_eq_true rfl) d_Mo_fielded_69 ?_
        change gx l E mi_Mo_fielded _ σ14 [(5, .int ((2 : Int32) + v6)), (4, .int v5), (0, .ref (E.1 45)), (1, .int x1), (2, .int x2), (3, .int x3)] 72 [.int r15, .ref (E.1 45)]
        refine gx_iload (pc := 72) 0 d_Mo_fielded_72 rfl ?_
        obtain ⟨r17, σ16, cσ16, hT⟩ := tx_ci_some hT
        refine gx_callV (pc := 74) (As := [.int r15, .int ((2 : Int32) + v6)]) (rest := []) cm_Mo_take lk_Mo_143 (fx_Mo_take_c l E σ14 r15 ((2 : Int32) + v6) _ cσ16) (rfl) (by decide) rfl rfl tx_fi_Mo_fielded_Mo_take (Nat.le_of_ble_eq_true rfl) d_Mo_fielded_74 ?_
        change gx l E mi_Mo_fielded _ σ16 [(5, .int ((2 : Int32) + v6)), (4, .int v5), (0, .ref (E.1 45)), (1, .int x1), (2, .int x2), (3, .int x3)] 77 [.int r17]
        cases hT
        exact gx_iret (pc := 77) d_Mo_fielded_77 rfl rfl
    · have hT := tx_ifp h7 hT
      refine gx_aload_n (pc := 45) 2 d_Mo_fielded_45 rfl rfl ?_
      refine gx_iload_n (pc := 46) 4 d_Mo_fielded_46 rfl rfl ?_
      refine gx_iload (pc := 47) 0 d_Mo_fielded_47 rfl ?_
      obtain ⟨r19, σ18, cσ18, hT⟩ := tx_ci_some hT
      refine gx_callV (pc := 49) (As := [.int x2, .int ((2 : Int32) + v6)]) (rest := []) cm_Mo_take lk_Mo_143 (fx_Mo_take_c l E σ2 x2 ((2 : Int32) + v6) _ cσ18) (rfl) (by decide) rfl rfl tx_fi_Mo_fielded_Mo_take (Nat.le_of_ble_eq_true rfl) d_Mo_fielded_49 ?_
      change gx l E mi_Mo_fielded _ σ18 [(5, .int ((2 : Int32) + v6)), (4, .int v5), (0, .ref (E.1 45)), (1, .int x1), (2, .int x2), (3, .int x3)] 52 [.int r19]
      refine gx_iload (pc := 52) 1 d_Mo_fielded_52 rfl ?_
      obtain ⟨r21, σ20, cσ20, hT⟩ := tx_ci_some hT
      refine gx_callS (pc := 54) (As := [.int r19, .int v5]) (rest := []) cm_Mo_give lk_Mo_137 (fx_Mo_give_c l E σ18 r19 v5 _ cσ20) rfl rfl tx_fi_Mo_fielded_Mo_give (Nat.le_of_ble_eq_true rfl) d_Mo_fielded_54 ?_
      change gx l E mi_Mo_fielded _ σ20 [(5, .int ((2 : Int32) + v6)), (4, .int v5), (0, .ref (E.1 45)), (1, .int x1), (2, .int x2), (3, .int x3)] 57 [.int r21]
      cases hT
      exact gx_iret (pc := 57) d_Mo_fielded_57 rfl rfl
  · have hT := tx_ifp h4 hT
    refine gx_iconst (pc := 19) (-1 : Int32) d_Mo_fielded_19 (by decide) ?_
    cases hT
    exact gx_iret (pc := 20) d_Mo_fielded_20 rfl rfl
set_option maxRecDepth 100000 in
set_option maxHeartbeats 4000000 in
theorem fx_Mo_fielded_c (l : Launch) (E : tx_E) (σ : tx_St) (x1 : Int32) (x2 : Int32) (x3 : Int32) (t : Int32 × tx_St) (hT : fx_Mo_fielded σ x1 x2 x3 = some t) : tx_MX l E y_Mo_fielded mi_Mo_fielded (some (.int t.1), t.2) [.ref (E.1 45), .int x1, .int x2, .int x3] σ := by
  refine tx_MX_of (by decide) rfl (Nat.le_of_ble_eq_true rfl) ?_
  show gx l E mi_Mo_fielded (some (.int t.1), t.2) σ [(0, .ref (E.1 45)), (1, .int x1), (2, .int x2), (3, .int x3)] 0 []
  unfold fx_Mo_fielded at hT
  refine gx_aload_n (pc := 0) 0 d_Mo_fielded_0 rfl rfl ?_
  refine gx_iload_n (pc := 1) 3 d_Mo_fielded_1 rfl rfl ?_
  refine gx_iload_n (pc := 2) 1 d_Mo_fielded_2 rfl rfl ?_
  refine gx_bipush (pc := 3) (10 : Int32) d_Mo_fielded_3 (by decide) ?_
  refine gx_icmp_lt (pc := 5) 12 d_Mo_fielded_5 rfl (fun h1 => ?_) (fun h1 => ?_)
  · have hT := tx_ifp h1 hT
    refine gx_iconst (pc := 12) (0 : Int32) d_Mo_fielded_12 (by decide) ?_
    exact fx_Mo_fielded_b13_w  σ x1 x2 x3 (0 : Int32) x3 _ hT
  · have hT := tx_ifn h1 hT
    refine gx_iconst (pc := 8) (1 : Int32) d_Mo_fielded_8 (by decide) ?_
    refine gx_goto (pc := 9) 13 d_Mo_fielded_9 rfl ?_
    exact fx_Mo_fielded_b13_w  σ x1 x2 x3 (1 : Int32) x3 _ hT
theorem d_Mo_calls_0 : decode c_Mo_calls 0 = .ok (.aload_n 0, 1) := by decide +kernel
theorem d_Mo_calls_1 : decode c_Mo_calls 1 = .ok (.iload_n 2, 1) := by decide +kernel
theorem d_Mo_calls_2 : decode c_Mo_calls 2 = .ok (.invokevirtual 108, 3) := by decide +kernel
theorem d_Mo_calls_5 : decode c_Mo_calls 5 = .ok (.ifCond .ne (5), 3) := by decide +kernel
theorem d_Mo_calls_8 : decode c_Mo_calls 8 = .ok (.iconst (-1), 1) := by decide +kernel
theorem d_Mo_calls_9 : decode c_Mo_calls 9 = .ok (.ireturn, 1) := by decide +kernel
theorem d_Mo_calls_10 : decode c_Mo_calls 10 = .ok (.aload_n 0, 1) := by decide +kernel
theorem d_Mo_calls_11 : decode c_Mo_calls 11 = .ok (.getfield 34, 3) := by decide +kernel
theorem d_Mo_calls_14 : decode c_Mo_calls 14 = .ok (.iload_n 2, 1) := by decide +kernel
theorem d_Mo_calls_15 : decode c_Mo_calls 15 = .ok (.iaload, 1) := by decide +kernel
theorem d_Mo_calls_16 : decode c_Mo_calls 16 = .ok (.ifCond .ge (7), 3) := by decide +kernel
theorem d_Mo_calls_19 : decode c_Mo_calls 19 = .ok (.iload_n 1, 1) := by decide +kernel
theorem d_Mo_calls_20 : decode c_Mo_calls 20 = .ok (.goto (14), 3) := by decide +kernel
theorem d_Mo_calls_23 : decode c_Mo_calls 23 = .ok (.aload_n 0, 1) := by decide +kernel
theorem d_Mo_calls_24 : decode c_Mo_calls 24 = .ok (.iload_n 1, 1) := by decide +kernel
theorem d_Mo_calls_25 : decode c_Mo_calls 25 = .ok (.aload_n 0, 1) := by decide +kernel
theorem d_Mo_calls_26 : decode c_Mo_calls 26 = .ok (.getfield 34, 3) := by decide +kernel
theorem d_Mo_calls_29 : decode c_Mo_calls 29 = .ok (.iload_n 2, 1) := by decide +kernel
theorem d_Mo_calls_30 : decode c_Mo_calls 30 = .ok (.iaload, 1) := by decide +kernel
theorem d_Mo_calls_31 : decode c_Mo_calls 31 = .ok (.invokevirtual 143, 3) := by decide +kernel
theorem d_Mo_calls_34 : decode c_Mo_calls 34 = .ok (.istore_n 3, 1) := by decide +kernel
theorem d_Mo_calls_35 : decode c_Mo_calls 35 = .ok (.aload_n 0, 1) := by decide +kernel
theorem d_Mo_calls_36 : decode c_Mo_calls 36 = .ok (.getfield 28, 3) := by decide +kernel
theorem d_Mo_calls_39 : decode c_Mo_calls 39 = .ok (.iload_n 2, 1) := by decide +kernel
theorem d_Mo_calls_40 : decode c_Mo_calls 40 = .ok (.iaload, 1) := by decide +kernel
theorem d_Mo_calls_41 : decode c_Mo_calls 41 = .ok (.iconst (1), 1) := by decide +kernel
theorem d_Mo_calls_42 : decode c_Mo_calls 42 = .ok (.if_icmp .ne (7), 3) := by decide +kernel
theorem d_Mo_calls_45 : decode c_Mo_calls 45 = .ok (.iload_n 3, 1) := by decide +kernel
theorem d_Mo_calls_46 : decode c_Mo_calls 46 = .ok (.goto (16), 3) := by decide +kernel
theorem d_Mo_calls_49 : decode c_Mo_calls 49 = .ok (.aload_n 0, 1) := by decide +kernel
theorem d_Mo_calls_50 : decode c_Mo_calls 50 = .ok (.iload_n 3, 1) := by decide +kernel
theorem d_Mo_calls_51 : decode c_Mo_calls 51 = .ok (.iconst (2), 1) := by decide +kernel
theorem d_Mo_calls_52 : decode c_Mo_calls 52 = .ok (.aload_n 0, 1) := by decide +kernel
theorem d_Mo_calls_53 : decode c_Mo_calls 53 = .ok (.getfield 25, 3) := by decide +kernel
theorem d_Mo_calls_56 : decode c_Mo_calls 56 = .ok (.iload_n 2, 1) := by decide +kernel
theorem d_Mo_calls_57 : decode c_Mo_calls 57 = .ok (.iaload, 1) := by decide +kernel
theorem d_Mo_calls_58 : decode c_Mo_calls 58 = .ok (.iadd, 1) := by decide +kernel
theorem d_Mo_calls_59 : decode c_Mo_calls 59 = .ok (.invokevirtual 143, 3) := by decide +kernel
theorem d_Mo_calls_62 : decode c_Mo_calls 62 = .ok (.istore_n 3, 1) := by decide +kernel
theorem d_Mo_calls_63 : decode c_Mo_calls 63 = .ok (.iload_n 3, 1) := by decide +kernel
theorem d_Mo_calls_64 : decode c_Mo_calls 64 = .ok (.aload_n 0, 1) := by decide +kernel
theorem d_Mo_calls_65 : decode c_Mo_calls 65 = .ok (.getfield 37, 3) := by decide +kernel
theorem d_Mo_calls_68 : decode c_Mo_calls 68 = .ok (.iload_n 2, 1) := by decide +kernel
theorem d_Mo_calls_69 : decode c_Mo_calls 69 = .ok (.iaload, 1) := by decide +kernel
theorem d_Mo_calls_70 : decode c_Mo_calls 70 = .ok (.invokestatic 137, 3) := by decide +kernel
theorem d_Mo_calls_73 : decode c_Mo_calls 73 = .ok (.ireturn, 1) := by decide +kernel
def fx_Mo_calls_b62 (σ : tx_St) (x2 : Int32) (s0 : Int32) : Option (Int32 × tx_St) := tx_rd σ 55 8 x2 fun v14 => tx_ci (fx_Mo_give σ s0 v14) fun r16 σ15 => some (r16, σ15)
def fx_Mo_calls_b34 (σ : tx_St) (x2 : Int32) (s0 : Int32) : Option (Int32 × tx_St) := tx_rd σ 52 8 x2 fun v9 => (if v9 = (1 : Int32) then fx_Mo_calls_b62  σ x2 s0 else tx_rd σ 51 8 x2 fun v11 => tx_ci (fx_Mo_take σ s0 ((2 : Int32) + v11)) fun r13 σ12 => fx_Mo_calls_b62  σ12 x2 r13)
def fx_Mo_calls (σ : tx_St) (x1 : Int32) (x2 : Int32) : Option (Int32 × tx_St) := tx_ci (fx_Mo_isMethod σ x2) fun r2 σ1 => (if r2 = 0 then some ((-1 : Int32), σ1) else tx_rd σ1 54 8 x2 fun v4 => (if 0 ≤ v4 then tx_rd σ1 54 8 x2 fun v6 => tx_ci (fx_Mo_take σ1 x1 v6) fun r8 σ7 => fx_Mo_calls_b34  σ7 x2 r8 else fx_Mo_calls_b34  σ1 x2 x1))
set_option maxRecDepth 100000 in
set_option maxHeartbeats 4000000 in
theorem fx_Mo_calls_b62_w {l : Launch} {E : tx_E} (σ : tx_St) (x2 : Int32) (s0 : Int32) (t : Int32 × tx_St) (hT : fx_Mo_calls_b62 σ x2 s0 = some t) : gx l E mi_Mo_calls (some (.int t.1), t.2) σ [(0, .ref (E.1 45)), (2, .int x2)] 62 [.int s0] := by
  unfold fx_Mo_calls_b62 at hT
  refine gx_istore_n (pc := 62) [(3, .int s0), (0, .ref (E.1 45)), (2, .int x2)] d_Mo_calls_62 rfl (Nat.le_of_ble_eq_true rfl) rfl ?_
  refine gx_iload_n (pc := 63) 0 d_Mo_calls_63 rfl rfl ?_
  refine gx_aload_n (pc := 64) 1 d_Mo_calls_64 rfl rfl ?_
  refine gx_getR (pc := 65) 55 fl_Mo_37 d_Mo_calls_65 (rfl) (by decide) rfl ?_
  refine gx_iload_n (pc := 68) 2 d_Mo_calls_68 rfl rfl ?_
  obtain ⟨v14, gv14, iv14, hT⟩ := tx_rd_some hT
  refine gx_iald (pc := 69) v14 d_Mo_calls_69 (rfl) iv14 gv14 ?_
  obtain ⟨r16, σ15, cσ15, hT⟩ := tx_ci_some hT
  refine gx_callS (pc := 70) (As := [.int s0, .int v14]) (rest := []) cm_Mo_give lk_Mo_137 (fx_Mo_give_c l E σ s0 v14 _ cσ15) rfl rfl tx_fi_Mo_calls_Mo_give (Nat.le_of_ble_eq_true rfl) d_Mo_calls_70 ?_
  change gx l E mi_Mo_calls _ σ15 [(3, .int s0), (0, .ref (E.1 45)), (2, .int x2)] 73 [.int r16]
  cases hT
  exact gx_iret (pc := 73) d_Mo_calls_73 rfl rfl
set_option maxRecDepth 100000 in
set_option maxHeartbeats 4000000 in
theorem fx_Mo_calls_b34_w {l : Launch} {E : tx_E} (σ : tx_St) (x2 : Int32) (s0 : Int32) (t : Int32 × tx_St) (hT : fx_Mo_calls_b34 σ x2 s0 = some t) : gx l E mi_Mo_calls (some (.int t.1), t.2) σ [(0, .ref (E.1 45)), (2, .int x2)] 34 [.int s0] := by
  unfold fx_Mo_calls_b34 at hT
  refine gx_istore_n (pc := 34) [(3, .int s0), (0, .ref (E.1 45)), (2, .int x2)] d_Mo_calls_34 rfl (Nat.le_of_ble_eq_true rfl) rfl ?_
  refine gx_aload_n (pc := 35) 1 d_Mo_calls_35 rfl rfl ?_
  refine gx_getR (pc := 36) 52 fl_Mo_28 d_Mo_calls_36 (rfl) (by decide) rfl ?_
  refine gx_iload_n (pc := 39) 2 d_Mo_calls_39 rfl rfl ?_
  obtain ⟨v9, gv9, iv9, hT⟩ := tx_rd_some hT
  refine gx_iald (pc := 40) v9 d_Mo_calls_40 (rfl) iv9 gv9 ?_
  refine gx_iconst (pc := 41) (1 : Int32) d_Mo_calls_41 (by decide) ?_
  refine gx_icmp_ne (pc := 42) 49 d_Mo_calls_42 rfl (fun h10 => ?_) (fun h10 => ?_)
  · have hT := tx_ifn h10 hT
    refine gx_aload_n (pc := 49) 1 d_Mo_calls_49 rfl rfl ?_
    refine gx_iload_n (pc := 50) 0 d_Mo_calls_50 rfl rfl ?_
    refine gx_iconst (pc := 51) (2 : Int32) d_Mo_calls_51 (by decide) ?_
    refine gx_aload_n (pc := 52) 1 d_Mo_calls_52 rfl rfl ?_
    refine gx_getR (pc := 53) 51 fl_Mo_25 d_Mo_calls_53 (rfl) (by decide) rfl ?_
    refine gx_iload_n (pc := 56) 2 d_Mo_calls_56 rfl rfl ?_
    obtain ⟨v11, gv11, iv11, hT⟩ := tx_rd_some hT
    refine gx_iald (pc := 57) v11 d_Mo_calls_57 (rfl) iv11 gv11 ?_
    refine gx_iadd (pc := 58) d_Mo_calls_58 ?_
    obtain ⟨r13, σ12, cσ12, hT⟩ := tx_ci_some hT
    refine gx_callV (pc := 59) (As := [.int s0, .int ((2 : Int32) + v11)]) (rest := []) cm_Mo_take lk_Mo_143 (fx_Mo_take_c l E σ s0 ((2 : Int32) + v11) _ cσ12) (rfl) (by decide) rfl rfl tx_fi_Mo_calls_Mo_take (Nat.le_of_ble_eq_true rfl) d_Mo_calls_59 ?_
    change gx l E mi_Mo_calls _ σ12 [(3, .int s0), (0, .ref (E.1 45)), (2, .int x2)] 62 [.int r13]
    refine gx_sub [1, 2] rfl ?_
    exact fx_Mo_calls_b62_w  σ12 x2 r13 _ hT
  · have hT := tx_ifp h10 hT
    refine gx_iload_n (pc := 45) 0 d_Mo_calls_45 rfl rfl ?_
    refine gx_goto (pc := 46) 62 d_Mo_calls_46 rfl ?_
    refine gx_sub [1, 2] rfl ?_
    exact fx_Mo_calls_b62_w  σ x2 s0 _ hT
set_option maxRecDepth 100000 in
set_option maxHeartbeats 4000000 in
theorem fx_Mo_calls_c (l : Launch) (E : tx_E) (σ : tx_St) (x1 : Int32) (x2 : Int32) (t : Int32 × tx_St) (hT : fx_Mo_calls σ x1 x2 = some t) : tx_MX l E y_Mo_calls mi_Mo_calls (some (.int t.1), t.2) [.ref (E.1 45), .int x1, .int x2] σ := by
  refine tx_MX_of (by decide) rfl (Nat.le_of_ble_eq_true rfl) ?_
  show gx l E mi_Mo_calls (some (.int t.1), t.2) σ [(0, .ref (E.1 45)), (1, .int x1), (2, .int x2)] 0 []
  unfold fx_Mo_calls at hT
  refine gx_aload_n (pc := 0) 0 d_Mo_calls_0 rfl rfl ?_
  refine gx_iload_n (pc := 1) 2 d_Mo_calls_1 rfl rfl ?_
  obtain ⟨r2, σ1, cσ1, hT⟩ := tx_ci_some hT
  refine gx_callV (pc := 2) (As := [.int x2]) (rest := []) cm_Mo_isMethod lk_Mo_108 (fx_Mo_isMethod_c l E σ x2 _ cσ1) (rfl) (by decide) rfl rfl tx_fi_Mo_calls_Mo_isMethod (Nat.le_of_ble_eq_true rfl) d_Mo_calls_2 ?_
  change gx l E mi_Mo_calls _ σ1 [(0, .ref (E.1 45)), (1, .int x1), (2, .int x2)] 5 [.int r2]
  refine gx_if_ne (pc := 5) 10 d_Mo_calls_5 rfl (fun h3 => ?_) (fun h3 => ?_)
  · have hT := tx_ifn h3 hT
    refine gx_aload_n (pc := 10) 0 d_Mo_calls_10 rfl rfl ?_
    refine gx_getR (pc := 11) 54 fl_Mo_34 d_Mo_calls_11 (rfl) (by decide) rfl ?_
    refine gx_iload_n (pc := 14) 2 d_Mo_calls_14 rfl rfl ?_
    obtain ⟨v4, gv4, iv4, hT⟩ := tx_rd_some hT
    refine gx_iald (pc := 15) v4 d_Mo_calls_15 (rfl) iv4 gv4 ?_
    refine gx_if_ge (pc := 16) 23 d_Mo_calls_16 rfl (fun h5 => ?_) (fun h5 => ?_)
    · have hT := tx_ifp h5 hT
      refine gx_aload_n (pc := 23) 0 d_Mo_calls_23 rfl rfl ?_
      refine gx_iload_n (pc := 24) 1 d_Mo_calls_24 rfl rfl ?_
      refine gx_aload_n (pc := 25) 0 d_Mo_calls_25 rfl rfl ?_
      refine gx_getR (pc := 26) 54 fl_Mo_34 d_Mo_calls_26 (rfl) (by decide) rfl ?_
      refine gx_iload_n (pc := 29) 2 d_Mo_calls_29 rfl rfl ?_
      obtain ⟨v6, gv6, iv6, hT⟩ := tx_rd_some hT
      refine gx_iald (pc := 30) v6 d_Mo_calls_30 (rfl) iv6 gv6 ?_
      obtain ⟨r8, σ7, cσ7, hT⟩ := tx_ci_some hT
      refine gx_callV (pc := 31) (As := [.int x1, .int v6]) (rest := []) cm_Mo_take lk_Mo_143 (fx_Mo_take_c l E σ1 x1 v6 _ cσ7) (rfl) (by decide) rfl rfl tx_fi_Mo_calls_Mo_take (Nat.le_of_ble_eq_true rfl) d_Mo_calls_31 ?_
      change gx l E mi_Mo_calls _ σ7 [(0, .ref (E.1 45)), (1, .int x1), (2, .int x2)] 34 [.int r8]
      refine gx_sub [0, 2] rfl ?_
      exact fx_Mo_calls_b34_w  σ7 x2 r8 _ hT
    · have hT := tx_ifn h5 hT
      refine gx_iload_n (pc := 19) 1 d_Mo_calls_19 rfl rfl ?_
      refine gx_goto (pc := 20) 34 d_Mo_calls_20 rfl ?_
      refine gx_sub [0, 2] rfl ?_
      exact fx_Mo_calls_b34_w  σ1 x2 x1 _ hT
  · have hT := tx_ifp h3 hT
    refine gx_iconst (pc := 8) (-1 : Int32) d_Mo_calls_8 (by decide) ?_
    cases hT
    exact gx_iret (pc := 9) d_Mo_calls_9 rfl rfl
theorem d_Mo_takeThing_0 : decode c_Mo_takeThing 0 = .ok (.iload_n 1, 1) := by decide +kernel
theorem d_Mo_takeThing_1 : decode c_Mo_takeThing 1 = .ok (.ifCond .lt (12), 3) := by decide +kernel
theorem d_Mo_takeThing_4 : decode c_Mo_takeThing 4 = .ok (.iload_n 1, 1) := by decide +kernel
theorem d_Mo_takeThing_5 : decode c_Mo_takeThing 5 = .ok (.iconst (0), 1) := by decide +kernel
theorem d_Mo_takeThing_6 : decode c_Mo_takeThing 6 = .ok (.invokestatic 128, 3) := by decide +kernel
theorem d_Mo_takeThing_9 : decode c_Mo_takeThing 9 = .ok (.iconst (1), 1) := by decide +kernel
theorem d_Mo_takeThing_10 : decode c_Mo_takeThing 10 = .ok (.if_icmp .ge (7), 3) := by decide +kernel
theorem d_Mo_takeThing_13 : decode c_Mo_takeThing 13 = .ok (.iconst (-1), 1) := by decide +kernel
theorem d_Mo_takeThing_14 : decode c_Mo_takeThing 14 = .ok (.goto (7), 3) := by decide +kernel
theorem d_Mo_takeThing_17 : decode c_Mo_takeThing 17 = .ok (.iload_n 1, 1) := by decide +kernel
theorem d_Mo_takeThing_18 : decode c_Mo_takeThing 18 = .ok (.invokestatic 134, 3) := by decide +kernel
theorem d_Mo_takeThing_21 : decode c_Mo_takeThing 21 = .ok (.ireturn, 1) := by decide +kernel
def fx_Mo_takeThing_b21 (σ : tx_St) (s0 : Int32) : Option (Int32 × tx_St) := some (s0, σ)
def fx_Mo_takeThing_b13 (σ : tx_St) : Option (Int32 × tx_St) := fx_Mo_takeThing_b21  σ (-1 : Int32)
def fx_Mo_takeThing (σ : tx_St) (x1 : Int32) : Option (Int32 × tx_St) := (if x1 < 0 then fx_Mo_takeThing_b13  σ else tx_ci (fx_Mo_typeAt σ x1 (0 : Int32)) fun r3 σ2 => (if (1 : Int32) ≤ r3 then tx_ci (fx_Mo_drop σ2 x1) fun r6 σ5 => fx_Mo_takeThing_b21  σ5 r6 else fx_Mo_takeThing_b13  σ2))
set_option maxRecDepth 100000 in
set_option maxHeartbeats 4000000 in
theorem fx_Mo_takeThing_b21_w {l : Launch} {E : tx_E} (σ : tx_St) (s0 : Int32) (t : Int32 × tx_St) (hT : fx_Mo_takeThing_b21 σ s0 = some t) : gx l E mi_Mo_takeThing (some (.int t.1), t.2) σ [] 21 [.int s0] := by
  unfold fx_Mo_takeThing_b21 at hT
  cases hT
  exact gx_iret (pc := 21) d_Mo_takeThing_21 rfl rfl
set_option maxRecDepth 100000 in
set_option maxHeartbeats 4000000 in
theorem fx_Mo_takeThing_b13_w {l : Launch} {E : tx_E} (σ : tx_St) (t : Int32 × tx_St) (hT : fx_Mo_takeThing_b13 σ  = some t) : gx l E mi_Mo_takeThing (some (.int t.1), t.2) σ [] 13 [] := by
  unfold fx_Mo_takeThing_b13 at hT
  refine gx_iconst (pc := 13) (-1 : Int32) d_Mo_takeThing_13 (by decide) ?_
  refine gx_goto (pc := 14) 21 d_Mo_takeThing_14 rfl ?_
  exact fx_Mo_takeThing_b21_w  σ (-1 : Int32) _ hT
set_option maxRecDepth 100000 in
set_option maxHeartbeats 4000000 in
theorem fx_Mo_takeThing_c (l : Launch) (E : tx_E) (σ : tx_St) (x1 : Int32) (t : Int32 × tx_St) (hT : fx_Mo_takeThing σ x1 = some t) : tx_MX l E y_Mo_takeThing mi_Mo_takeThing (some (.int t.1), t.2) [.ref (E.1 45), .int x1] σ := by
  refine tx_MX_of (by decide) rfl (Nat.le_of_ble_eq_true rfl) ?_
  show gx l E mi_Mo_takeThing (some (.int t.1), t.2) σ [(0, .ref (E.1 45)), (1, .int x1)] 0 []
  unfold fx_Mo_takeThing at hT
  refine gx_iload_n (pc := 0) 1 d_Mo_takeThing_0 rfl rfl ?_
  refine gx_if_lt (pc := 1) 13 d_Mo_takeThing_1 rfl (fun h1 => ?_) (fun h1 => ?_)
  · have hT := tx_ifp h1 hT
    refine gx_sub [] rfl ?_
    exact fx_Mo_takeThing_b13_w  σ _ hT
  · have hT := tx_ifn h1 hT
    refine gx_iload_n (pc := 4) 1 d_Mo_takeThing_4 rfl rfl ?_
    refine gx_iconst (pc := 5) (0 : Int32) d_Mo_takeThing_5 (by decide) ?_
    obtain ⟨r3, σ2, cσ2, hT⟩ := tx_ci_some hT
    refine gx_callS (pc := 6) (As := [.int x1, .int (0 : Int32)]) (rest := []) cm_Mo_typeAt lk_Mo_128 (fx_Mo_typeAt_c l E σ x1 (0 : Int32) _ cσ2) rfl rfl tx_fi_Mo_takeThing_Mo_typeAt (Nat.le_of_ble_eq_true rfl) d_Mo_takeThing_6 ?_
    change gx l E mi_Mo_takeThing _ σ2 [(0, .ref (E.1 45)), (1, .int x1)] 9 [.int r3]
    refine gx_iconst (pc := 9) (1 : Int32) d_Mo_takeThing_9 (by decide) ?_
    refine gx_icmp_ge (pc := 10) 17 d_Mo_takeThing_10 rfl (fun h4 => ?_) (fun h4 => ?_)
    · have hT := tx_ifp h4 hT
      refine gx_iload_n (pc := 17) 1 d_Mo_takeThing_17 rfl rfl ?_
      obtain ⟨r6, σ5, cσ5, hT⟩ := tx_ci_some hT
      refine gx_callS (pc := 18) (As := [.int x1]) (rest := []) cm_Mo_drop lk_Mo_134 (fx_Mo_drop_c l E σ2 x1 _ cσ5) rfl rfl tx_fi_Mo_takeThing_Mo_drop (Nat.le_of_ble_eq_true rfl) d_Mo_takeThing_18 ?_
      change gx l E mi_Mo_takeThing _ σ5 [(0, .ref (E.1 45)), (1, .int x1)] 21 [.int r6]
      refine gx_sub [] rfl ?_
      exact fx_Mo_takeThing_b21_w  σ5 r6 _ hT
    · have hT := tx_ifn h4 hT
      refine gx_sub [] rfl ?_
      exact fx_Mo_takeThing_b13_w  σ2 _ hT
theorem d_Mo_after_0 : decode c_Mo_after 0 = .ok (.aload_n 0, 1) := by decide +kernel
theorem d_Mo_after_1 : decode c_Mo_after 1 = .ok (.getfield 49, 3) := by decide +kernel
theorem d_Mo_after_4 : decode c_Mo_after 4 = .ok (.bipush (12), 2) := by decide +kernel
theorem d_Mo_after_6 : decode c_Mo_after 6 = .ok (.iload_n 1, 1) := by decide +kernel
theorem d_Mo_after_7 : decode c_Mo_after 7 = .ok (.imul, 1) := by decide +kernel
theorem d_Mo_after_8 : decode c_Mo_after 8 = .ok (.iload_n 2, 1) := by decide +kernel
theorem d_Mo_after_9 : decode c_Mo_after 9 = .ok (.iadd, 1) := by decide +kernel
theorem d_Mo_after_10 : decode c_Mo_after 10 = .ok (.iaload, 1) := by decide +kernel
theorem d_Mo_after_11 : decode c_Mo_after 11 = .ok (.istore_n 3, 1) := by decide +kernel
theorem d_Mo_after_12 : decode c_Mo_after 12 = .ok (.aload_n 0, 1) := by decide +kernel
theorem d_Mo_after_13 : decode c_Mo_after 13 = .ok (.getfield 43, 3) := by decide +kernel
theorem d_Mo_after_16 : decode c_Mo_after 16 = .ok (.bipush (12), 2) := by decide +kernel
theorem d_Mo_after_18 : decode c_Mo_after 18 = .ok (.iload_n 1, 1) := by decide +kernel
theorem d_Mo_after_19 : decode c_Mo_after 19 = .ok (.imul, 1) := by decide +kernel
theorem d_Mo_after_20 : decode c_Mo_after 20 = .ok (.iload_n 2, 1) := by decide +kernel
theorem d_Mo_after_21 : decode c_Mo_after 21 = .ok (.iadd, 1) := by decide +kernel
theorem d_Mo_after_22 : decode c_Mo_after 22 = .ok (.iaload, 1) := by decide +kernel
theorem d_Mo_after_23 : decode c_Mo_after 23 = .ok (.istore 4, 2) := by decide +kernel
theorem d_Mo_after_25 : decode c_Mo_after 25 = .ok (.aload_n 0, 1) := by decide +kernel
theorem d_Mo_after_26 : decode c_Mo_after 26 = .ok (.getfield 46, 3) := by decide +kernel
theorem d_Mo_after_29 : decode c_Mo_after 29 = .ok (.bipush (12), 2) := by decide +kernel
theorem d_Mo_after_31 : decode c_Mo_after 31 = .ok (.iload_n 1, 1) := by decide +kernel
theorem d_Mo_after_32 : decode c_Mo_after 32 = .ok (.imul, 1) := by decide +kernel
theorem d_Mo_after_33 : decode c_Mo_after 33 = .ok (.iload_n 2, 1) := by decide +kernel
theorem d_Mo_after_34 : decode c_Mo_after 34 = .ok (.iadd, 1) := by decide +kernel
theorem d_Mo_after_35 : decode c_Mo_after 35 = .ok (.iaload, 1) := by decide +kernel
theorem d_Mo_after_36 : decode c_Mo_after 36 = .ok (.istore 5, 2) := by decide +kernel
theorem d_Mo_after_38 : decode c_Mo_after 38 = .ok (.iload 4, 2) := by decide +kernel
theorem d_Mo_after_40 : decode c_Mo_after 40 = .ok (.ifCond .ne (9), 3) := by decide +kernel
theorem d_Mo_after_43 : decode c_Mo_after 43 = .ok (.iload_n 3, 1) := by decide +kernel
theorem d_Mo_after_44 : decode c_Mo_after 44 = .ok (.iconst (0), 1) := by decide +kernel
theorem d_Mo_after_45 : decode c_Mo_after 45 = .ok (.invokestatic 137, 3) := by decide +kernel
theorem d_Mo_after_48 : decode c_Mo_after 48 = .ok (.ireturn, 1) := by decide +kernel
theorem d_Mo_after_49 : decode c_Mo_after 49 = .ok (.iload 4, 2) := by decide +kernel
theorem d_Mo_after_51 : decode c_Mo_after 51 = .ok (.iconst (1), 1) := by decide +kernel
theorem d_Mo_after_52 : decode c_Mo_after 52 = .ok (.if_icmp .ne (11), 3) := by decide +kernel
theorem d_Mo_after_55 : decode c_Mo_after 55 = .ok (.aload_n 0, 1) := by decide +kernel
theorem d_Mo_after_56 : decode c_Mo_after 56 = .ok (.iload_n 3, 1) := by decide +kernel
theorem d_Mo_after_57 : decode c_Mo_after 57 = .ok (.iload 5, 2) := by decide +kernel
theorem d_Mo_after_59 : decode c_Mo_after 59 = .ok (.invokevirtual 150, 3) := by decide +kernel
theorem d_Mo_after_62 : decode c_Mo_after 62 = .ok (.ireturn, 1) := by decide +kernel
theorem d_Mo_after_63 : decode c_Mo_after 63 = .ok (.iload 4, 2) := by decide +kernel
theorem d_Mo_after_65 : decode c_Mo_after 65 = .ok (.iconst (2), 1) := by decide +kernel
theorem d_Mo_after_66 : decode c_Mo_after 66 = .ok (.if_icmp .ne (11), 3) := by decide +kernel
theorem d_Mo_after_69 : decode c_Mo_after 69 = .ok (.aload_n 0, 1) := by decide +kernel
theorem d_Mo_after_70 : decode c_Mo_after 70 = .ok (.iload_n 3, 1) := by decide +kernel
theorem d_Mo_after_71 : decode c_Mo_after 71 = .ok (.iload 5, 2) := by decide +kernel
theorem d_Mo_after_73 : decode c_Mo_after 73 = .ok (.invokevirtual 153, 3) := by decide +kernel
theorem d_Mo_after_76 : decode c_Mo_after 76 = .ok (.ireturn, 1) := by decide +kernel
theorem d_Mo_after_77 : decode c_Mo_after 77 = .ok (.iload 4, 2) := by decide +kernel
theorem d_Mo_after_79 : decode c_Mo_after 79 = .ok (.iconst (4), 1) := by decide +kernel
theorem d_Mo_after_80 : decode c_Mo_after 80 = .ok (.if_icmp .gt (19), 3) := by decide +kernel
theorem d_Mo_after_83 : decode c_Mo_after 83 = .ok (.aload_n 0, 1) := by decide +kernel
theorem d_Mo_after_84 : decode c_Mo_after 84 = .ok (.aload_n 0, 1) := by decide +kernel
theorem d_Mo_after_85 : decode c_Mo_after 85 = .ok (.iload_n 3, 1) := by decide +kernel
theorem d_Mo_after_86 : decode c_Mo_after 86 = .ok (.iconst (0), 1) := by decide +kernel
theorem d_Mo_after_87 : decode c_Mo_after 87 = .ok (.invokevirtual 143, 3) := by decide +kernel
theorem d_Mo_after_90 : decode c_Mo_after 90 = .ok (.iconst (0), 1) := by decide +kernel
theorem d_Mo_after_91 : decode c_Mo_after 91 = .ok (.invokevirtual 143, 3) := by decide +kernel
theorem d_Mo_after_94 : decode c_Mo_after 94 = .ok (.iconst (0), 1) := by decide +kernel
theorem d_Mo_after_95 : decode c_Mo_after 95 = .ok (.invokestatic 137, 3) := by decide +kernel
theorem d_Mo_after_98 : decode c_Mo_after 98 = .ok (.ireturn, 1) := by decide +kernel
theorem d_Mo_after_99 : decode c_Mo_after 99 = .ok (.iload 4, 2) := by decide +kernel
theorem d_Mo_after_101 : decode c_Mo_after 101 = .ok (.iconst (5), 1) := by decide +kernel
theorem d_Mo_after_102 : decode c_Mo_after 102 = .ok (.if_icmp .ne (5), 3) := by decide +kernel
theorem d_Mo_after_105 : decode c_Mo_after 105 = .ok (.iload_n 3, 1) := by decide +kernel
theorem d_Mo_after_106 : decode c_Mo_after 106 = .ok (.ireturn, 1) := by decide +kernel
theorem d_Mo_after_107 : decode c_Mo_after 107 = .ok (.iload 4, 2) := by decide +kernel
theorem d_Mo_after_109 : decode c_Mo_after 109 = .ok (.bipush (6), 2) := by decide +kernel
theorem d_Mo_after_111 : decode c_Mo_after 111 = .ok (.if_icmp .ne (10), 3) := by decide +kernel
theorem d_Mo_after_114 : decode c_Mo_after 114 = .ok (.aload_n 0, 1) := by decide +kernel
theorem d_Mo_after_115 : decode c_Mo_after 115 = .ok (.iload_n 3, 1) := by decide +kernel
theorem d_Mo_after_116 : decode c_Mo_after 116 = .ok (.iconst (0), 1) := by decide +kernel
theorem d_Mo_after_117 : decode c_Mo_after 117 = .ok (.invokevirtual 143, 3) := by decide +kernel
theorem d_Mo_after_120 : decode c_Mo_after 120 = .ok (.ireturn, 1) := by decide +kernel
theorem d_Mo_after_121 : decode c_Mo_after 121 = .ok (.iload 4, 2) := by decide +kernel
theorem d_Mo_after_123 : decode c_Mo_after 123 = .ok (.bipush (7), 2) := by decide +kernel
theorem d_Mo_after_125 : decode c_Mo_after 125 = .ok (.if_icmp .ne (11), 3) := by decide +kernel
theorem d_Mo_after_128 : decode c_Mo_after 128 = .ok (.aload_n 0, 1) := by decide +kernel
theorem d_Mo_after_129 : decode c_Mo_after 129 = .ok (.iload_n 3, 1) := by decide +kernel
theorem d_Mo_after_130 : decode c_Mo_after 130 = .ok (.iload 5, 2) := by decide +kernel
theorem d_Mo_after_132 : decode c_Mo_after 132 = .ok (.invokevirtual 156, 3) := by decide +kernel
theorem d_Mo_after_135 : decode c_Mo_after 135 = .ok (.ireturn, 1) := by decide +kernel
theorem d_Mo_after_136 : decode c_Mo_after 136 = .ok (.iload 4, 2) := by decide +kernel
theorem d_Mo_after_138 : decode c_Mo_after 138 = .ok (.bipush (11), 2) := by decide +kernel
theorem d_Mo_after_140 : decode c_Mo_after 140 = .ok (.if_icmp .gt (13), 3) := by decide +kernel
theorem d_Mo_after_143 : decode c_Mo_after 143 = .ok (.aload_n 0, 1) := by decide +kernel
theorem d_Mo_after_144 : decode c_Mo_after 144 = .ok (.iload 4, 2) := by decide +kernel
theorem d_Mo_after_146 : decode c_Mo_after 146 = .ok (.iload_n 3, 1) := by decide +kernel
theorem d_Mo_after_147 : decode c_Mo_after 147 = .ok (.iload 5, 2) := by decide +kernel
theorem d_Mo_after_149 : decode c_Mo_after 149 = .ok (.invokevirtual 159, 3) := by decide +kernel
theorem d_Mo_after_152 : decode c_Mo_after 152 = .ok (.ireturn, 1) := by decide +kernel
theorem d_Mo_after_153 : decode c_Mo_after 153 = .ok (.iload 4, 2) := by decide +kernel
theorem d_Mo_after_155 : decode c_Mo_after 155 = .ok (.bipush (12), 2) := by decide +kernel
theorem d_Mo_after_157 : decode c_Mo_after 157 = .ok (.if_icmp .ne (11), 3) := by decide +kernel
theorem d_Mo_after_160 : decode c_Mo_after 160 = .ok (.aload_n 0, 1) := by decide +kernel
theorem d_Mo_after_161 : decode c_Mo_after 161 = .ok (.iload_n 3, 1) := by decide +kernel
theorem d_Mo_after_162 : decode c_Mo_after 162 = .ok (.iload 5, 2) := by decide +kernel
theorem d_Mo_after_164 : decode c_Mo_after 164 = .ok (.invokevirtual 163, 3) := by decide +kernel
theorem d_Mo_after_167 : decode c_Mo_after 167 = .ok (.ireturn, 1) := by decide +kernel
theorem d_Mo_after_168 : decode c_Mo_after 168 = .ok (.iload 4, 2) := by decide +kernel
theorem d_Mo_after_170 : decode c_Mo_after 170 = .ok (.bipush (13), 2) := by decide +kernel
theorem d_Mo_after_172 : decode c_Mo_after 172 = .ok (.if_icmp .ne (14), 3) := by decide +kernel
theorem d_Mo_after_175 : decode c_Mo_after 175 = .ok (.aload_n 0, 1) := by decide +kernel
theorem d_Mo_after_176 : decode c_Mo_after 176 = .ok (.iload_n 3, 1) := by decide +kernel
theorem d_Mo_after_177 : decode c_Mo_after 177 = .ok (.iconst (0), 1) := by decide +kernel
theorem d_Mo_after_178 : decode c_Mo_after 178 = .ok (.invokevirtual 143, 3) := by decide +kernel
theorem d_Mo_after_181 : decode c_Mo_after 181 = .ok (.iconst (1), 1) := by decide +kernel
theorem d_Mo_after_182 : decode c_Mo_after 182 = .ok (.invokestatic 137, 3) := by decide +kernel
theorem d_Mo_after_185 : decode c_Mo_after 185 = .ok (.ireturn, 1) := by decide +kernel
theorem d_Mo_after_186 : decode c_Mo_after 186 = .ok (.iload 4, 2) := by decide +kernel
theorem d_Mo_after_188 : decode c_Mo_after 188 = .ok (.bipush (14), 2) := by decide +kernel
theorem d_Mo_after_190 : decode c_Mo_after 190 = .ok (.if_icmp .ne (14), 3) := by decide +kernel
theorem d_Mo_after_193 : decode c_Mo_after 193 = .ok (.aload_n 0, 1) := by decide +kernel
theorem d_Mo_after_194 : decode c_Mo_after 194 = .ok (.iload_n 3, 1) := by decide +kernel
theorem d_Mo_after_195 : decode c_Mo_after 195 = .ok (.iconst (1), 1) := by decide +kernel
theorem d_Mo_after_196 : decode c_Mo_after 196 = .ok (.invokevirtual 143, 3) := by decide +kernel
theorem d_Mo_after_199 : decode c_Mo_after 199 = .ok (.iconst (0), 1) := by decide +kernel
theorem d_Mo_after_200 : decode c_Mo_after 200 = .ok (.invokestatic 137, 3) := by decide +kernel
theorem d_Mo_after_203 : decode c_Mo_after 203 = .ok (.ireturn, 1) := by decide +kernel
theorem d_Mo_after_204 : decode c_Mo_after 204 = .ok (.iload 4, 2) := by decide +kernel
theorem d_Mo_after_206 : decode c_Mo_after 206 = .ok (.bipush (15), 2) := by decide +kernel
theorem d_Mo_after_208 : decode c_Mo_after 208 = .ok (.if_icmp .ne (15), 3) := by decide +kernel
theorem d_Mo_after_211 : decode c_Mo_after 211 = .ok (.aload_n 0, 1) := by decide +kernel
theorem d_Mo_after_212 : decode c_Mo_after 212 = .ok (.aload_n 0, 1) := by decide +kernel
theorem d_Mo_after_213 : decode c_Mo_after 213 = .ok (.iload_n 3, 1) := by decide +kernel
theorem d_Mo_after_214 : decode c_Mo_after 214 = .ok (.iconst (0), 1) := by decide +kernel
theorem d_Mo_after_215 : decode c_Mo_after 215 = .ok (.invokevirtual 143, 3) := by decide +kernel
theorem d_Mo_after_218 : decode c_Mo_after 218 = .ok (.iconst (1), 1) := by decide +kernel
theorem d_Mo_after_219 : decode c_Mo_after 219 = .ok (.invokevirtual 143, 3) := by decide +kernel
theorem d_Mo_after_222 : decode c_Mo_after 222 = .ok (.ireturn, 1) := by decide +kernel
theorem d_Mo_after_223 : decode c_Mo_after 223 = .ok (.iload 4, 2) := by decide +kernel
theorem d_Mo_after_225 : decode c_Mo_after 225 = .ok (.bipush (16), 2) := by decide +kernel
theorem d_Mo_after_227 : decode c_Mo_after 227 = .ok (.if_icmp .ne (17), 3) := by decide +kernel
theorem d_Mo_after_230 : decode c_Mo_after 230 = .ok (.aload_n 0, 1) := by decide +kernel
theorem d_Mo_after_231 : decode c_Mo_after 231 = .ok (.aload_n 0, 1) := by decide +kernel
theorem d_Mo_after_232 : decode c_Mo_after 232 = .ok (.iload_n 3, 1) := by decide +kernel
theorem d_Mo_after_233 : decode c_Mo_after 233 = .ok (.invokevirtual 166, 3) := by decide +kernel
theorem d_Mo_after_236 : decode c_Mo_after 236 = .ok (.invokevirtual 166, 3) := by decide +kernel
theorem d_Mo_after_239 : decode c_Mo_after 239 = .ok (.iconst (0), 1) := by decide +kernel
theorem d_Mo_after_240 : decode c_Mo_after 240 = .ok (.invokestatic 137, 3) := by decide +kernel
theorem d_Mo_after_243 : decode c_Mo_after 243 = .ok (.ireturn, 1) := by decide +kernel
theorem d_Mo_after_244 : decode c_Mo_after 244 = .ok (.iload 4, 2) := by decide +kernel
theorem d_Mo_after_246 : decode c_Mo_after 246 = .ok (.bipush (17), 2) := by decide +kernel
theorem d_Mo_after_248 : decode c_Mo_after 248 = .ok (.if_icmp .ne (25), 3) := by decide +kernel
theorem d_Mo_after_251 : decode c_Mo_after 251 = .ok (.aload_n 0, 1) := by decide +kernel
theorem d_Mo_after_252 : decode c_Mo_after 252 = .ok (.iload 5, 2) := by decide +kernel
theorem d_Mo_after_254 : decode c_Mo_after 254 = .ok (.invokevirtual 87, 3) := by decide +kernel
theorem d_Mo_after_257 : decode c_Mo_after 257 = .ok (.ifCond .eq (14), 3) := by decide +kernel
theorem d_Mo_after_260 : decode c_Mo_after 260 = .ok (.iload_n 3, 1) := by decide +kernel
theorem d_Mo_after_261 : decode c_Mo_after 261 = .ok (.iconst (2), 1) := by decide +kernel
theorem d_Mo_after_262 : decode c_Mo_after 262 = .ok (.iload 5, 2) := by decide +kernel
theorem d_Mo_after_264 : decode c_Mo_after 264 = .ok (.iadd, 1) := by decide +kernel
theorem d_Mo_after_265 : decode c_Mo_after 265 = .ok (.invokestatic 137, 3) := by decide +kernel
theorem d_Mo_after_268 : decode c_Mo_after 268 = .ok (.goto (4), 3) := by decide +kernel
theorem d_Mo_after_271 : decode c_Mo_after 271 = .ok (.iconst (-1), 1) := by decide +kernel
theorem d_Mo_after_272 : decode c_Mo_after 272 = .ok (.ireturn, 1) := by decide +kernel
theorem d_Mo_after_273 : decode c_Mo_after 273 = .ok (.iload 4, 2) := by decide +kernel
theorem d_Mo_after_275 : decode c_Mo_after 275 = .ok (.bipush (18), 2) := by decide +kernel
theorem d_Mo_after_277 : decode c_Mo_after 277 = .ok (.if_icmp .ne (29), 3) := by decide +kernel
theorem d_Mo_after_280 : decode c_Mo_after 280 = .ok (.iload 5, 2) := by decide +kernel
theorem d_Mo_after_282 : decode c_Mo_after 282 = .ok (.ifCond .lt (22), 3) := by decide +kernel
theorem d_Mo_after_285 : decode c_Mo_after 285 = .ok (.iload 5, 2) := by decide +kernel
theorem d_Mo_after_287 : decode c_Mo_after 287 = .ok (.iconst (3), 1) := by decide +kernel
theorem d_Mo_after_288 : decode c_Mo_after 288 = .ok (.if_icmp .gt (16), 3) := by decide +kernel
theorem d_Mo_after_291 : decode c_Mo_after 291 = .ok (.aload_n 0, 1) := by decide +kernel
theorem d_Mo_after_292 : decode c_Mo_after 292 = .ok (.iload_n 3, 1) := by decide +kernel
theorem d_Mo_after_293 : decode c_Mo_after 293 = .ok (.iconst (0), 1) := by decide +kernel
theorem d_Mo_after_294 : decode c_Mo_after 294 = .ok (.invokevirtual 143, 3) := by decide +kernel
theorem d_Mo_after_297 : decode c_Mo_after 297 = .ok (.iconst (0), 1) := by decide +kernel
theorem d_Mo_after_298 : decode c_Mo_after 298 = .ok (.invokestatic 137, 3) := by decide +kernel
theorem d_Mo_after_301 : decode c_Mo_after 301 = .ok (.goto (4), 3) := by decide +kernel
theorem d_Mo_after_304 : decode c_Mo_after 304 = .ok (.iconst (-1), 1) := by decide +kernel
theorem d_Mo_after_305 : decode c_Mo_after 305 = .ok (.ireturn, 1) := by decide +kernel
theorem d_Mo_after_306 : decode c_Mo_after 306 = .ok (.aload_n 0, 1) := by decide +kernel
theorem d_Mo_after_307 : decode c_Mo_after 307 = .ok (.iload_n 3, 1) := by decide +kernel
theorem d_Mo_after_308 : decode c_Mo_after 308 = .ok (.aload_n 0, 1) := by decide +kernel
theorem d_Mo_after_309 : decode c_Mo_after 309 = .ok (.getfield 37, 3) := by decide +kernel
theorem d_Mo_after_312 : decode c_Mo_after 312 = .ok (.iload_n 1, 1) := by decide +kernel
theorem d_Mo_after_313 : decode c_Mo_after 313 = .ok (.iaload, 1) := by decide +kernel
theorem d_Mo_after_314 : decode c_Mo_after 314 = .ok (.invokevirtual 143, 3) := by decide +kernel
theorem d_Mo_after_317 : decode c_Mo_after 317 = .ok (.ireturn, 1) := by decide +kernel
def fx_Mo_after_b305 (σ : tx_St) (s0 : Int32) : Option (Int32 × tx_St) := some (s0, σ)
def fx_Mo_after_b304 (σ : tx_St) : Option (Int32 × tx_St) := fx_Mo_after_b305  σ (-1 : Int32)
def fx_Mo_after_b272 (σ : tx_St) (s0 : Int32) : Option (Int32 × tx_St) := some (s0, σ)
def fx_Mo_after (σ : tx_St) (x1 : Int32) (x2 : Int32) : Option (Int32 × tx_St) := tx_rd σ 59 96 (((12 : Int32) * x1) + x2) fun v1 => tx_rd σ 57 96 (((12 : Int32) * x1) + x2) fun v2 => tx_rd σ 58 96 (((12 : Int32) * x1) + x2) fun v3 => (if v2 = 0 then tx_ci (fx_Mo_give σ v1 (0 : Int32)) fun r70 σ69 => some (r70, σ69) else (if v2 = (1 : Int32) then tx_ci (fx_Mo_loaded σ v1 v3) fun r68 σ67 => some (r68, σ67) else (if v2 = (2 : Int32) then tx_ci (fx_Mo_stored σ v1 v3) fun r66 σ65 => some (r66, σ65) else (if (4 : Int32) < v2 then (if v2 = (5 : Int32) then some (v1, σ) else (if v2 = (6 : Int32) then tx_ci (fx_Mo_take σ v1 (0 : Int32)) fun r58 σ57 => some (r58, σ57) else (if v2 = (7 : Int32) then tx_ci (fx_Mo_makes σ v1 v3) fun r56 σ55 => some (r56, σ55) else (if (11 : Int32) < v2 then (if v2 = (12 : Int32) then tx_ci (fx_Mo_calls σ v1 v3) fun r52 σ51 => some (r52, σ51) else (if v2 = (13 : Int32) then tx_ci (fx_Mo_take σ v1 (0 : Int32)) fun r48 σ47 => tx_ci (fx_Mo_give σ47 r48 (1 : Int32)) fun r50 σ49 => some (r50, σ49) else (if v2 = (14 : Int32) then tx_ci (fx_Mo_take σ v1 (1 : Int32)) fun r44 σ43 => tx_ci (fx_Mo_give σ43 r44 (0 : Int32)) fun r46 σ45 => some (r46, σ45) else (if v2 = (15 : Int32) then tx_ci (fx_Mo_take σ v1 (0 : Int32)) fun r40 σ39 => tx_ci (fx_Mo_take σ39 r40 (1 : Int32)) fun r42 σ41 => some (r42, σ41) else (if v2 = (16 : Int32) then tx_ci (fx_Mo_takeThing σ v1) fun r34 σ33 => tx_ci (fx_Mo_takeThing σ33 r34) fun r36 σ35 => tx_ci (fx_Mo_give σ35 r36 (0 : Int32)) fun r38 σ37 => some (r38, σ37) else (if v2 = (17 : Int32) then tx_ci (fx_Mo_isClass σ v3) fun r29 σ28 => (if r29 = 0 then fx_Mo_after_b272  σ28 (-1 : Int32) else tx_ci (fx_Mo_give σ28 v1 ((2 : Int32) + v3)) fun r32 σ31 => fx_Mo_after_b272  σ31 r32) else (if v2 = (18 : Int32) then (if v3 < 0 then fx_Mo_after_b304  σ else (if (3 : Int32) < v3 then fx_Mo_after_b304  σ else tx_ci (fx_Mo_take σ v1 (0 : Int32)) fun r25 σ24 => tx_ci (fx_Mo_give σ24 r25 (0 : Int32)) fun r27 σ26 => fx_Mo_after_b305  σ26 r27)) else tx_rd σ 55 8 x1 fun v19 => tx_ci (fx_Mo_take σ v1 v19) fun r21 σ20 => some (r21, σ20)))))))) else tx_ci (fx_Mo_fielded σ v2 v1 v3) fun r54 σ53 => some (r54, σ53))))) else tx_ci (fx_Mo_take σ v1 (0 : Int32)) fun r60 σ59 => tx_ci (fx_Mo_take σ59 r60 (0 : Int32)) fun r62 σ61 => tx_ci (fx_Mo_give σ61 r62 (0 : Int32)) fun r64 σ63 => some (r64, σ63)))))
set_option maxRecDepth 100000 in
set_option maxHeartbeats 4000000 in
theorem fx_Mo_after_b305_w {l : Launch} {E : tx_E} (σ : tx_St) (s0 : Int32) (t : Int32 × tx_St) (hT : fx_Mo_after_b305 σ s0 = some t) : gx l E mi_Mo_after (some (.int t.1), t.2) σ [] 305 [.int s0] := by
  unfold fx_Mo_after_b305 at hT
  cases hT
  exact gx_iret (pc := 305) d_Mo_after_305 rfl rfl
set_option maxRecDepth 100000 in
set_option maxHeartbeats 4000000 in
theorem fx_Mo_after_b304_w {l : Launch} {E : tx_E} (σ : tx_St) (t : Int32 × tx_St) (hT : fx_Mo_after_b304 σ  = some t) : gx l E mi_Mo_after (some (.int t.1), t.2) σ [] 304 [] := by
  unfold fx_Mo_after_b304 at hT
  refine gx_iconst (pc := 304) (-1 : Int32) d_Mo_after_304 (by decide) ?_
  exact fx_Mo_after_b305_w  σ (-1 : Int32) _ hT
set_option maxRecDepth 100000 in
set_option maxHeartbeats 4000000 in
theorem fx_Mo_after_b272_w {l : Launch} {E : tx_E} (σ : tx_St) (s0 : Int32) (t : Int32 × tx_St) (hT : fx_Mo_after_b272 σ s0 = some t) : gx l E mi_Mo_after (some (.int t.1), t.2) σ [] 272 [.int s0] := by
  unfold fx_Mo_after_b272 at hT
  cases hT
  exact gx_iret (pc := 272) d_Mo_after_272 rfl rfl
set_option maxRecDepth 100000 in
set_option maxHeartbeats 4000000 in
theorem fx_Mo_after_c (l : Launch) (E : tx_E) (σ : tx_St) (x1 : Int32) (x2 : Int32) (t : Int32 × tx_St) (hT : fx_Mo_after σ x1 x2 = some t) : tx_MX l E y_Mo_after mi_Mo_after (some (.int t.1), t.2) [.ref (E.1 45), .int x1, .int x2] σ := by
  refine tx_MX_of (by decide) rfl (Nat.le_of_ble_eq_true rfl) ?_
  show gx l E mi_Mo_after (some (.int t.1), t.2) σ [(0, .ref (E.1 45)), (1, .int x1), (2, .int x2)] 0 []
  unfold fx_Mo_after at hT
  refine gx_aload_n (pc := 0) 0 d_Mo_after_0 rfl rfl ?_
  refine gx_getR (pc := 1) 59 fl_Mo_49 d_Mo_after_1 (rfl) (by decide) rfl ?_
  refine gx_bipush (pc := 4) (12 : Int32) d_Mo_after_4 (by decide) ?_
  refine gx_iload_n (pc := 6) 1 d_Mo_after_6 rfl rfl ?_
  refine gx_imul (pc := 7) d_Mo_after_7 ?_
  refine gx_iload_n (pc := 8) 2 d_Mo_after_8 rfl rfl ?_
  refine gx_iadd (pc := 9) d_Mo_after_9 ?_
  obtain ⟨v1, gv1, iv1, hT⟩ := tx_rd_some hT
  refine gx_iald (pc := 10) v1 d_Mo_after_10 (rfl) iv1 gv1 ?_
  refine gx_istore_n (pc := 11) [(3, .int v1), (0, .ref (E.1 45)), (1, .int x1), (2, .int x2)] d_Mo_after_11 rfl (Nat.le_of_ble_eq_true rfl) rfl ?_
  refine gx_aload_n (pc := 12) 1 d_Mo_after_12 rfl rfl ?_
  refine gx_getR (pc := 13) 57 fl_Mo_43 d_Mo_after_13 (rfl) (by decide) rfl ?_
  refine gx_bipush (pc := 16) (12 : Int32) d_Mo_after_16 (by decide) ?_
  refine gx_iload_n (pc := 18) 2 d_Mo_after_18 rfl rfl ?_
  refine gx_imul (pc := 19) d_Mo_after_19 ?_
  refine gx_iload_n (pc := 20) 3 d_Mo_after_20 rfl rfl ?_
  refine gx_iadd (pc := 21) d_Mo_after_21 ?_
  obtain ⟨v2, gv2, iv2, hT⟩ := tx_rd_some hT
  refine gx_iald (pc := 22) v2 d_Mo_after_22 (rfl) iv2 gv2 ?_
  refine gx_istore (pc := 23) [(4, .int v2), (3, .int v1), (0, .ref (E.1 45)), (1, .int x1), (2, .int x2)] d_Mo_after_23 (Nat.le_of_ble_eq_true rfl) rfl ?_
  refine gx_aload_n (pc := 25) 2 d_Mo_after_25 rfl rfl ?_
  refine gx_getR (pc := 26) 58 fl_Mo_46 d_Mo_after_26 (rfl) (by decide) rfl ?_
  refine gx_bipush (pc := 29) (12 : Int32) d_Mo_after_29 (by decide) ?_
  refine gx_iload_n (pc := 31) 3 d_Mo_after_31 rfl rfl ?_
  refine gx_imul (pc := 32) d_Mo_after_32 ?_
  refine gx_iload_n (pc := 33) 4 d_Mo_after_33 rfl rfl ?_
  refine gx_iadd (pc := 34) d_Mo_after_34 ?_
  obtain ⟨v3, gv3, iv3, hT⟩ := tx_rd_some hT
  refine gx_iald (pc := 35) v3 d_Mo_after_35 (rfl) iv3 gv3 ?_
  refine gx_istore (pc := 36) [(5, .int v3), (4, .int v2), (3, .int v1), (0, .ref (E.1 45)), (1, .int x1), (2, .int x2)] d_Mo_after_36 (Nat.le_of_ble_eq_true rfl) rfl ?_
  refine gx_iload (pc := 38) 1 d_Mo_after_38 rfl ?_
  refine gx_if_ne (pc := 40) 49 d_Mo_after_40 rfl (fun h4 => ?_) (fun h4 => ?_)
  · have hT := tx_ifn h4 hT
    refine gx_iload (pc := 49) 1 d_Mo_after_49 rfl ?_
    refine gx_iconst (pc := 51) (1 : Int32) d_Mo_after_51 (by decide) ?_
    refine gx_icmp_ne (pc := 52) 63 d_Mo_after_52 rfl (fun h5 => ?_) (fun h5 => ?_)
    · have hT := tx_ifn h5 hT
      refine gx_iload (pc := 63) 1 d_Mo_after_63 rfl ?_
      refine gx_iconst (pc := 65) (2 : Int32) d_Mo_after_65 (by decide) ?_
      refine gx_icmp_ne (pc := 66) 77 d_Mo_after_66 rfl (fun h6 => ?_) (fun h6 => ?_)
      · have hT := tx_ifn h6 hT
        refine gx_iload (pc := 77) 1 d_Mo_after_77 rfl ?_
        refine gx_iconst (pc := 79) (4 : Int32) d_Mo_after_79 (by decide) ?_
        refine gx_icmp_gt (pc := 80) 99 d_Mo_after_80 rfl (fun h7 => ?_) (fun h7 => ?_)
        · have hT := tx_ifp h7 hT
          refine gx_iload (pc := 99) 1 d_Mo_after_99 rfl ?_
          refine gx_iconst (pc := 101) (5 : Int32) d_Mo_after_101 (by decide) ?_
          refine gx_icmp_ne (pc := 102) 107 d_Mo_after_102 rfl (fun h8 => ?_) (fun h8 => ?_)
          · have hT := tx_ifn h8 hT
            refine gx_iload (pc := 107) 1 d_Mo_after_107 rfl ?_
            refine gx_bipush (pc := 109) (6 : Int32) d_Mo_after_109 (by decide) ?_
            refine gx_icmp_ne (pc := 111) 121 d_Mo_after_111 rfl (fun h9 => ?_) (fun h9 => ?_)
            · have hT := tx_ifn h9 hT
              refine gx_iload (pc := 121) 1 d_Mo_after_121 rfl ?_
              refine gx_bipush (pc := 123) (7 : Int32) d_Mo_after_123 (by decide) ?_
              refine gx_icmp_ne (pc := 125) 136 d_Mo_after_125 rfl (fun h10 => ?_) (fun h10 => ?_)
              · have hT := tx_ifn h10 hT
                refine gx_iload (pc := 136) 1 d_Mo_after_136 rfl ?_
                refine gx_bipush (pc := 138) (11 : Int32) d_Mo_after_138 (by decide) ?_
                refine gx_icmp_gt (pc := 140) 153 d_Mo_after_140 rfl (fun h11 => ?_) (fun h11 => ?_)
                · have hT := tx_ifp h11 hT
                  refine gx_iload (pc := 153) 1 d_Mo_after_153 rfl ?_
                  refine gx_bipush (pc := 155) (12 : Int32) d_Mo_after_155 (by decide) ?_
                  refine gx_icmp_ne (pc := 157) 168 d_Mo_after_157 rfl (fun h12 => ?_) (fun h12 => ?_)
                  · have hT := tx_ifn h12 hT
                    refine gx_iload (pc := 168) 1 d_Mo_after_168 rfl ?_
                    refine gx_bipush (pc := 170) (13 : Int32) d_Mo_after_170 (by decide) ?_
                    refine gx_icmp_ne (pc := 172) 186 d_Mo_after_172 rfl (fun h13 => ?_) (fun h13 => ?_)
                    · have hT := tx_ifn h13 hT
                      refine gx_iload (pc := 186) 1 d_Mo_after_186 rfl ?_
                      refine gx_bipush (pc := 188) (14 : Int32) d_Mo_after_188 (by decide) ?_
                      refine gx_icmp_ne (pc := 190) 204 d_Mo_after_190 rfl (fun h14 => ?_) (fun h14 => ?_)
                      · have hT := tx_ifn h14 hT
                        refine gx_iload (pc := 204) 1 d_Mo_after_204 rfl ?_
                        refine gx_bipush (pc := 206) (15 : Int32) d_Mo_after_206 (by decide) ?_
                        refine gx_icmp_ne (pc := 208) 223 d_Mo_after_208 rfl (fun h15 => ?_) (fun h15 => ?_)
                        · have hT := tx_ifn h15 hT
                          refine gx_iload (pc := 223) 1 d_Mo_after_223 rfl ?_
                          refine gx_bipush (pc := 225) (16 : Int32) d_Mo_after_225 (by decide) ?_
                          refine gx_icmp_ne (pc := 227) 244 d_Mo_after_227 rfl (fun h16 => ?_) (fun h16 => ?_)
                          · have hT := tx_ifn h16 hT
                            refine gx_iload (pc := 244) 1 d_Mo_after_244 rfl ?_
                            refine gx_bipush (pc := 246) (17 : Int32) d_Mo_after_246 (by decide) ?_
                            refine gx_icmp_ne (pc := 248) 273 d_Mo_after_248 rfl (fun h17 => ?_) (fun h17 => ?_)
                            · have hT := tx_ifn h17 hT
                              refine gx_iload (pc := 273) 1 d_Mo_after_273 rfl ?_
                              refine gx_bipush (pc := 275) (18 : Int32) d_Mo_after_275 (by decide) ?_
                              refine gx_icmp_ne (pc := 277) 306 d_Mo_after_277 rfl (fun h18 => ?_) (fun h18 => ?_)
                              · have hT := tx_ifn h18 hT
                                refine gx_aload_n (pc := 306) 3 d_Mo_after_306 rfl rfl ?_
                                refine gx_iload_n (pc := 307) 2 d_Mo_after_307 rfl rfl ?_
                                refine gx_aload_n (pc := 308) 3 d_Mo_after_308 rfl rfl ?_
                                refine gx_getR (pc := 309) 55 fl_Mo_37 d_Mo_after_309 (rfl) (by decide) rfl ?_
                                refine gx_iload_n (pc := 312) 4 d_Mo_after_312 rfl rfl ?_
                                obtain ⟨v19, gv19, iv19, hT⟩ := tx_rd_some hT
                                refine gx_iald (pc := 313) v19 d_Mo_after_313 (rfl) iv19 gv19 ?_
                                obtain ⟨r21, σ20, cσ20, hT⟩ := tx_ci_some hT
                                refine gx_callV (pc := 314) (As := [.int v1, .int v19]) (rest := []) cm_Mo_take lk_Mo_143 (fx_Mo_take_c l E σ v1 v19 _ cσ20) (rfl) (by decide) rfl rfl tx_fi_Mo_after_Mo_take (Nat.le_of_ble_eq_true rfl) d_Mo_after_314 ?_
                                change gx l E mi_Mo_after _ σ20 [(5, .int v3), (4, .int v2), (3, .int v1), (0, .ref (E.1 45)), (1, .int x1), (2, .int x2)] 317 [.int r21]
                                cases hT
                                exact gx_iret (pc := 317) d_Mo_after_317 rfl rfl
                              · have hT := tx_ifp h18 hT
                                refine gx_iload (pc := 280) 0 d_Mo_after_280 rfl ?_
                                refine gx_if_lt (pc := 282) 304 d_Mo_after_282 rfl (fun h22 => ?_) (fun h22 => ?_)
                                · have hT := tx_ifp h22 hT
                                  refine gx_sub [] rfl ?_
                                  exact fx_Mo_after_b304_w  σ _ hT
                                · have hT := tx_ifn h22 hT
                                  refine gx_iload (pc := 285) 0 d_Mo_after_285 rfl ?_
                                  refine gx_iconst (pc := 287) (3 : Int32) d_Mo_after_287 (by decide) ?_
                                  refine gx_icmp_gt (pc := 288) 304 d_Mo_after_288 rfl (fun h23 => ?_) (fun h23 => ?_)
                                  · have hT := tx_ifp h23 hT
                                    refine gx_sub [] rfl ?_
                                    exact fx_Mo_after_b304_w  σ _ hT
                                  · have hT := tx_ifn h23 hT
                                    refine gx_aload_n (pc := 291) 3 d_Mo_after_291 rfl rfl ?_
                                    refine gx_iload_n (pc := 292) 2 d_Mo_after_292 rfl rfl ?_
                                    refine gx_iconst (pc := 293) (0 : Int32) d_Mo_after_293 (by decide) ?_
                                    obtain ⟨r25, σ24, cσ24, hT⟩ := tx_ci_some hT
                                    refine gx_callV (pc := 294) (As := [.int v1, .int (0 : Int32)]) (rest := []) cm_Mo_take lk_Mo_143 (fx_Mo_take_c l E σ v1 (0 : Int32) _ cσ24) (rfl) (by decide) rfl rfl tx_fi_Mo_after_Mo_take (Nat.le_of_ble_eq_true rfl) d_Mo_after_294 ?_
                                    change gx l E mi_Mo_after _ σ24 [(5, .int v3), (4, .int v2), (3, .int v1), (0, .ref (E.1 45)), (1, .int x1), (2, .int x2)] 297 [.int r25]
                                    refine gx_iconst (pc := 297) (0 : Int32) d_Mo_after_297 (by decide) ?_
                                    obtain ⟨r27, σ26, cσ26, hT⟩ := tx_ci_some hT
                                    refine gx_callS (pc := 298) (As := [.int r25, .int (0 : Int32)]) (rest := []) cm_Mo_give lk_Mo_137 (fx_Mo_give_c l E σ24 r25 (0 : Int32) _ cσ26) rfl rfl tx_fi_Mo_after_Mo_give (Nat.le_of_ble_eq_true rfl) d_Mo_after_298 ?_
                                    change gx l E mi_Mo_after _ σ26 [(5, .int v3), (4, .int v2), (3, .int v1), (0, .ref (E.1 45)), (1, .int x1), (2, .int x2)] 301 [.int r27]
                                    refine gx_goto (pc := 301) 305 d_Mo_after_301 rfl ?_
                                    refine gx_sub [] rfl ?_
                                    exact fx_Mo_after_b305_w  σ26 r27 _ hT
                            · have hT := tx_ifp h17 hT
                              refine gx_aload_n (pc := 251) 3 d_Mo_after_251 rfl rfl ?_
                              refine gx_iload (pc := 252) 0 d_Mo_after_252 rfl ?_
                              obtain ⟨r29, σ28, cσ28, hT⟩ := tx_ci_some hT
                              refine gx_callV (pc := 254) (As := [.int v3]) (rest := []) cm_Mo_isClass lk_Mo_87 (fx_Mo_isClass_c l E σ v3 _ cσ28) (rfl) (by decide) rfl rfl tx_fi_Mo_after_Mo_isClass (Nat.le_of_ble_eq_true rfl) d_Mo_after_254 ?_
                              change gx l E mi_Mo_after _ σ28 [(5, .int v3), (4, .int v2), (3, .int v1), (0, .ref (E.1 45)), (1, .int x1), (2, .int x2)] 257 [.int r29]
                              refine gx_if_eq (pc := 257) 271 d_Mo_after_257 rfl (fun h30 => ?_) (fun h30 => ?_)
                              · have hT := tx_ifp h30 hT
                                refine gx_iconst (pc := 271) (-1 : Int32) d_Mo_after_271 (by decide) ?_
                                refine gx_sub [] rfl ?_
                                exact fx_Mo_after_b272_w  σ28 (-1 : Int32) _ hT
                              · have hT := tx_ifn h30 hT
                                refine gx_iload_n (pc := 260) 2 d_Mo_after_260 rfl rfl ?_
                                refine gx_iconst (pc := 261) (2 : Int32) d_Mo_after_261 (by decide) ?_
                                refine gx_iload (pc := 262) 0 d_Mo_after_262 rfl ?_
                                refine gx_iadd (pc := 264) d_Mo_after_264 ?_
                                obtain ⟨r32, σ31, cσ31, hT⟩ := tx_ci_some hT
                                refine gx_callS (pc := 265) (As := [.int v1, .int ((2 : Int32) + v3)]) (rest := []) cm_Mo_give lk_Mo_137 (fx_Mo_give_c l E σ28 v1 ((2 : Int32) + v3) _ cσ31) rfl rfl tx_fi_Mo_after_Mo_give (Nat.le_of_ble_eq_true rfl) d_Mo_after_265 ?_
                                change gx l E mi_Mo_after _ σ31 [(5, .int v3), (4, .int v2), (3, .int v1), (0, .ref (E.1 45)), (1, .int x1), (2, .int x2)] 268 [.int r32]
                                refine gx_goto (pc := 268) 272 d_Mo_after_268 rfl ?_
                                refine gx_sub [] rfl ?_
                                exact fx_Mo_after_b272_w  σ31 r32 _ hT
                          · have hT := tx_ifp h16 hT
                            refine gx_aload_n (pc := 230) 3 d_Mo_after_230 rfl rfl ?_
                            refine gx_aload_n (pc := 231) 3 d_Mo_after_231 rfl rfl ?_
                            refine gx_iload_n (pc := 232) 2 d_Mo_after_232 rfl rfl ?_
                            obtain ⟨r34, σ33, cσ33, hT⟩ := tx_ci_some hT
                            refine gx_callV (pc := 233) (As := [.int v1]) (rest := [.ref (E.1 45)]) cm_Mo_takeThing lk_Mo_166 (fx_Mo_takeThing_c l E σ v1 _ cσ33) (rfl) (by decide) rfl rfl tx_fi_Mo_after_Mo_takeThing (Nat.le_of_ble_eq_true rfl) d_Mo_after_233 ?_
                            change gx l E mi_Mo_after _ σ33 [(5, .int v3), (4, .int v2), (3, .int v1), (0, .ref (E.1 45)), (1, .int x1), (2, .int x2)] 236 [.int r34, .ref (E.1 45)]
                            obtain ⟨r36, σ35, cσ35, hT⟩ := tx_ci_some hT
                            refine gx_callV (pc := 236) (As := [.int r34]) (rest := []) cm_Mo_takeThing lk_Mo_166 (fx_Mo_takeThing_c l E σ33 r34 _ cσ35) (rfl) (by decide) rfl rfl tx_fi_Mo_after_Mo_takeThing (Nat.le_of_ble_eq_true rfl) d_Mo_after_236 ?_
                            change gx l E mi_Mo_after _ σ35 [(5, .int v3), (4, .int v2), (3, .int v1), (0, .ref (E.1 45)), (1, .int x1), (2, .int x2)] 239 [.int r36]
                            refine gx_iconst (pc := 239) (0 : Int32) d_Mo_after_239 (by decide) ?_
                            obtain ⟨r38, σ37, cσ37, hT⟩ := tx_ci_some hT
                            refine gx_callS (pc := 240) (As := [.int r36, .int (0 : Int32)]) (rest := []) cm_Mo_give lk_Mo_137 (fx_Mo_give_c l E σ35 r36 (0 : Int32) _ cσ37) rfl rfl tx_fi_Mo_after_Mo_give (Nat.le_of_ble_eq_true rfl) d_Mo_after_240 ?_
                            change gx l E mi_Mo_after _ σ37 [(5, .int v3), (4, .int v2), (3, .int v1), (0, .ref (E.1 45)), (1, .int x1), (2, .int x2)] 243 [.int r38]
                            cases hT
                            exact gx_iret (pc := 243) d_Mo_after_243 rfl rfl
                        · have hT := tx_ifp h15 hT
                          refine gx_aload_n (pc := 211) 3 d_Mo_after_211 rfl rfl ?_
                          refine gx_aload_n (pc := 212) 3 d_Mo_after_212 rfl rfl ?_
                          refine gx_iload_n (pc := 213) 2 d_Mo_after_213 rfl rfl ?_
                          refine gx_iconst (pc := 214) (0 : Int32) d_Mo_after_214 (by decide) ?_
                          obtain ⟨r40, σ39, cσ39, hT⟩ := tx_ci_some hT
                          refine gx_callV (pc := 215) (As := [.int v1, .int (0 : Int32)]) (rest := [.ref (E.1 45)]) cm_Mo_take lk_Mo_143 (fx_Mo_take_c l E σ v1 (0 : Int32) _ cσ39) (rfl) (by decide) rfl rfl tx_fi_Mo_after_Mo_take (Nat.le_of_ble_eq_true rfl) d_Mo_after_215 ?_
                          change gx l E mi_Mo_after _ σ39 [(5, .int v3), (4, .int v2), (3, .int v1), (0, .ref (E.1 45)), (1, .int x1), (2, .int x2)] 218 [.int r40, .ref (E.1 45)]
                          refine gx_iconst (pc := 218) (1 : Int32) d_Mo_after_218 (by decide) ?_
                          obtain ⟨r42, σ41, cσ41, hT⟩ := tx_ci_some hT
                          refine gx_callV (pc := 219) (As := [.int r40, .int (1 : Int32)]) (rest := []) cm_Mo_take lk_Mo_143 (fx_Mo_take_c l E σ39 r40 (1 : Int32) _ cσ41) (rfl) (by decide) rfl rfl tx_fi_Mo_after_Mo_take (Nat.le_of_ble_eq_true rfl) d_Mo_after_219 ?_
                          change gx l E mi_Mo_after _ σ41 [(5, .int v3), (4, .int v2), (3, .int v1), (0, .ref (E.1 45)), (1, .int x1), (2, .int x2)] 222 [.int r42]
                          cases hT
                          exact gx_iret (pc := 222) d_Mo_after_222 rfl rfl
                      · have hT := tx_ifp h14 hT
                        refine gx_aload_n (pc := 193) 3 d_Mo_after_193 rfl rfl ?_
                        refine gx_iload_n (pc := 194) 2 d_Mo_after_194 rfl rfl ?_
                        refine gx_iconst (pc := 195) (1 : Int32) d_Mo_after_195 (by decide) ?_
                        obtain ⟨r44, σ43, cσ43, hT⟩ := tx_ci_some hT
                        refine gx_callV (pc := 196) (As := [.int v1, .int (1 : Int32)]) (rest := []) cm_Mo_take lk_Mo_143 (fx_Mo_take_c l E σ v1 (1 : Int32) _ cσ43) (rfl) (by decide) rfl rfl tx_fi_Mo_after_Mo_take (Nat.le_of_ble_eq_true rfl) d_Mo_after_196 ?_
                        change gx l E mi_Mo_after _ σ43 [(5, .int v3), (4, .int v2), (3, .int v1), (0, .ref (E.1 45)), (1, .int x1), (2, .int x2)] 199 [.int r44]
                        refine gx_iconst (pc := 199) (0 : Int32) d_Mo_after_199 (by decide) ?_
                        obtain ⟨r46, σ45, cσ45, hT⟩ := tx_ci_some hT
                        refine gx_callS (pc := 200) (As := [.int r44, .int (0 : Int32)]) (rest := []) cm_Mo_give lk_Mo_137 (fx_Mo_give_c l E σ43 r44 (0 : Int32) _ cσ45) rfl rfl tx_fi_Mo_after_Mo_give (Nat.le_of_ble_eq_true rfl) d_Mo_after_200 ?_
                        change gx l E mi_Mo_after _ σ45 [(5, .int v3), (4, .int v2), (3, .int v1), (0, .ref (E.1 45)), (1, .int x1), (2, .int x2)] 203 [.int r46]
                        cases hT
                        exact gx_iret (pc := 203) d_Mo_after_203 rfl rfl
                    · have hT := tx_ifp h13 hT
                      refine gx_aload_n (pc := 175) 3 d_Mo_after_175 rfl rfl ?_
                      refine gx_iload_n (pc := 176) 2 d_Mo_after_176 rfl rfl ?_
                      refine gx_iconst (pc := 177) (0 : Int32) d_Mo_after_177 (by decide) ?_
                      obtain ⟨r48, σ47, cσ47, hT⟩ := tx_ci_some hT
                      refine gx_callV (pc := 178) (As := [.int v1, .int (0 : Int32)]) (rest := []) cm_Mo_take lk_Mo_143 (fx_Mo_take_c l E σ v1 (0 : Int32) _ cσ47) (rfl) (by decide) rfl rfl tx_fi_Mo_after_Mo_take (Nat.le_of_ble_eq_true rfl) d_Mo_after_178 ?_
                      change gx l E mi_Mo_after _ σ47 [(5, .int v3), (4, .int v2), (3, .int v1), (0, .ref (E.1 45)), (1, .int x1), (2, .int x2)] 181 [.int r48]
                      refine gx_iconst (pc := 181) (1 : Int32) d_Mo_after_181 (by decide) ?_
                      obtain ⟨r50, σ49, cσ49, hT⟩ := tx_ci_some hT
                      refine gx_callS (pc := 182) (As := [.int r48, .int (1 : Int32)]) (rest := []) cm_Mo_give lk_Mo_137 (fx_Mo_give_c l E σ47 r48 (1 : Int32) _ cσ49) rfl rfl tx_fi_Mo_after_Mo_give (Nat.le_of_ble_eq_true rfl) d_Mo_after_182 ?_
                      change gx l E mi_Mo_after _ σ49 [(5, .int v3), (4, .int v2), (3, .int v1), (0, .ref (E.1 45)), (1, .int x1), (2, .int x2)] 185 [.int r50]
                      cases hT
                      exact gx_iret (pc := 185) d_Mo_after_185 rfl rfl
                  · have hT := tx_ifp h12 hT
                    refine gx_aload_n (pc := 160) 3 d_Mo_after_160 rfl rfl ?_
                    refine gx_iload_n (pc := 161) 2 d_Mo_after_161 rfl rfl ?_
                    refine gx_iload (pc := 162) 0 d_Mo_after_162 rfl ?_
                    obtain ⟨r52, σ51, cσ51, hT⟩ := tx_ci_some hT
                    refine gx_callV (pc := 164) (As := [.int v1, .int v3]) (rest := []) cm_Mo_calls lk_Mo_163 (fx_Mo_calls_c l E σ v1 v3 _ cσ51) (rfl) (by decide) rfl rfl tx_fi_Mo_after_Mo_calls (Nat.le_of_ble_eq_true rfl) d_Mo_after_164 ?_
                    change gx l E mi_Mo_after _ σ51 [(5, .int v3), (4, .int v2), (3, .int v1), (0, .ref (E.1 45)), (1, .int x1), (2, .int x2)] 167 [.int r52]
                    cases hT
                    exact gx_iret (pc := 167) d_Mo_after_167 rfl rfl
                · have hT := tx_ifn h11 hT
                  refine gx_aload_n (pc := 143) 3 d_Mo_after_143 rfl rfl ?_
                  refine gx_iload (pc := 144) 1 d_Mo_after_144 rfl ?_
                  refine gx_iload_n (pc := 146) 2 d_Mo_after_146 rfl rfl ?_
                  refine gx_iload (pc := 147) 0 d_Mo_after_147 rfl ?_
                  obtain ⟨r54, σ53, cσ53, hT⟩ := tx_ci_some hT
                  refine gx_callV (pc := 149) (As := [.int v2, .int v1, .int v3]) (rest := []) cm_Mo_fielded lk_Mo_159 (fx_Mo_fielded_c l E σ v2 v1 v3 _ cσ53) (rfl) (by decide) rfl rfl tx_fi_Mo_after_Mo_fielded (Nat.le_of_ble_eq_true rfl) d_Mo_after_149 ?_
                  change gx l E mi_Mo_after _ σ53 [(5, .int v3), (4, .int v2), (3, .int v1), (0, .ref (E.1 45)), (1, .int x1), (2, .int x2)] 152 [.int r54]
                  cases hT
                  exact gx_iret (pc := 152) d_Mo_after_152 rfl rfl
              · have hT := tx_ifp h10 hT
                refine gx_aload_n (pc := 128) 3 d_Mo_after_128 rfl rfl ?_
                refine gx_iload_n (pc := 129) 2 d_Mo_after_129 rfl rfl ?_
                refine gx_iload (pc := 130) 0 d_Mo_after_130 rfl ?_
                obtain ⟨r56, σ55, cσ55, hT⟩ := tx_ci_some hT
                refine gx_callV (pc := 132) (As := [.int v1, .int v3]) (rest := []) cm_Mo_makes lk_Mo_156 (fx_Mo_makes_c l E σ v1 v3 _ cσ55) (rfl) (by decide) rfl rfl tx_fi_Mo_after_Mo_makes (Nat.le_of_ble_eq_true rfl) d_Mo_after_132 ?_
                change gx l E mi_Mo_after _ σ55 [(5, .int v3), (4, .int v2), (3, .int v1), (0, .ref (E.1 45)), (1, .int x1), (2, .int x2)] 135 [.int r56]
                cases hT
                exact gx_iret (pc := 135) d_Mo_after_135 rfl rfl
            · have hT := tx_ifp h9 hT
              refine gx_aload_n (pc := 114) 3 d_Mo_after_114 rfl rfl ?_
              refine gx_iload_n (pc := 115) 2 d_Mo_after_115 rfl rfl ?_
              refine gx_iconst (pc := 116) (0 : Int32) d_Mo_after_116 (by decide) ?_
              obtain ⟨r58, σ57, cσ57, hT⟩ := tx_ci_some hT
              refine gx_callV (pc := 117) (As := [.int v1, .int (0 : Int32)]) (rest := []) cm_Mo_take lk_Mo_143 (fx_Mo_take_c l E σ v1 (0 : Int32) _ cσ57) (rfl) (by decide) rfl rfl tx_fi_Mo_after_Mo_take (Nat.le_of_ble_eq_true rfl) d_Mo_after_117 ?_
              change gx l E mi_Mo_after _ σ57 [(5, .int v3), (4, .int v2), (3, .int v1), (0, .ref (E.1 45)), (1, .int x1), (2, .int x2)] 120 [.int r58]
              cases hT
              exact gx_iret (pc := 120) d_Mo_after_120 rfl rfl
          · have hT := tx_ifp h8 hT
            refine gx_iload_n (pc := 105) 2 d_Mo_after_105 rfl rfl ?_
            cases hT
            exact gx_iret (pc := 106) d_Mo_after_106 rfl rfl
        · have hT := tx_ifn h7 hT
          refine gx_aload_n (pc := 83) 3 d_Mo_after_83 rfl rfl ?_
          refine gx_aload_n (pc := 84) 3 d_Mo_after_84 rfl rfl ?_
          refine gx_iload_n (pc := 85) 2 d_Mo_after_85 rfl rfl ?_
          refine gx_iconst (pc := 86) (0 : Int32) d_Mo_after_86 (by decide) ?_
          obtain ⟨r60, σ59, cσ59, hT⟩ := tx_ci_some hT
          refine gx_callV (pc := 87) (As := [.int v1, .int (0 : Int32)]) (rest := [.ref (E.1 45)]) cm_Mo_take lk_Mo_143 (fx_Mo_take_c l E σ v1 (0 : Int32) _ cσ59) (rfl) (by decide) rfl rfl tx_fi_Mo_after_Mo_take (Nat.le_of_ble_eq_true rfl) d_Mo_after_87 ?_
          change gx l E mi_Mo_after _ σ59 [(5, .int v3), (4, .int v2), (3, .int v1), (0, .ref (E.1 45)), (1, .int x1), (2, .int x2)] 90 [.int r60, .ref (E.1 45)]
          refine gx_iconst (pc := 90) (0 : Int32) d_Mo_after_90 (by decide) ?_
          obtain ⟨r62, σ61, cσ61, hT⟩ := tx_ci_some hT
          refine gx_callV (pc := 91) (As := [.int r60, .int (0 : Int32)]) (rest := []) cm_Mo_take lk_Mo_143 (fx_Mo_take_c l E σ59 r60 (0 : Int32) _ cσ61) (rfl) (by decide) rfl rfl tx_fi_Mo_after_Mo_take (Nat.le_of_ble_eq_true rfl) d_Mo_after_91 ?_
          change gx l E mi_Mo_after _ σ61 [(5, .int v3), (4, .int v2), (3, .int v1), (0, .ref (E.1 45)), (1, .int x1), (2, .int x2)] 94 [.int r62]
          refine gx_iconst (pc := 94) (0 : Int32) d_Mo_after_94 (by decide) ?_
          obtain ⟨r64, σ63, cσ63, hT⟩ := tx_ci_some hT
          refine gx_callS (pc := 95) (As := [.int r62, .int (0 : Int32)]) (rest := []) cm_Mo_give lk_Mo_137 (fx_Mo_give_c l E σ61 r62 (0 : Int32) _ cσ63) rfl rfl tx_fi_Mo_after_Mo_give (Nat.le_of_ble_eq_true rfl) d_Mo_after_95 ?_
          change gx l E mi_Mo_after _ σ63 [(5, .int v3), (4, .int v2), (3, .int v1), (0, .ref (E.1 45)), (1, .int x1), (2, .int x2)] 98 [.int r64]
          cases hT
          exact gx_iret (pc := 98) d_Mo_after_98 rfl rfl
      · have hT := tx_ifp h6 hT
        refine gx_aload_n (pc := 69) 3 d_Mo_after_69 rfl rfl ?_
        refine gx_iload_n (pc := 70) 2 d_Mo_after_70 rfl rfl ?_
        refine gx_iload (pc := 71) 0 d_Mo_after_71 rfl ?_
        obtain ⟨r66, σ65, cσ65, hT⟩ := tx_ci_some hT
        refine gx_callV (pc := 73) (As := [.int v1, .int v3]) (rest := []) cm_Mo_stored lk_Mo_153 (fx_Mo_stored_c l E σ v1 v3 _ cσ65) (rfl) (by decide) rfl rfl tx_fi_Mo_after_Mo_stored (Nat.le_of_ble_eq_true rfl) d_Mo_after_73 ?_
        change gx l E mi_Mo_after _ σ65 [(5, .int v3), (4, .int v2), (3, .int v1), (0, .ref (E.1 45)), (1, .int x1), (2, .int x2)] 76 [.int r66]
        cases hT
        exact gx_iret (pc := 76) d_Mo_after_76 rfl rfl
    · have hT := tx_ifp h5 hT
      refine gx_aload_n (pc := 55) 3 d_Mo_after_55 rfl rfl ?_
      refine gx_iload_n (pc := 56) 2 d_Mo_after_56 rfl rfl ?_
      refine gx_iload (pc := 57) 0 d_Mo_after_57 rfl ?_
      obtain ⟨r68, σ67, cσ67, hT⟩ := tx_ci_some hT
      refine gx_callV (pc := 59) (As := [.int v1, .int v3]) (rest := []) cm_Mo_loaded lk_Mo_150 (fx_Mo_loaded_c l E σ v1 v3 _ cσ67) (rfl) (by decide) rfl rfl tx_fi_Mo_after_Mo_loaded (Nat.le_of_ble_eq_true rfl) d_Mo_after_59 ?_
      change gx l E mi_Mo_after _ σ67 [(5, .int v3), (4, .int v2), (3, .int v1), (0, .ref (E.1 45)), (1, .int x1), (2, .int x2)] 62 [.int r68]
      cases hT
      exact gx_iret (pc := 62) d_Mo_after_62 rfl rfl
  · have hT := tx_ifp h4 hT
    refine gx_iload_n (pc := 43) 2 d_Mo_after_43 rfl rfl ?_
    refine gx_iconst (pc := 44) (0 : Int32) d_Mo_after_44 (by decide) ?_
    obtain ⟨r70, σ69, cσ69, hT⟩ := tx_ci_some hT
    refine gx_callS (pc := 45) (As := [.int v1, .int (0 : Int32)]) (rest := []) cm_Mo_give lk_Mo_137 (fx_Mo_give_c l E σ v1 (0 : Int32) _ cσ69) rfl rfl tx_fi_Mo_after_Mo_give (Nat.le_of_ble_eq_true rfl) d_Mo_after_45 ?_
    change gx l E mi_Mo_after _ σ69 [(5, .int v3), (4, .int v2), (3, .int v1), (0, .ref (E.1 45)), (1, .int x1), (2, .int x2)] 48 [.int r70]
    cases hT
    exact gx_iret (pc := 48) d_Mo_after_48 rfl rfl
theorem d_Mo_onward_0 : decode c_Mo_onward 0 = .ok (.aload_n 0, 1) := by decide +kernel
theorem d_Mo_onward_1 : decode c_Mo_onward 1 = .ok (.getfield 43, 3) := by decide +kernel
theorem d_Mo_onward_4 : decode c_Mo_onward 4 = .ok (.bipush (12), 2) := by decide +kernel
theorem d_Mo_onward_6 : decode c_Mo_onward 6 = .ok (.iload_n 1, 1) := by decide +kernel
theorem d_Mo_onward_7 : decode c_Mo_onward 7 = .ok (.imul, 1) := by decide +kernel
theorem d_Mo_onward_8 : decode c_Mo_onward 8 = .ok (.iload_n 2, 1) := by decide +kernel
theorem d_Mo_onward_9 : decode c_Mo_onward 9 = .ok (.iadd, 1) := by decide +kernel
theorem d_Mo_onward_10 : decode c_Mo_onward 10 = .ok (.iaload, 1) := by decide +kernel
theorem d_Mo_onward_11 : decode c_Mo_onward 11 = .ok (.istore_n 3, 1) := by decide +kernel
theorem d_Mo_onward_12 : decode c_Mo_onward 12 = .ok (.aload_n 0, 1) := by decide +kernel
theorem d_Mo_onward_13 : decode c_Mo_onward 13 = .ok (.getfield 46, 3) := by decide +kernel
theorem d_Mo_onward_16 : decode c_Mo_onward 16 = .ok (.bipush (12), 2) := by decide +kernel
theorem d_Mo_onward_18 : decode c_Mo_onward 18 = .ok (.iload_n 1, 1) := by decide +kernel
theorem d_Mo_onward_19 : decode c_Mo_onward 19 = .ok (.imul, 1) := by decide +kernel
theorem d_Mo_onward_20 : decode c_Mo_onward 20 = .ok (.iload_n 2, 1) := by decide +kernel
theorem d_Mo_onward_21 : decode c_Mo_onward 21 = .ok (.iadd, 1) := by decide +kernel
theorem d_Mo_onward_22 : decode c_Mo_onward 22 = .ok (.iaload, 1) := by decide +kernel
theorem d_Mo_onward_23 : decode c_Mo_onward 23 = .ok (.istore 4, 2) := by decide +kernel
theorem d_Mo_onward_25 : decode c_Mo_onward 25 = .ok (.aload_n 0, 1) := by decide +kernel
theorem d_Mo_onward_26 : decode c_Mo_onward 26 = .ok (.iload_n 1, 1) := by decide +kernel
theorem d_Mo_onward_27 : decode c_Mo_onward 27 = .ok (.iload_n 2, 1) := by decide +kernel
theorem d_Mo_onward_28 : decode c_Mo_onward 28 = .ok (.invokevirtual 172, 3) := by decide +kernel
theorem d_Mo_onward_31 : decode c_Mo_onward 31 = .ok (.istore 5, 2) := by decide +kernel
theorem d_Mo_onward_33 : decode c_Mo_onward 33 = .ok (.iload 5, 2) := by decide +kernel
theorem d_Mo_onward_35 : decode c_Mo_onward 35 = .ok (.ifCond .ge (5), 3) := by decide +kernel
theorem d_Mo_onward_38 : decode c_Mo_onward 38 = .ok (.iconst (0), 1) := by decide +kernel
theorem d_Mo_onward_39 : decode c_Mo_onward 39 = .ok (.ireturn, 1) := by decide +kernel
theorem d_Mo_onward_40 : decode c_Mo_onward 40 = .ok (.iload_n 3, 1) := by decide +kernel
theorem d_Mo_onward_41 : decode c_Mo_onward 41 = .ok (.bipush (19), 2) := by decide +kernel
theorem d_Mo_onward_43 : decode c_Mo_onward 43 = .ok (.if_icmp .ne (5), 3) := by decide +kernel
theorem d_Mo_onward_46 : decode c_Mo_onward 46 = .ok (.iconst (1), 1) := by decide +kernel
theorem d_Mo_onward_47 : decode c_Mo_onward 47 = .ok (.ireturn, 1) := by decide +kernel
theorem d_Mo_onward_48 : decode c_Mo_onward 48 = .ok (.iload_n 3, 1) := by decide +kernel
theorem d_Mo_onward_49 : decode c_Mo_onward 49 = .ok (.iconst (5), 1) := by decide +kernel
theorem d_Mo_onward_50 : decode c_Mo_onward 50 = .ok (.if_icmp .ne (13), 3) := by decide +kernel
theorem d_Mo_onward_53 : decode c_Mo_onward 53 = .ok (.aload_n 0, 1) := by decide +kernel
theorem d_Mo_onward_54 : decode c_Mo_onward 54 = .ok (.iload_n 1, 1) := by decide +kernel
theorem d_Mo_onward_55 : decode c_Mo_onward 55 = .ok (.iload 4, 2) := by decide +kernel
theorem d_Mo_onward_57 : decode c_Mo_onward 57 = .ok (.iload 5, 2) := by decide +kernel
theorem d_Mo_onward_59 : decode c_Mo_onward 59 = .ok (.invokevirtual 175, 3) := by decide +kernel
theorem d_Mo_onward_62 : decode c_Mo_onward 62 = .ok (.ireturn, 1) := by decide +kernel
theorem d_Mo_onward_63 : decode c_Mo_onward 63 = .ok (.aload_n 0, 1) := by decide +kernel
theorem d_Mo_onward_64 : decode c_Mo_onward 64 = .ok (.iload_n 1, 1) := by decide +kernel
theorem d_Mo_onward_65 : decode c_Mo_onward 65 = .ok (.iload_n 2, 1) := by decide +kernel
theorem d_Mo_onward_66 : decode c_Mo_onward 66 = .ok (.iconst (1), 1) := by decide +kernel
theorem d_Mo_onward_67 : decode c_Mo_onward 67 = .ok (.iadd, 1) := by decide +kernel
theorem d_Mo_onward_68 : decode c_Mo_onward 68 = .ok (.iload 5, 2) := by decide +kernel
theorem d_Mo_onward_70 : decode c_Mo_onward 70 = .ok (.invokevirtual 175, 3) := by decide +kernel
theorem d_Mo_onward_73 : decode c_Mo_onward 73 = .ok (.ifCond .eq (25), 3) := by decide +kernel
theorem d_Mo_onward_76 : decode c_Mo_onward 76 = .ok (.iload_n 3, 1) := by decide +kernel
theorem d_Mo_onward_77 : decode c_Mo_onward 77 = .ok (.bipush (6), 2) := by decide +kernel
theorem d_Mo_onward_79 : decode c_Mo_onward 79 = .ok (.if_icmp .ne (15), 3) := by decide +kernel
theorem d_Mo_onward_82 : decode c_Mo_onward 82 = .ok (.aload_n 0, 1) := by decide +kernel
theorem d_Mo_onward_83 : decode c_Mo_onward 83 = .ok (.iload_n 1, 1) := by decide +kernel
theorem d_Mo_onward_84 : decode c_Mo_onward 84 = .ok (.iload 4, 2) := by decide +kernel
theorem d_Mo_onward_86 : decode c_Mo_onward 86 = .ok (.iload 5, 2) := by decide +kernel
theorem d_Mo_onward_88 : decode c_Mo_onward 88 = .ok (.invokevirtual 175, 3) := by decide +kernel
theorem d_Mo_onward_91 : decode c_Mo_onward 91 = .ok (.ifCond .eq (7), 3) := by decide +kernel
theorem d_Mo_onward_94 : decode c_Mo_onward 94 = .ok (.iconst (1), 1) := by decide +kernel
theorem d_Mo_onward_95 : decode c_Mo_onward 95 = .ok (.goto (4), 3) := by decide +kernel
theorem d_Mo_onward_98 : decode c_Mo_onward 98 = .ok (.iconst (0), 1) := by decide +kernel
theorem d_Mo_onward_99 : decode c_Mo_onward 99 = .ok (.ireturn, 1) := by decide +kernel
def fx_Mo_onward_b99 (σ : tx_St) (s0 : Int32) : Option (Int32 × tx_St) := tx_rz s0 σ
def fx_Mo_onward_b98 (σ : tx_St) : Option (Int32 × tx_St) := fx_Mo_onward_b99  σ (0 : Int32)
def fx_Mo_onward_b94 (σ : tx_St) : Option (Int32 × tx_St) := fx_Mo_onward_b99  σ (1 : Int32)
def fx_Mo_onward (σ : tx_St) (x1 : Int32) (x2 : Int32) : Option (Int32 × tx_St) := tx_rd σ 57 96 (((12 : Int32) * x1) + x2) fun v1 => tx_rd σ 58 96 (((12 : Int32) * x1) + x2) fun v2 => tx_ci (fx_Mo_after σ x1 x2) fun r4 σ3 => (if 0 ≤ r4 then (if v1 = (19 : Int32) then some ((1 : Int32), σ3) else (if v1 = (5 : Int32) then tx_ci (fx_Mo_led σ3 x1 v2 r4) fun r16 σ15 => tx_rz r16 σ15 else tx_ci (fx_Mo_led σ3 x1 (x2 + (1 : Int32)) r4) fun r9 σ8 => (if r9 = 0 then fx_Mo_onward_b98  σ8 else (if v1 = (6 : Int32) then tx_ci (fx_Mo_led σ8 x1 v2 r4) fun r13 σ12 => (if r13 = 0 then fx_Mo_onward_b98  σ12 else fx_Mo_onward_b94  σ12) else fx_Mo_onward_b94  σ8)))) else some ((0 : Int32), σ3))
set_option maxRecDepth 100000 in
set_option maxHeartbeats 4000000 in
theorem fx_Mo_onward_b99_w {l : Launch} {E : tx_E} (σ : tx_St) (s0 : Int32) (t : Int32 × tx_St) (hT : fx_Mo_onward_b99 σ s0 = some t) : gx l E mi_Mo_onward (some (.int t.1), t.2) σ [] 99 [.int s0] := by
  unfold fx_Mo_onward_b99 at hT
  obtain ⟨hz, hT⟩ := tx_rz_some hT
  cases hT
  exact gx_zret (pc := 99) d_Mo_onward_99 rfl hz rfl
set_option maxRecDepth 100000 in
set_option maxHeartbeats 4000000 in
theorem fx_Mo_onward_b98_w {l : Launch} {E : tx_E} (σ : tx_St) (t : Int32 × tx_St) (hT : fx_Mo_onward_b98 σ  = some t) : gx l E mi_Mo_onward (some (.int t.1), t.2) σ [] 98 [] := by
  unfold fx_Mo_onward_b98 at hT
  refine gx_iconst (pc := 98) (0 : Int32) d_Mo_onward_98 (by decide) ?_
  exact fx_Mo_onward_b99_w  σ (0 : Int32) _ hT
set_option maxRecDepth 100000 in
set_option maxHeartbeats 4000000 in
theorem fx_Mo_onward_b94_w {l : Launch} {E : tx_E} (σ : tx_St) (t : Int32 × tx_St) (hT : fx_Mo_onward_b94 σ  = some t) : gx l E mi_Mo_onward (some (.int t.1), t.2) σ [] 94 [] := by
  unfold fx_Mo_onward_b94 at hT
  refine gx_iconst (pc := 94) (1 : Int32) d_Mo_onward_94 (by decide) ?_
  refine gx_goto (pc := 95) 99 d_Mo_onward_95 rfl ?_
  exact fx_Mo_onward_b99_w  σ (1 : Int32) _ hT
set_option maxRecDepth 100000 in
set_option maxHeartbeats 4000000 in
theorem fx_Mo_onward_c (l : Launch) (E : tx_E) (σ : tx_St) (x1 : Int32) (x2 : Int32) (t : Int32 × tx_St) (hT : fx_Mo_onward σ x1 x2 = some t) : tx_MX l E y_Mo_onward mi_Mo_onward (some (.int t.1), t.2) [.ref (E.1 45), .int x1, .int x2] σ := by
  refine tx_MX_of (by decide) rfl (Nat.le_of_ble_eq_true rfl) ?_
  show gx l E mi_Mo_onward (some (.int t.1), t.2) σ [(0, .ref (E.1 45)), (1, .int x1), (2, .int x2)] 0 []
  unfold fx_Mo_onward at hT
  refine gx_aload_n (pc := 0) 0 d_Mo_onward_0 rfl rfl ?_
  refine gx_getR (pc := 1) 57 fl_Mo_43 d_Mo_onward_1 (rfl) (by decide) rfl ?_
  refine gx_bipush (pc := 4) (12 : Int32) d_Mo_onward_4 (by decide) ?_
  refine gx_iload_n (pc := 6) 1 d_Mo_onward_6 rfl rfl ?_
  refine gx_imul (pc := 7) d_Mo_onward_7 ?_
  refine gx_iload_n (pc := 8) 2 d_Mo_onward_8 rfl rfl ?_
  refine gx_iadd (pc := 9) d_Mo_onward_9 ?_
  obtain ⟨v1, gv1, iv1, hT⟩ := tx_rd_some hT
  refine gx_iald (pc := 10) v1 d_Mo_onward_10 (rfl) iv1 gv1 ?_
  refine gx_istore_n (pc := 11) [(3, .int v1), (0, .ref (E.1 45)), (1, .int x1), (2, .int x2)] d_Mo_onward_11 rfl (Nat.le_of_ble_eq_true rfl) rfl ?_
  refine gx_aload_n (pc := 12) 1 d_Mo_onward_12 rfl rfl ?_
  refine gx_getR (pc := 13) 58 fl_Mo_46 d_Mo_onward_13 (rfl) (by decide) rfl ?_
  refine gx_bipush (pc := 16) (12 : Int32) d_Mo_onward_16 (by decide) ?_
  refine gx_iload_n (pc := 18) 2 d_Mo_onward_18 rfl rfl ?_
  refine gx_imul (pc := 19) d_Mo_onward_19 ?_
  refine gx_iload_n (pc := 20) 3 d_Mo_onward_20 rfl rfl ?_
  refine gx_iadd (pc := 21) d_Mo_onward_21 ?_
  obtain ⟨v2, gv2, iv2, hT⟩ := tx_rd_some hT
  refine gx_iald (pc := 22) v2 d_Mo_onward_22 (rfl) iv2 gv2 ?_
  refine gx_istore (pc := 23) [(4, .int v2), (3, .int v1), (0, .ref (E.1 45)), (1, .int x1), (2, .int x2)] d_Mo_onward_23 (Nat.le_of_ble_eq_true rfl) rfl ?_
  refine gx_aload_n (pc := 25) 2 d_Mo_onward_25 rfl rfl ?_
  refine gx_iload_n (pc := 26) 3 d_Mo_onward_26 rfl rfl ?_
  refine gx_iload_n (pc := 27) 4 d_Mo_onward_27 rfl rfl ?_
  obtain ⟨r4, σ3, cσ3, hT⟩ := tx_ci_some hT
  refine gx_callV (pc := 28) (As := [.int x1, .int x2]) (rest := []) cm_Mo_after lk_Mo_172 (fx_Mo_after_c l E σ x1 x2 _ cσ3) (rfl) (by decide) rfl rfl tx_fi_Mo_onward_Mo_after (Nat.le_of_ble_eq_true rfl) d_Mo_onward_28 ?_
  change gx l E mi_Mo_onward _ σ3 [(4, .int v2), (3, .int v1), (0, .ref (E.1 45)), (1, .int x1), (2, .int x2)] 31 [.int r4]
  refine gx_istore (pc := 31) [(5, .int r4), (4, .int v2), (3, .int v1), (0, .ref (E.1 45)), (1, .int x1), (2, .int x2)] d_Mo_onward_31 (Nat.le_of_ble_eq_true rfl) rfl ?_
  refine gx_iload (pc := 33) 0 d_Mo_onward_33 rfl ?_
  refine gx_if_ge (pc := 35) 40 d_Mo_onward_35 rfl (fun h5 => ?_) (fun h5 => ?_)
  · have hT := tx_ifp h5 hT
    refine gx_iload_n (pc := 40) 2 d_Mo_onward_40 rfl rfl ?_
    refine gx_bipush (pc := 41) (19 : Int32) d_Mo_onward_41 (by decide) ?_
    refine gx_icmp_ne (pc := 43) 48 d_Mo_onward_43 rfl (fun h6 => ?_) (fun h6 => ?_)
    · have hT := tx_ifn h6 hT
      refine gx_iload_n (pc := 48) 2 d_Mo_onward_48 rfl rfl ?_
      refine gx_iconst (pc := 49) (5 : Int32) d_Mo_onward_49 (by decide) ?_
      refine gx_icmp_ne (pc := 50) 63 d_Mo_onward_50 rfl (fun h7 => ?_) (fun h7 => ?_)
      · have hT := tx_ifn h7 hT
        refine gx_aload_n (pc := 63) 3 d_Mo_onward_63 rfl rfl ?_
        refine gx_iload_n (pc := 64) 4 d_Mo_onward_64 rfl rfl ?_
        refine gx_iload_n (pc := 65) 5 d_Mo_onward_65 rfl rfl ?_
        refine gx_iconst (pc := 66) (1 : Int32) d_Mo_onward_66 (by decide) ?_
        refine gx_iadd (pc := 67) d_Mo_onward_67 ?_
        refine gx_iload (pc := 68) 0 d_Mo_onward_68 rfl ?_
        obtain ⟨r9, σ8, cσ8, hT⟩ := tx_ci_some hT
        refine gx_callV (pc := 70) (As := [.int x1, .int (x2 + (1 : Int32)), .int r4]) (rest := []) cm_Mo_led lk_Mo_175 (fx_Mo_led_c l E σ3 x1 (x2 + (1 : Int32)) r4 _ cσ8) (rfl) (by decide) rfl rfl tx_fi_Mo_onward_Mo_led (Nat.le_of_ble_eq_true rfl) d_Mo_onward_70 ?_
        change gx l E mi_Mo_onward _ σ8 [(5, .int r4), (4, .int v2), (3, .int v1), (0, .ref (E.1 45)), (1, .int x1), (2, .int x2)] 73 [.int r9]
        refine gx_if_eq (pc := 73) 98 d_Mo_onward_73 rfl (fun h10 => ?_) (fun h10 => ?_)
        · have hT := tx_ifp h10 hT
          refine gx_sub [] rfl ?_
          exact fx_Mo_onward_b98_w  σ8 _ hT
        · have hT := tx_ifn h10 hT
          refine gx_iload_n (pc := 76) 2 d_Mo_onward_76 rfl rfl ?_
          refine gx_bipush (pc := 77) (6 : Int32) d_Mo_onward_77 (by decide) ?_
          refine gx_icmp_ne (pc := 79) 94 d_Mo_onward_79 rfl (fun h11 => ?_) (fun h11 => ?_)
          · have hT := tx_ifn h11 hT
            refine gx_sub [] rfl ?_
            exact fx_Mo_onward_b94_w  σ8 _ hT
          · have hT := tx_ifp h11 hT
            refine gx_aload_n (pc := 82) 3 d_Mo_onward_82 rfl rfl ?_
            refine gx_iload_n (pc := 83) 4 d_Mo_onward_83 rfl rfl ?_
            refine gx_iload (pc := 84) 1 d_Mo_onward_84 rfl ?_
            refine gx_iload (pc := 86) 0 d_Mo_onward_86 rfl ?_
            obtain ⟨r13, σ12, cσ12, hT⟩ := tx_ci_some hT
            refine gx_callV (pc := 88) (As := [.int x1, .int v2, .int r4]) (rest := []) cm_Mo_led lk_Mo_175 (fx_Mo_led_c l E σ8 x1 v2 r4 _ cσ12) (rfl) (by decide) rfl rfl tx_fi_Mo_onward_Mo_led (Nat.le_of_ble_eq_true rfl) d_Mo_onward_88 ?_
            change gx l E mi_Mo_onward _ σ12 [(5, .int r4), (4, .int v2), (3, .int v1), (0, .ref (E.1 45)), (1, .int x1), (2, .int x2)] 91 [.int r13]
            refine gx_if_eq (pc := 91) 98 d_Mo_onward_91 rfl (fun h14 => ?_) (fun h14 => ?_)
            · have hT := tx_ifp h14 hT
              refine gx_sub [] rfl ?_
              exact fx_Mo_onward_b98_w  σ12 _ hT
            · have hT := tx_ifn h14 hT
              refine gx_sub [] rfl ?_
              exact fx_Mo_onward_b94_w  σ12 _ hT
      · have hT := tx_ifp h7 hT
        refine gx_aload_n (pc := 53) 3 d_Mo_onward_53 rfl rfl ?_
        refine gx_iload_n (pc := 54) 4 d_Mo_onward_54 rfl rfl ?_
        refine gx_iload (pc := 55) 1 d_Mo_onward_55 rfl ?_
        refine gx_iload (pc := 57) 0 d_Mo_onward_57 rfl ?_
        obtain ⟨r16, σ15, cσ15, hT⟩ := tx_ci_some hT
        refine gx_callV (pc := 59) (As := [.int x1, .int v2, .int r4]) (rest := []) cm_Mo_led lk_Mo_175 (fx_Mo_led_c l E σ3 x1 v2 r4 _ cσ15) (rfl) (by decide) rfl rfl tx_fi_Mo_onward_Mo_led (Nat.le_of_ble_eq_true rfl) d_Mo_onward_59 ?_
        change gx l E mi_Mo_onward _ σ15 [(5, .int r4), (4, .int v2), (3, .int v1), (0, .ref (E.1 45)), (1, .int x1), (2, .int x2)] 62 [.int r16]
        obtain ⟨hz, hT⟩ := tx_rz_some hT
        cases hT
        exact gx_zret (pc := 62) d_Mo_onward_62 rfl hz rfl
    · have hT := tx_ifp h6 hT
      refine gx_iconst (pc := 46) (1 : Int32) d_Mo_onward_46 (by decide) ?_
      cases hT
      exact gx_zret (pc := 47) d_Mo_onward_47 rfl (by decide) rfl
  · have hT := tx_ifn h5 hT
    refine gx_iconst (pc := 38) (0 : Int32) d_Mo_onward_38 (by decide) ?_
    cases hT
    exact gx_zret (pc := 39) d_Mo_onward_39 rfl (by decide) rfl
