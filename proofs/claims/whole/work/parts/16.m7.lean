theorem d_Machine_makeCell_0 : decode c_Machine_makeCell 0 = .ok (.aload_n 0, 1) := by decide +kernel
theorem d_Machine_makeCell_1 : decode c_Machine_makeCell 1 = .ok (.getfield 30, 3) := by decide +kernel
theorem d_Machine_makeCell_4 : decode c_Machine_makeCell 4 = .ok (.bipush (8), 2) := by decide +kernel
theorem d_Machine_makeCell_6 : decode c_Machine_makeCell 6 = .ok (.if_icmp .ne (5), 3) := by decide +kernel
theorem d_Machine_makeCell_9 : decode c_Machine_makeCell 9 = .ok (.iconst (4), 1) := by decide +kernel
theorem d_Machine_makeCell_10 : decode c_Machine_makeCell 10 = .ok (.ireturn, 1) := by decide +kernel
theorem d_Machine_makeCell_11 : decode c_Machine_makeCell 11 = .ok (.aload_n 0, 1) := by decide +kernel
theorem d_Machine_makeCell_12 : decode c_Machine_makeCell 12 = .ok (.dup, 1) := by decide +kernel
theorem d_Machine_makeCell_13 : decode c_Machine_makeCell 13 = .ok (.getfield 30, 3) := by decide +kernel
theorem d_Machine_makeCell_16 : decode c_Machine_makeCell 16 = .ok (.iconst (1), 1) := by decide +kernel
theorem d_Machine_makeCell_17 : decode c_Machine_makeCell 17 = .ok (.iadd, 1) := by decide +kernel
theorem d_Machine_makeCell_18 : decode c_Machine_makeCell 18 = .ok (.putfield 30, 3) := by decide +kernel
theorem d_Machine_makeCell_21 : decode c_Machine_makeCell 21 = .ok (.aload_n 0, 1) := by decide +kernel
theorem d_Machine_makeCell_22 : decode c_Machine_makeCell 22 = .ok (.getfield 21, 3) := by decide +kernel
theorem d_Machine_makeCell_25 : decode c_Machine_makeCell 25 = .ok (.iconst (1), 1) := by decide +kernel
theorem d_Machine_makeCell_26 : decode c_Machine_makeCell 26 = .ok (.invokevirtual 112, 3) := by decide +kernel
theorem d_Machine_makeCell_29 : decode c_Machine_makeCell 29 = .ok (.istore_n 2, 1) := by decide +kernel
theorem d_Machine_makeCell_30 : decode c_Machine_makeCell 30 = .ok (.aload_n 0, 1) := by decide +kernel
theorem d_Machine_makeCell_31 : decode c_Machine_makeCell 31 = .ok (.getfield 21, 3) := by decide +kernel
theorem d_Machine_makeCell_34 : decode c_Machine_makeCell 34 = .ok (.iload_n 2, 1) := by decide +kernel
theorem d_Machine_makeCell_35 : decode c_Machine_makeCell 35 = .ok (.iconst (0), 1) := by decide +kernel
theorem d_Machine_makeCell_36 : decode c_Machine_makeCell 36 = .ok (.aload_n 1, 1) := by decide +kernel
theorem d_Machine_makeCell_37 : decode c_Machine_makeCell 37 = .ok (.invokevirtual 82, 3) := by decide +kernel
theorem d_Machine_makeCell_40 : decode c_Machine_makeCell 40 = .ok (.invokevirtual 122, 3) := by decide +kernel
theorem d_Machine_makeCell_43 : decode c_Machine_makeCell 43 = .ok (.aload_n 1, 1) := by decide +kernel
theorem d_Machine_makeCell_44 : decode c_Machine_makeCell 44 = .ok (.iload_n 2, 1) := by decide +kernel
theorem d_Machine_makeCell_45 : decode c_Machine_makeCell 45 = .ok (.invokevirtual 79, 3) := by decide +kernel
theorem d_Machine_makeCell_48 : decode c_Machine_makeCell 48 = .ok (.iconst (0), 1) := by decide +kernel
theorem d_Machine_makeCell_49 : decode c_Machine_makeCell 49 = .ok (.ireturn, 1) := by decide +kernel
def fx_Machine_makeCell (σ : tx_St) (x1 : Nat) : Option (Int32 × tx_St) := (if (σ 25 6) = (8 : Int32) then some ((4 : Int32), σ) else tx_pt σ 25 6 ((σ 25 6) + (1 : Int32)) fun σ2 => tx_ci (fx_Heap_newThing σ2 (1 : Int32)) fun r4 σ3 => tx_ci (fx_Frame_pop σ3 x1) fun r6 σ5 => tx_cv (fx_Heap_setSlot σ5 r4 (0 : Int32) r6) fun σ7 => tx_cv (fx_Frame_push σ7 x1 r4) fun σ8 => some ((0 : Int32), σ8))
set_option maxRecDepth 100000 in
set_option maxHeartbeats 4000000 in
theorem fx_Machine_makeCell_c (l : Launch) (E : tx_E) (σ : tx_St) (x1 : Nat) (hx1 : tx_isFr x1) (t : Int32 × tx_St) (hT : fx_Machine_makeCell σ x1 = some t) : tx_MX l E y_Machine_makeCell mi_Machine_makeCell (some (.int t.1), t.2) [.ref (E.1 25), .ref (E.1 x1)] σ := by
  refine tx_MX_of (by decide) rfl (Nat.le_of_ble_eq_true rfl) ?_
  show gx l E mi_Machine_makeCell (some (.int t.1), t.2) σ [(0, .ref (E.1 25)), (1, .ref (E.1 x1))] 0 []
  unfold fx_Machine_makeCell at hT
  refine gx_aload_n (pc := 0) 0 d_Machine_makeCell_0 rfl rfl ?_
  refine gx_getI (pc := 1) (σ 25 6) fl_Machine_30 d_Machine_makeCell_1 (rfl) (by decide) rfl rfl ?_
  refine gx_bipush (pc := 4) (8 : Int32) d_Machine_makeCell_4 (by decide) ?_
  refine gx_icmp_ne (pc := 6) 11 d_Machine_makeCell_6 rfl (fun h1 => ?_) (fun h1 => ?_)
  · have hT := tx_ifn h1 hT
    refine gx_aload_n (pc := 11) 0 d_Machine_makeCell_11 rfl rfl ?_
    refine gx_dup (pc := 12) d_Machine_makeCell_12 rfl ?_
    refine gx_getI (pc := 13) (σ 25 6) fl_Machine_30 d_Machine_makeCell_13 (rfl) (by decide) rfl rfl ?_
    refine gx_iconst (pc := 16) (1 : Int32) d_Machine_makeCell_16 (by decide) ?_
    refine gx_iadd (pc := 17) d_Machine_makeCell_17 ?_
    obtain ⟨σ2, gσ2, hT⟩ := tx_pt_some hT
    refine gx_putI (pc := 18) fp_Machine_30 d_Machine_makeCell_18 (rfl) (by decide) rfl ?_
    rw [gσ2]
    refine gx_aload_n (pc := 21) 0 d_Machine_makeCell_21 rfl rfl ?_
    refine gx_getR (pc := 22) 21 fl_Machine_21 d_Machine_makeCell_22 (rfl) (by decide) rfl ?_
    refine gx_iconst (pc := 25) (1 : Int32) d_Machine_makeCell_25 (by decide) ?_
    obtain ⟨r4, σ3, cσ3, hT⟩ := tx_ci_some hT
    refine gx_callV (pc := 26) (As := [.int (1 : Int32)]) (rest := []) cm_Heap_newThing lk_Machine_112 (fx_Heap_newThing_c l E σ2 (1 : Int32) _ cσ3) (rfl) (by decide) rfl rfl tx_fi_Machine_makeCell_Heap_newThing (Nat.le_of_ble_eq_true rfl) d_Machine_makeCell_26 ?_
    change gx l E mi_Machine_makeCell _ σ3 [(0, .ref (E.1 25)), (1, .ref (E.1 x1))] 29 [.int r4]
    refine gx_istore_n (pc := 29) [(2, .int r4), (0, .ref (E.1 25)), (1, .ref (E.1 x1))] d_Machine_makeCell_29 rfl (Nat.le_of_ble_eq_true rfl) rfl ?_
    refine gx_aload_n (pc := 30) 1 d_Machine_makeCell_30 rfl rfl ?_
    refine gx_getR (pc := 31) 21 fl_Machine_21 d_Machine_makeCell_31 (rfl) (by decide) rfl ?_
    refine gx_iload_n (pc := 34) 0 d_Machine_makeCell_34 rfl rfl ?_
    refine gx_iconst (pc := 35) (0 : Int32) d_Machine_makeCell_35 (by decide) ?_
    refine gx_aload_n (pc := 36) 2 d_Machine_makeCell_36 rfl rfl ?_
    obtain ⟨r6, σ5, cσ5, hT⟩ := tx_ci_some hT
    refine gx_callV (pc := 37) (As := []) (rest := [.int (0 : Int32), .int r4, .ref (E.1 21)]) cm_Frame_pop lk_Machine_82 (fx_Frame_pop_c l E σ3 x1 hx1 _ cσ5) (tx_fr0 hx1) (by decide) rfl rfl tx_fi_Machine_makeCell_Frame_pop (Nat.le_of_ble_eq_true rfl) d_Machine_makeCell_37 ?_
    change gx l E mi_Machine_makeCell _ σ5 [(2, .int r4), (0, .ref (E.1 25)), (1, .ref (E.1 x1))] 40 [.int r6, .int (0 : Int32), .int r4, .ref (E.1 21)]
    obtain ⟨σ7, cσ7, hT⟩ := tx_cv_some hT
    refine gx_callV (pc := 40) (As := [.int r4, .int (0 : Int32), .int r6]) (rest := []) cm_Heap_setSlot lk_Machine_122 (fx_Heap_setSlot_c l E σ5 r4 (0 : Int32) r6 _ cσ7) (rfl) (by decide) rfl rfl tx_fi_Machine_makeCell_Heap_setSlot (Nat.le_of_ble_eq_true rfl) d_Machine_makeCell_40 ?_
    change gx l E mi_Machine_makeCell _ σ7 [(2, .int r4), (0, .ref (E.1 25)), (1, .ref (E.1 x1))] 43 []
    refine gx_aload_n (pc := 43) 2 d_Machine_makeCell_43 rfl rfl ?_
    refine gx_iload_n (pc := 44) 0 d_Machine_makeCell_44 rfl rfl ?_
    obtain ⟨σ8, cσ8, hT⟩ := tx_cv_some hT
    refine gx_callV (pc := 45) (As := [.int r4]) (rest := []) cm_Frame_push lk_Machine_79 (fx_Frame_push_c l E σ7 x1 r4 hx1 _ cσ8) (tx_fr0 hx1) (by decide) rfl rfl tx_fi_Machine_makeCell_Frame_push (Nat.le_of_ble_eq_true rfl) d_Machine_makeCell_45 ?_
    change gx l E mi_Machine_makeCell _ σ8 [(2, .int r4), (0, .ref (E.1 25)), (1, .ref (E.1 x1))] 48 []
    refine gx_iconst (pc := 48) (0 : Int32) d_Machine_makeCell_48 (by decide) ?_
    cases hT
    exact gx_iret (pc := 49) d_Machine_makeCell_49 rfl rfl
  · have hT := tx_ifp h1 hT
    refine gx_iconst (pc := 9) (4 : Int32) d_Machine_makeCell_9 (by decide) ?_
    cases hT
    exact gx_iret (pc := 10) d_Machine_makeCell_10 rfl rfl
theorem d_Machine_useCell_0 : decode c_Machine_useCell 0 = .ok (.iload_n 2, 1) := by decide +kernel
theorem d_Machine_useCell_1 : decode c_Machine_useCell 1 = .ok (.bipush (15), 2) := by decide +kernel
theorem d_Machine_useCell_3 : decode c_Machine_useCell 3 = .ok (.if_icmp .ne (10), 3) := by decide +kernel
theorem d_Machine_useCell_6 : decode c_Machine_useCell 6 = .ok (.aload_n 1, 1) := by decide +kernel
theorem d_Machine_useCell_7 : decode c_Machine_useCell 7 = .ok (.invokevirtual 82, 3) := by decide +kernel
theorem d_Machine_useCell_10 : decode c_Machine_useCell 10 = .ok (.goto (4), 3) := by decide +kernel
theorem d_Machine_useCell_13 : decode c_Machine_useCell 13 = .ok (.iconst (0), 1) := by decide +kernel
theorem d_Machine_useCell_14 : decode c_Machine_useCell 14 = .ok (.istore_n 3, 1) := by decide +kernel
theorem d_Machine_useCell_15 : decode c_Machine_useCell 15 = .ok (.aload_n 1, 1) := by decide +kernel
theorem d_Machine_useCell_16 : decode c_Machine_useCell 16 = .ok (.invokevirtual 82, 3) := by decide +kernel
theorem d_Machine_useCell_19 : decode c_Machine_useCell 19 = .ok (.istore 4, 2) := by decide +kernel
theorem d_Machine_useCell_21 : decode c_Machine_useCell 21 = .ok (.iload 4, 2) := by decide +kernel
theorem d_Machine_useCell_23 : decode c_Machine_useCell 23 = .ok (.ifCond .ne (5), 3) := by decide +kernel
theorem d_Machine_useCell_26 : decode c_Machine_useCell 26 = .ok (.iconst (1), 1) := by decide +kernel
theorem d_Machine_useCell_27 : decode c_Machine_useCell 27 = .ok (.ireturn, 1) := by decide +kernel
theorem d_Machine_useCell_28 : decode c_Machine_useCell 28 = .ok (.iload_n 2, 1) := by decide +kernel
theorem d_Machine_useCell_29 : decode c_Machine_useCell 29 = .ok (.bipush (15), 2) := by decide +kernel
theorem d_Machine_useCell_31 : decode c_Machine_useCell 31 = .ok (.if_icmp .ne (17), 3) := by decide +kernel
theorem d_Machine_useCell_34 : decode c_Machine_useCell 34 = .ok (.aload_n 0, 1) := by decide +kernel
theorem d_Machine_useCell_35 : decode c_Machine_useCell 35 = .ok (.getfield 21, 3) := by decide +kernel
theorem d_Machine_useCell_38 : decode c_Machine_useCell 38 = .ok (.iload 4, 2) := by decide +kernel
theorem d_Machine_useCell_40 : decode c_Machine_useCell 40 = .ok (.iconst (0), 1) := by decide +kernel
theorem d_Machine_useCell_41 : decode c_Machine_useCell 41 = .ok (.iload_n 3, 1) := by decide +kernel
theorem d_Machine_useCell_42 : decode c_Machine_useCell 42 = .ok (.invokevirtual 122, 3) := by decide +kernel
theorem d_Machine_useCell_45 : decode c_Machine_useCell 45 = .ok (.goto (17), 3) := by decide +kernel
theorem d_Machine_useCell_48 : decode c_Machine_useCell 48 = .ok (.aload_n 1, 1) := by decide +kernel
theorem d_Machine_useCell_49 : decode c_Machine_useCell 49 = .ok (.aload_n 0, 1) := by decide +kernel
theorem d_Machine_useCell_50 : decode c_Machine_useCell 50 = .ok (.getfield 21, 3) := by decide +kernel
theorem d_Machine_useCell_53 : decode c_Machine_useCell 53 = .ok (.iload 4, 2) := by decide +kernel
theorem d_Machine_useCell_55 : decode c_Machine_useCell 55 = .ok (.iconst (0), 1) := by decide +kernel
theorem d_Machine_useCell_56 : decode c_Machine_useCell 56 = .ok (.invokevirtual 125, 3) := by decide +kernel
theorem d_Machine_useCell_59 : decode c_Machine_useCell 59 = .ok (.invokevirtual 79, 3) := by decide +kernel
theorem d_Machine_useCell_62 : decode c_Machine_useCell 62 = .ok (.iconst (0), 1) := by decide +kernel
theorem d_Machine_useCell_63 : decode c_Machine_useCell 63 = .ok (.ireturn, 1) := by decide +kernel
def fx_Machine_useCell_b62 (σ : tx_St) : Option (Int32 × tx_St) := some ((0 : Int32), σ)
def fx_Machine_useCell_b14 (σ : tx_St) (x1 : Nat) (x2 : Int32) (s0 : Int32) : Option (Int32 × tx_St) := tx_ci (fx_Frame_pop σ x1) fun r5 σ4 => (if r5 = 0 then some ((1 : Int32), σ4) else (if x2 = (15 : Int32) then tx_cv (fx_Heap_setSlot σ4 r5 (0 : Int32) s0) fun σ11 => fx_Machine_useCell_b62  σ11 else tx_ci (fx_Heap_slotValue σ4 r5 (0 : Int32)) fun r9 σ8 => tx_cv (fx_Frame_push σ8 x1 r9) fun σ10 => fx_Machine_useCell_b62  σ10))
def fx_Machine_useCell (σ : tx_St) (x1 : Nat) (x2 : Int32) : Option (Int32 × tx_St) := (if x2 = (15 : Int32) then tx_ci (fx_Frame_pop σ x1) fun r3 σ2 => fx_Machine_useCell_b14  σ2 x1 x2 r3 else fx_Machine_useCell_b14  σ x1 x2 (0 : Int32))
set_option maxRecDepth 100000 in
set_option maxHeartbeats 4000000 in
theorem fx_Machine_useCell_b62_w {l : Launch} {E : tx_E} (σ : tx_St) (t : Int32 × tx_St) (hT : fx_Machine_useCell_b62 σ  = some t) : gx l E mi_Machine_useCell (some (.int t.1), t.2) σ [] 62 [] := by
  unfold fx_Machine_useCell_b62 at hT
  refine gx_iconst (pc := 62) (0 : Int32) d_Machine_useCell_62 (by decide) ?_
  cases hT
  exact gx_iret (pc := 63) d_Machine_useCell_63 rfl rfl
set_option maxRecDepth 100000 in
set_option maxHeartbeats 4000000 in
theorem fx_Machine_useCell_b14_w {l : Launch} {E : tx_E} (σ : tx_St) (x1 : Nat) (x2 : Int32) (s0 : Int32) (hx1 : tx_isFr x1) (t : Int32 × tx_St) (hT : fx_Machine_useCell_b14 σ x1 x2 s0 = some t) : gx l E mi_Machine_useCell (some (.int t.1), t.2) σ [(0, .ref (E.1 25)), (1, .ref (E.1 x1)), (2, .int x2)] 14 [.int s0] := by
  unfold fx_Machine_useCell_b14 at hT
  refine gx_istore_n (pc := 14) [(3, .int s0), (0, .ref (E.1 25)), (1, .ref (E.1 x1)), (2, .int x2)] d_Machine_useCell_14 rfl (Nat.le_of_ble_eq_true rfl) rfl ?_
  refine gx_aload_n (pc := 15) 2 d_Machine_useCell_15 rfl rfl ?_
  obtain ⟨r5, σ4, cσ4, hT⟩ := tx_ci_some hT
  refine gx_callV (pc := 16) (As := []) (rest := []) cm_Frame_pop lk_Machine_82 (fx_Frame_pop_c l E σ x1 hx1 _ cσ4) (tx_fr0 hx1) (by decide) rfl rfl tx_fi_Machine_useCell_Frame_pop (Nat.le_of_ble_eq_true rfl) d_Machine_useCell_16 ?_
  change gx l E mi_Machine_useCell _ σ4 [(3, .int s0), (0, .ref (E.1 25)), (1, .ref (E.1 x1)), (2, .int x2)] 19 [.int r5]
  refine gx_istore (pc := 19) [(4, .int r5), (3, .int s0), (0, .ref (E.1 25)), (1, .ref (E.1 x1)), (2, .int x2)] d_Machine_useCell_19 (Nat.le_of_ble_eq_true rfl) rfl ?_
  refine gx_iload (pc := 21) 0 d_Machine_useCell_21 rfl ?_
  refine gx_if_ne (pc := 23) 28 d_Machine_useCell_23 rfl (fun h6 => ?_) (fun h6 => ?_)
  · have hT := tx_ifn h6 hT
    refine gx_iload_n (pc := 28) 4 d_Machine_useCell_28 rfl rfl ?_
    refine gx_bipush (pc := 29) (15 : Int32) d_Machine_useCell_29 (by decide) ?_
    refine gx_icmp_ne (pc := 31) 48 d_Machine_useCell_31 rfl (fun h7 => ?_) (fun h7 => ?_)
    · have hT := tx_ifn h7 hT
      refine gx_aload_n (pc := 48) 3 d_Machine_useCell_48 rfl rfl ?_
      refine gx_aload_n (pc := 49) 2 d_Machine_useCell_49 rfl rfl ?_
      refine gx_getR (pc := 50) 21 fl_Machine_21 d_Machine_useCell_50 (rfl) (by decide) rfl ?_
      refine gx_iload (pc := 53) 0 d_Machine_useCell_53 rfl ?_
      refine gx_iconst (pc := 55) (0 : Int32) d_Machine_useCell_55 (by decide) ?_
      obtain ⟨r9, σ8, cσ8, hT⟩ := tx_ci_some hT
      refine gx_callV (pc := 56) (As := [.int r5, .int (0 : Int32)]) (rest := [.ref (E.1 x1)]) cm_Heap_slotValue lk_Machine_125 (fx_Heap_slotValue_c l E σ4 r5 (0 : Int32) _ cσ8) (rfl) (by decide) rfl rfl tx_fi_Machine_useCell_Heap_slotValue (Nat.le_of_ble_eq_true rfl) d_Machine_useCell_56 ?_
      change gx l E mi_Machine_useCell _ σ8 [(4, .int r5), (3, .int s0), (0, .ref (E.1 25)), (1, .ref (E.1 x1)), (2, .int x2)] 59 [.int r9, .ref (E.1 x1)]
      obtain ⟨σ10, cσ10, hT⟩ := tx_cv_some hT
      refine gx_callV (pc := 59) (As := [.int r9]) (rest := []) cm_Frame_push lk_Machine_79 (fx_Frame_push_c l E σ8 x1 r9 hx1 _ cσ10) (tx_fr0 hx1) (by decide) rfl rfl tx_fi_Machine_useCell_Frame_push (Nat.le_of_ble_eq_true rfl) d_Machine_useCell_59 ?_
      change gx l E mi_Machine_useCell _ σ10 [(4, .int r5), (3, .int s0), (0, .ref (E.1 25)), (1, .ref (E.1 x1)), (2, .int x2)] 62 []
      refine gx_sub [] rfl ?_
      exact fx_Machine_useCell_b62_w  σ10 _ hT
    · have hT := tx_ifp h7 hT
      refine gx_aload_n (pc := 34) 2 d_Machine_useCell_34 rfl rfl ?_
      refine gx_getR (pc := 35) 21 fl_Machine_21 d_Machine_useCell_35 (rfl) (by decide) rfl ?_
      refine gx_iload (pc := 38) 0 d_Machine_useCell_38 rfl ?_
      refine gx_iconst (pc := 40) (0 : Int32) d_Machine_useCell_40 (by decide) ?_
      refine gx_iload_n (pc := 41) 1 d_Machine_useCell_41 rfl rfl ?_
      obtain ⟨σ11, cσ11, hT⟩ := tx_cv_some hT
      refine gx_callV (pc := 42) (As := [.int r5, .int (0 : Int32), .int s0]) (rest := []) cm_Heap_setSlot lk_Machine_122 (fx_Heap_setSlot_c l E σ4 r5 (0 : Int32) s0 _ cσ11) (rfl) (by decide) rfl rfl tx_fi_Machine_useCell_Heap_setSlot (Nat.le_of_ble_eq_true rfl) d_Machine_useCell_42 ?_
      change gx l E mi_Machine_useCell _ σ11 [(4, .int r5), (3, .int s0), (0, .ref (E.1 25)), (1, .ref (E.1 x1)), (2, .int x2)] 45 []
      refine gx_goto (pc := 45) 62 d_Machine_useCell_45 rfl ?_
      refine gx_sub [] rfl ?_
      exact fx_Machine_useCell_b62_w  σ11 _ hT
  · have hT := tx_ifp h6 hT
    refine gx_iconst (pc := 26) (1 : Int32) d_Machine_useCell_26 (by decide) ?_
    cases hT
    exact gx_iret (pc := 27) d_Machine_useCell_27 rfl rfl
set_option maxRecDepth 100000 in
set_option maxHeartbeats 4000000 in
theorem fx_Machine_useCell_c (l : Launch) (E : tx_E) (σ : tx_St) (x1 : Nat) (x2 : Int32) (hx1 : tx_isFr x1) (t : Int32 × tx_St) (hT : fx_Machine_useCell σ x1 x2 = some t) : tx_MX l E y_Machine_useCell mi_Machine_useCell (some (.int t.1), t.2) [.ref (E.1 25), .ref (E.1 x1), .int x2] σ := by
  refine tx_MX_of (by decide) rfl (Nat.le_of_ble_eq_true rfl) ?_
  show gx l E mi_Machine_useCell (some (.int t.1), t.2) σ [(0, .ref (E.1 25)), (1, .ref (E.1 x1)), (2, .int x2)] 0 []
  unfold fx_Machine_useCell at hT
  refine gx_iload_n (pc := 0) 2 d_Machine_useCell_0 rfl rfl ?_
  refine gx_bipush (pc := 1) (15 : Int32) d_Machine_useCell_1 (by decide) ?_
  refine gx_icmp_ne (pc := 3) 13 d_Machine_useCell_3 rfl (fun h1 => ?_) (fun h1 => ?_)
  · have hT := tx_ifn h1 hT
    refine gx_iconst (pc := 13) (0 : Int32) d_Machine_useCell_13 (by decide) ?_
    exact fx_Machine_useCell_b14_w  σ x1 x2 (0 : Int32) hx1 _ hT
  · have hT := tx_ifp h1 hT
    refine gx_aload_n (pc := 6) 1 d_Machine_useCell_6 rfl rfl ?_
    obtain ⟨r3, σ2, cσ2, hT⟩ := tx_ci_some hT
    refine gx_callV (pc := 7) (As := []) (rest := []) cm_Frame_pop lk_Machine_82 (fx_Frame_pop_c l E σ x1 hx1 _ cσ2) (tx_fr0 hx1) (by decide) rfl rfl tx_fi_Machine_useCell_Frame_pop (Nat.le_of_ble_eq_true rfl) d_Machine_useCell_7 ?_
    change gx l E mi_Machine_useCell _ σ2 [(0, .ref (E.1 25)), (1, .ref (E.1 x1)), (2, .int x2)] 10 [.int r3]
    refine gx_goto (pc := 10) 14 d_Machine_useCell_10 rfl ?_
    exact fx_Machine_useCell_b14_w  σ2 x1 x2 r3 hx1 _ hT
theorem d_Math_abs_0 : decode c_Math_abs 0 = .ok (.iload_n 0, 1) := by decide +kernel
theorem d_Math_abs_1 : decode c_Math_abs 1 = .ok (.ifCond .ge (8), 3) := by decide +kernel
theorem d_Math_abs_4 : decode c_Math_abs 4 = .ok (.iload_n 0, 1) := by decide +kernel
theorem d_Math_abs_5 : decode c_Math_abs 5 = .ok (.ineg, 1) := by decide +kernel
theorem d_Math_abs_6 : decode c_Math_abs 6 = .ok (.goto (4), 3) := by decide +kernel
theorem d_Math_abs_9 : decode c_Math_abs 9 = .ok (.iload_n 0, 1) := by decide +kernel
theorem d_Math_abs_10 : decode c_Math_abs 10 = .ok (.ireturn, 1) := by decide +kernel


theorem d_Int_bitCount_0 : decode c_Int_bitCount 0 = .ok (.iload_n 0, 1) := by decide +kernel
theorem d_Int_bitCount_1 : decode c_Int_bitCount 1 = .ok (.iload_n 0, 1) := by decide +kernel
theorem d_Int_bitCount_2 : decode c_Int_bitCount 2 = .ok (.iconst (1), 1) := by decide +kernel
theorem d_Int_bitCount_3 : decode c_Int_bitCount 3 = .ok (.iushr, 1) := by decide +kernel
theorem d_Int_bitCount_4 : decode c_Int_bitCount 4 = .ok (.ldc_w 265, 3) := by decide +kernel
theorem d_Int_bitCount_7 : decode c_Int_bitCount 7 = .ok (.iand, 1) := by decide +kernel
theorem d_Int_bitCount_8 : decode c_Int_bitCount 8 = .ok (.isub, 1) := by decide +kernel
theorem d_Int_bitCount_9 : decode c_Int_bitCount 9 = .ok (.istore_n 0, 1) := by decide +kernel
theorem d_Int_bitCount_10 : decode c_Int_bitCount 10 = .ok (.iload_n 0, 1) := by decide +kernel
theorem d_Int_bitCount_11 : decode c_Int_bitCount 11 = .ok (.ldc_w 266, 3) := by decide +kernel
theorem d_Int_bitCount_14 : decode c_Int_bitCount 14 = .ok (.iand, 1) := by decide +kernel
theorem d_Int_bitCount_15 : decode c_Int_bitCount 15 = .ok (.iload_n 0, 1) := by decide +kernel
theorem d_Int_bitCount_16 : decode c_Int_bitCount 16 = .ok (.iconst (2), 1) := by decide +kernel
theorem d_Int_bitCount_17 : decode c_Int_bitCount 17 = .ok (.iushr, 1) := by decide +kernel
theorem d_Int_bitCount_18 : decode c_Int_bitCount 18 = .ok (.ldc_w 266, 3) := by decide +kernel
theorem d_Int_bitCount_21 : decode c_Int_bitCount 21 = .ok (.iand, 1) := by decide +kernel
theorem d_Int_bitCount_22 : decode c_Int_bitCount 22 = .ok (.iadd, 1) := by decide +kernel
theorem d_Int_bitCount_23 : decode c_Int_bitCount 23 = .ok (.istore_n 0, 1) := by decide +kernel
theorem d_Int_bitCount_24 : decode c_Int_bitCount 24 = .ok (.iload_n 0, 1) := by decide +kernel
theorem d_Int_bitCount_25 : decode c_Int_bitCount 25 = .ok (.iload_n 0, 1) := by decide +kernel
theorem d_Int_bitCount_26 : decode c_Int_bitCount 26 = .ok (.iconst (4), 1) := by decide +kernel
theorem d_Int_bitCount_27 : decode c_Int_bitCount 27 = .ok (.iushr, 1) := by decide +kernel
theorem d_Int_bitCount_28 : decode c_Int_bitCount 28 = .ok (.iadd, 1) := by decide +kernel
theorem d_Int_bitCount_29 : decode c_Int_bitCount 29 = .ok (.ldc_w 267, 3) := by decide +kernel
theorem d_Int_bitCount_32 : decode c_Int_bitCount 32 = .ok (.iand, 1) := by decide +kernel
theorem d_Int_bitCount_33 : decode c_Int_bitCount 33 = .ok (.istore_n 0, 1) := by decide +kernel
theorem d_Int_bitCount_34 : decode c_Int_bitCount 34 = .ok (.iload_n 0, 1) := by decide +kernel
theorem d_Int_bitCount_35 : decode c_Int_bitCount 35 = .ok (.iload_n 0, 1) := by decide +kernel
theorem d_Int_bitCount_36 : decode c_Int_bitCount 36 = .ok (.bipush (8), 2) := by decide +kernel
theorem d_Int_bitCount_38 : decode c_Int_bitCount 38 = .ok (.iushr, 1) := by decide +kernel
theorem d_Int_bitCount_39 : decode c_Int_bitCount 39 = .ok (.iadd, 1) := by decide +kernel
theorem d_Int_bitCount_40 : decode c_Int_bitCount 40 = .ok (.istore_n 0, 1) := by decide +kernel
theorem d_Int_bitCount_41 : decode c_Int_bitCount 41 = .ok (.iload_n 0, 1) := by decide +kernel
theorem d_Int_bitCount_42 : decode c_Int_bitCount 42 = .ok (.iload_n 0, 1) := by decide +kernel
theorem d_Int_bitCount_43 : decode c_Int_bitCount 43 = .ok (.bipush (16), 2) := by decide +kernel
theorem d_Int_bitCount_45 : decode c_Int_bitCount 45 = .ok (.iushr, 1) := by decide +kernel
theorem d_Int_bitCount_46 : decode c_Int_bitCount 46 = .ok (.iadd, 1) := by decide +kernel
theorem d_Int_bitCount_47 : decode c_Int_bitCount 47 = .ok (.istore_n 0, 1) := by decide +kernel
theorem d_Int_bitCount_48 : decode c_Int_bitCount 48 = .ok (.iload_n 0, 1) := by decide +kernel
theorem d_Int_bitCount_49 : decode c_Int_bitCount 49 = .ok (.bipush (63), 2) := by decide +kernel
theorem d_Int_bitCount_51 : decode c_Int_bitCount 51 = .ok (.iand, 1) := by decide +kernel
theorem d_Int_bitCount_52 : decode c_Int_bitCount 52 = .ok (.ireturn, 1) := by decide +kernel
def fx_Int_bitCount (σ : tx_St) (x0 : Int32) : Option (Int32 × tx_St) := some (((((((((x0 - (((x0.toUInt32 >>> ((1 : Int32).toUInt32 &&& Int32.toUInt32 31)).toInt32) &&& (1431655765 : Int32))) &&& (858993459 : Int32)) + ((((x0 - (((x0.toUInt32 >>> ((1 : Int32).toUInt32 &&& Int32.toUInt32 31)).toInt32) &&& (1431655765 : Int32))).toUInt32 >>> ((2 : Int32).toUInt32 &&& Int32.toUInt32 31)).toInt32) &&& (858993459 : Int32))) + (((((x0 - (((x0.toUInt32 >>> ((1 : Int32).toUInt32 &&& Int32.toUInt32 31)).toInt32) &&& (1431655765 : Int32))) &&& (858993459 : Int32)) + ((((x0 - (((x0.toUInt32 >>> ((1 : Int32).toUInt32 &&& Int32.toUInt32 31)).toInt32) &&& (1431655765 : Int32))).toUInt32 >>> ((2 : Int32).toUInt32 &&& Int32.toUInt32 31)).toInt32) &&& (858993459 : Int32))).toUInt32 >>> ((4 : Int32).toUInt32 &&& Int32.toUInt32 31)).toInt32)) &&& (252645135 : Int32)) + (((((((x0 - (((x0.toUInt32 >>> ((1 : Int32).toUInt32 &&& Int32.toUInt32 31)).toInt32) &&& (1431655765 : Int32))) &&& (858993459 : Int32)) + ((((x0 - (((x0.toUInt32 >>> ((1 : Int32).toUInt32 &&& Int32.toUInt32 31)).toInt32) &&& (1431655765 : Int32))).toUInt32 >>> ((2 : Int32).toUInt32 &&& Int32.toUInt32 31)).toInt32) &&& (858993459 : Int32))) + (((((x0 - (((x0.toUInt32 >>> ((1 : Int32).toUInt32 &&& Int32.toUInt32 31)).toInt32) &&& (1431655765 : Int32))) &&& (858993459 : Int32)) + ((((x0 - (((x0.toUInt32 >>> ((1 : Int32).toUInt32 &&& Int32.toUInt32 31)).toInt32) &&& (1431655765 : Int32))).toUInt32 >>> ((2 : Int32).toUInt32 &&& Int32.toUInt32 31)).toInt32) &&& (858993459 : Int32))).toUInt32 >>> ((4 : Int32).toUInt32 &&& Int32.toUInt32 31)).toInt32)) &&& (252645135 : Int32)).toUInt32 >>> ((8 : Int32).toUInt32 &&& Int32.toUInt32 31)).toInt32)) + ((((((((x0 - (((x0.toUInt32 >>> ((1 : Int32).toUInt32 &&& Int32.toUInt32 31)).toInt32) &&& (1431655765 : Int32))) &&& (858993459 : Int32)) + ((((x0 - (((x0.toUInt32 >>> ((1 : Int32).toUInt32 &&& Int32.toUInt32 31)).toInt32) &&& (1431655765 : Int32))).toUInt32 >>> ((2 : Int32).toUInt32 &&& Int32.toUInt32 31)).toInt32) &&& (858993459 : Int32))) + (((((x0 - (((x0.toUInt32 >>> ((1 : Int32).toUInt32 &&& Int32.toUInt32 31)).toInt32) &&& (1431655765 : Int32))) &&& (858993459 : Int32)) + ((((x0 - (((x0.toUInt32 >>> ((1 : Int32).toUInt32 &&& Int32.toUInt32 31)).toInt32) &&& (1431655765 : Int32))).toUInt32 >>> ((2 : Int32).toUInt32 &&& Int32.toUInt32 31)).toInt32) &&& (858993459 : Int32))).toUInt32 >>> ((4 : Int32).toUInt32 &&& Int32.toUInt32 31)).toInt32)) &&& (252645135 : Int32)) + (((((((x0 - (((x0.toUInt32 >>> ((1 : Int32).toUInt32 &&& Int32.toUInt32 31)).toInt32) &&& (1431655765 : Int32))) &&& (858993459 : Int32)) + ((((x0 - (((x0.toUInt32 >>> ((1 : Int32).toUInt32 &&& Int32.toUInt32 31)).toInt32) &&& (1431655765 : Int32))).toUInt32 >>> ((2 : Int32).toUInt32 &&& Int32.toUInt32 31)).toInt32) &&& (858993459 : Int32))) + (((((x0 - (((x0.toUInt32 >>> ((1 : Int32).toUInt32 &&& Int32.toUInt32 31)).toInt32) &&& (1431655765 : Int32))) &&& (858993459 : Int32)) + ((((x0 - (((x0.toUInt32 >>> ((1 : Int32).toUInt32 &&& Int32.toUInt32 31)).toInt32) &&& (1431655765 : Int32))).toUInt32 >>> ((2 : Int32).toUInt32 &&& Int32.toUInt32 31)).toInt32) &&& (858993459 : Int32))).toUInt32 >>> ((4 : Int32).toUInt32 &&& Int32.toUInt32 31)).toInt32)) &&& (252645135 : Int32)).toUInt32 >>> ((8 : Int32).toUInt32 &&& Int32.toUInt32 31)).toInt32)).toUInt32 >>> ((16 : Int32).toUInt32 &&& Int32.toUInt32 31)).toInt32)) &&& (63 : Int32)), σ)
set_option maxRecDepth 100000 in
set_option maxHeartbeats 4000000 in
theorem fx_Int_bitCount_c (l : Launch) (E : tx_E) (σ : tx_St) (x0 : Int32) (t : Int32 × tx_St) (hT : fx_Int_bitCount σ x0 = some t) : tx_MX l E y_Int_bitCount mi_Int_bitCount (some (.int t.1), t.2) [.int x0] σ := by
  refine tx_MX_of (by decide) rfl (Nat.le_of_ble_eq_true rfl) ?_
  show gx l E mi_Int_bitCount (some (.int t.1), t.2) σ [(0, .int x0)] 0 []
  unfold fx_Int_bitCount at hT
  refine gx_iload_n (pc := 0) 0 d_Int_bitCount_0 rfl rfl ?_
  refine gx_iload_n (pc := 1) 0 d_Int_bitCount_1 rfl rfl ?_
  refine gx_iconst (pc := 2) (1 : Int32) d_Int_bitCount_2 (by decide) ?_
  refine gx_iushr (pc := 3) d_Int_bitCount_3 ?_
  refine gx_ldcw (pc := 4) (v := (1431655765 : Int32)) d_Int_bitCount_4 tw_3_111 ?_
  refine gx_iand (pc := 7) d_Int_bitCount_7 ?_
  refine gx_isub (pc := 8) d_Int_bitCount_8 ?_
  refine gx_istore_n (pc := 9) [(0, .int (x0 - (((x0.toUInt32 >>> ((1 : Int32).toUInt32 &&& Int32.toUInt32 31)).toInt32) &&& (1431655765 : Int32))))] d_Int_bitCount_9 rfl (Nat.le_of_ble_eq_true rfl) rfl ?_
  refine gx_iload_n (pc := 10) 0 d_Int_bitCount_10 rfl rfl ?_
  refine gx_ldcw (pc := 11) (v := (858993459 : Int32)) d_Int_bitCount_11 tw_3_112 ?_
  refine gx_iand (pc := 14) d_Int_bitCount_14 ?_
  refine gx_iload_n (pc := 15) 0 d_Int_bitCount_15 rfl rfl ?_
  refine gx_iconst (pc := 16) (2 : Int32) d_Int_bitCount_16 (by decide) ?_
  refine gx_iushr (pc := 17) d_Int_bitCount_17 ?_
  refine gx_ldcw (pc := 18) (v := (858993459 : Int32)) d_Int_bitCount_18 tw_3_112 ?_
  refine gx_iand (pc := 21) d_Int_bitCount_21 ?_
  refine gx_iadd (pc := 22) d_Int_bitCount_22 ?_
  refine gx_istore_n (pc := 23) [(0, .int (((x0 - (((x0.toUInt32 >>> ((1 : Int32).toUInt32 &&& Int32.toUInt32 31)).toInt32) &&& (1431655765 : Int32))) &&& (858993459 : Int32)) + ((((x0 - (((x0.toUInt32 >>> ((1 : Int32).toUInt32 &&& Int32.toUInt32 31)).toInt32) &&& (1431655765 : Int32))).toUInt32 >>> ((2 : Int32).toUInt32 &&& Int32.toUInt32 31)).toInt32) &&& (858993459 : Int32))))] d_Int_bitCount_23 rfl (Nat.le_of_ble_eq_true rfl) rfl ?_
  refine gx_iload_n (pc := 24) 0 d_Int_bitCount_24 rfl rfl ?_
  refine gx_iload_n (pc := 25) 0 d_Int_bitCount_25 rfl rfl ?_
  refine gx_iconst (pc := 26) (4 : Int32) d_Int_bitCount_26 (by decide) ?_
  refine gx_iushr (pc := 27) d_Int_bitCount_27 ?_
  refine gx_iadd (pc := 28) d_Int_bitCount_28 ?_
  refine gx_ldcw (pc := 29) (v := (252645135 : Int32)) d_Int_bitCount_29 tw_3_113 ?_
  refine gx_iand (pc := 32) d_Int_bitCount_32 ?_
  refine gx_istore_n (pc := 33) [(0, .int (((((x0 - (((x0.toUInt32 >>> ((1 : Int32).toUInt32 &&& Int32.toUInt32 31)).toInt32) &&& (1431655765 : Int32))) &&& (858993459 : Int32)) + ((((x0 - (((x0.toUInt32 >>> ((1 : Int32).toUInt32 &&& Int32.toUInt32 31)).toInt32) &&& (1431655765 : Int32))).toUInt32 >>> ((2 : Int32).toUInt32 &&& Int32.toUInt32 31)).toInt32) &&& (858993459 : Int32))) + (((((x0 - (((x0.toUInt32 >>> ((1 : Int32).toUInt32 &&& Int32.toUInt32 31)).toInt32) &&& (1431655765 : Int32))) &&& (858993459 : Int32)) + ((((x0 - (((x0.toUInt32 >>> ((1 : Int32).toUInt32 &&& Int32.toUInt32 31)).toInt32) &&& (1431655765 : Int32))).toUInt32 >>> ((2 : Int32).toUInt32 &&& Int32.toUInt32 31)).toInt32) &&& (858993459 : Int32))).toUInt32 >>> ((4 : Int32).toUInt32 &&& Int32.toUInt32 31)).toInt32)) &&& (252645135 : Int32)))] d_Int_bitCount_33 rfl (Nat.le_of_ble_eq_true rfl) rfl ?_
  refine gx_iload_n (pc := 34) 0 d_Int_bitCount_34 rfl rfl ?_
  refine gx_iload_n (pc := 35) 0 d_Int_bitCount_35 rfl rfl ?_
  refine gx_bipush (pc := 36) (8 : Int32) d_Int_bitCount_36 (by decide) ?_
  refine gx_iushr (pc := 38) d_Int_bitCount_38 ?_
  refine gx_iadd (pc := 39) d_Int_bitCount_39 ?_
  refine gx_istore_n (pc := 40) [(0, .int ((((((x0 - (((x0.toUInt32 >>> ((1 : Int32).toUInt32 &&& Int32.toUInt32 31)).toInt32) &&& (1431655765 : Int32))) &&& (858993459 : Int32)) + ((((x0 - (((x0.toUInt32 >>> ((1 : Int32).toUInt32 &&& Int32.toUInt32 31)).toInt32) &&& (1431655765 : Int32))).toUInt32 >>> ((2 : Int32).toUInt32 &&& Int32.toUInt32 31)).toInt32) &&& (858993459 : Int32))) + (((((x0 - (((x0.toUInt32 >>> ((1 : Int32).toUInt32 &&& Int32.toUInt32 31)).toInt32) &&& (1431655765 : Int32))) &&& (858993459 : Int32)) + ((((x0 - (((x0.toUInt32 >>> ((1 : Int32).toUInt32 &&& Int32.toUInt32 31)).toInt32) &&& (1431655765 : Int32))).toUInt32 >>> ((2 : Int32).toUInt32 &&& Int32.toUInt32 31)).toInt32) &&& (858993459 : Int32))).toUInt32 >>> ((4 : Int32).toUInt32 &&& Int32.toUInt32 31)).toInt32)) &&& (252645135 : Int32)) + (((((((x0 - (((x0.toUInt32 >>> ((1 : Int32).toUInt32 &&& Int32.toUInt32 31)).toInt32) &&& (1431655765 : Int32))) &&& (858993459 : Int32)) + ((((x0 - (((x0.toUInt32 >>> ((1 : Int32).toUInt32 &&& Int32.toUInt32 31)).toInt32) &&& (1431655765 : Int32))).toUInt32 >>> ((2 : Int32).toUInt32 &&& Int32.toUInt32 31)).toInt32) &&& (858993459 : Int32))) + (((((x0 - (((x0.toUInt32 >>> ((1 : Int32).toUInt32 &&& Int32.toUInt32 31)).toInt32) &&& (1431655765 : Int32))) &&& (858993459 : Int32)) + ((((x0 - (((x0.toUInt32 >>> ((1 : Int32).toUInt32 &&& Int32.toUInt32 31)).toInt32) &&& (1431655765 : Int32))).toUInt32 >>> ((2 : Int32).toUInt32 &&& Int32.toUInt32 31)).toInt32) &&& (858993459 : Int32))).toUInt32 >>> ((4 : Int32).toUInt32 &&& Int32.toUInt32 31)).toInt32)) &&& (252645135 : Int32)).toUInt32 >>> ((8 : Int32).toUInt32 &&& Int32.toUInt32 31)).toInt32)))] d_Int_bitCount_40 rfl (Nat.le_of_ble_eq_true rfl) rfl ?_
  refine gx_iload_n (pc := 41) 0 d_Int_bitCount_41 rfl rfl ?_
  refine gx_iload_n (pc := 42) 0 d_Int_bitCount_42 rfl rfl ?_
  refine gx_bipush (pc := 43) (16 : Int32) d_Int_bitCount_43 (by decide) ?_
  refine gx_iushr (pc := 45) d_Int_bitCount_45 ?_
  refine gx_iadd (pc := 46) d_Int_bitCount_46 ?_
  refine gx_istore_n (pc := 47) [(0, .int (((((((x0 - (((x0.toUInt32 >>> ((1 : Int32).toUInt32 &&& Int32.toUInt32 31)).toInt32) &&& (1431655765 : Int32))) &&& (858993459 : Int32)) + ((((x0 - (((x0.toUInt32 >>> ((1 : Int32).toUInt32 &&& Int32.toUInt32 31)).toInt32) &&& (1431655765 : Int32))).toUInt32 >>> ((2 : Int32).toUInt32 &&& Int32.toUInt32 31)).toInt32) &&& (858993459 : Int32))) + (((((x0 - (((x0.toUInt32 >>> ((1 : Int32).toUInt32 &&& Int32.toUInt32 31)).toInt32) &&& (1431655765 : Int32))) &&& (858993459 : Int32)) + ((((x0 - (((x0.toUInt32 >>> ((1 : Int32).toUInt32 &&& Int32.toUInt32 31)).toInt32) &&& (1431655765 : Int32))).toUInt32 >>> ((2 : Int32).toUInt32 &&& Int32.toUInt32 31)).toInt32) &&& (858993459 : Int32))).toUInt32 >>> ((4 : Int32).toUInt32 &&& Int32.toUInt32 31)).toInt32)) &&& (252645135 : Int32)) + (((((((x0 - (((x0.toUInt32 >>> ((1 : Int32).toUInt32 &&& Int32.toUInt32 31)).toInt32) &&& (1431655765 : Int32))) &&& (858993459 : Int32)) + ((((x0 - (((x0.toUInt32 >>> ((1 : Int32).toUInt32 &&& Int32.toUInt32 31)).toInt32) &&& (1431655765 : Int32))).toUInt32 >>> ((2 : Int32).toUInt32 &&& Int32.toUInt32 31)).toInt32) &&& (858993459 : Int32))) + (((((x0 - (((x0.toUInt32 >>> ((1 : Int32).toUInt32 &&& Int32.toUInt32 31)).toInt32) &&& (1431655765 : Int32))) &&& (858993459 : Int32)) + ((((x0 - (((x0.toUInt32 >>> ((1 : Int32).toUInt32 &&& Int32.toUInt32 31)).toInt32) &&& (1431655765 : Int32))).toUInt32 >>> ((2 : Int32).toUInt32 &&& Int32.toUInt32 31)).toInt32) &&& (858993459 : Int32))).toUInt32 >>> ((4 : Int32).toUInt32 &&& Int32.toUInt32 31)).toInt32)) &&& (252645135 : Int32)).toUInt32 >>> ((8 : Int32).toUInt32 &&& Int32.toUInt32 31)).toInt32)) + ((((((((x0 - (((x0.toUInt32 >>> ((1 : Int32).toUInt32 &&& Int32.toUInt32 31)).toInt32) &&& (1431655765 : Int32))) &&& (858993459 : Int32)) + ((((x0 - (((x0.toUInt32 >>> ((1 : Int32).toUInt32 &&& Int32.toUInt32 31)).toInt32) &&& (1431655765 : Int32))).toUInt32 >>> ((2 : Int32).toUInt32 &&& Int32.toUInt32 31)).toInt32) &&& (858993459 : Int32))) + (((((x0 - (((x0.toUInt32 >>> ((1 : Int32).toUInt32 &&& Int32.toUInt32 31)).toInt32) &&& (1431655765 : Int32))) &&& (858993459 : Int32)) + ((((x0 - (((x0.toUInt32 >>> ((1 : Int32).toUInt32 &&& Int32.toUInt32 31)).toInt32) &&& (1431655765 : Int32))).toUInt32 >>> ((2 : Int32).toUInt32 &&& Int32.toUInt32 31)).toInt32) &&& (858993459 : Int32))).toUInt32 >>> ((4 : Int32).toUInt32 &&& Int32.toUInt32 31)).toInt32)) &&& (252645135 : Int32)) + (((((((x0 - (((x0.toUInt32 >>> ((1 : Int32).toUInt32 &&& Int32.toUInt32 31)).toInt32) &&& (1431655765 : Int32))) &&& (858993459 : Int32)) + ((((x0 - (((x0.toUInt32 >>> ((1 : Int32).toUInt32 &&& Int32.toUInt32 31)).toInt32) &&& (1431655765 : Int32))).toUInt32 >>> ((2 : Int32).toUInt32 &&& Int32.toUInt32 31)).toInt32) &&& (858993459 : Int32))) + (((((x0 - (((x0.toUInt32 >>> ((1 : Int32).toUInt32 &&& Int32.toUInt32 31)).toInt32) &&& (1431655765 : Int32))) &&& (858993459 : Int32)) + ((((x0 - (((x0.toUInt32 >>> ((1 : Int32).toUInt32 &&& Int32.toUInt32 31)).toInt32) &&& (1431655765 : Int32))).toUInt32 >>> ((2 : Int32).toUInt32 &&& Int32.toUInt32 31)).toInt32) &&& (858993459 : Int32))).toUInt32 >>> ((4 : Int32).toUInt32 &&& Int32.toUInt32 31)).toInt32)) &&& (252645135 : Int32)).toUInt32 >>> ((8 : Int32).toUInt32 &&& Int32.toUInt32 31)).toInt32)).toUInt32 >>> ((16 : Int32).toUInt32 &&& Int32.toUInt32 31)).toInt32)))] d_Int_bitCount_47 rfl (Nat.le_of_ble_eq_true rfl) rfl ?_
  refine gx_iload_n (pc := 48) 0 d_Int_bitCount_48 rfl rfl ?_
  refine gx_bipush (pc := 49) (63 : Int32) d_Int_bitCount_49 (by decide) ?_
  refine gx_iand (pc := 51) d_Int_bitCount_51 ?_
  cases hT
  exact gx_iret (pc := 52) d_Int_bitCount_52 rfl rfl
theorem d_Machine_library_0 : decode c_Machine_library 0 = .ok (.aload_n 1, 1) := by decide +kernel
theorem d_Machine_library_1 : decode c_Machine_library 1 = .ok (.invokevirtual 82, 3) := by decide +kernel
theorem d_Machine_library_4 : decode c_Machine_library 4 = .ok (.istore_n 3, 1) := by decide +kernel
theorem d_Machine_library_5 : decode c_Machine_library 5 = .ok (.aload_n 1, 1) := by decide +kernel
theorem d_Machine_library_6 : decode c_Machine_library 6 = .ok (.iload_n 2, 1) := by decide +kernel
theorem d_Machine_library_7 : decode c_Machine_library 7 = .ok (.ifCond .ne (10), 3) := by decide +kernel
theorem d_Machine_library_10 : decode c_Machine_library 10 = .ok (.iload_n 3, 1) := by decide +kernel
theorem d_Machine_library_11 : decode c_Machine_library 11 = .ok (.invokestatic 131, 3) := by decide +kernel
theorem d_Machine_library_14 : decode c_Machine_library 14 = .ok (.goto (7), 3) := by decide +kernel
theorem d_Machine_library_17 : decode c_Machine_library 17 = .ok (.iload_n 3, 1) := by decide +kernel
theorem d_Machine_library_18 : decode c_Machine_library 18 = .ok (.invokestatic 136, 3) := by decide +kernel
theorem d_Machine_library_21 : decode c_Machine_library 21 = .ok (.invokevirtual 79, 3) := by decide +kernel
theorem d_Machine_library_24 : decode c_Machine_library 24 = .ok (.iconst (0), 1) := by decide +kernel
theorem d_Machine_library_25 : decode c_Machine_library 25 = .ok (.ireturn, 1) := by decide +kernel
def fx_Machine_library_b21 (σ : tx_St) (s0 : Int32) (s1 : Nat) : Option (Int32 × tx_St) := tx_cv (fx_Frame_push σ s1 s0) fun σ6 => some ((0 : Int32), σ6)
def fx_Machine_library (σ : tx_St) (x1 : Nat) (x2 : Int32) : Option (Int32 × tx_St) := tx_ci (fx_Frame_pop σ x1) fun r2 σ1 => (if x2 = 0 then fx_Machine_library_b21  σ1 (if 0 ≤ r2 then r2 else 0 - r2) x1 else tx_ci (fx_Int_bitCount σ1 r2) fun r5 σ4 => fx_Machine_library_b21  σ4 r5 x1)
set_option maxRecDepth 100000 in
set_option maxHeartbeats 4000000 in
theorem fx_Machine_library_b21_w {l : Launch} {E : tx_E} (σ : tx_St) (s0 : Int32) (s1 : Nat) (hs1 : tx_isFr s1) (t : Int32 × tx_St) (hT : fx_Machine_library_b21 σ s0 s1 = some t) : gx l E mi_Machine_library (some (.int t.1), t.2) σ [] 21 [.int s0, .ref (E.1 s1)] := by
  unfold fx_Machine_library_b21 at hT
  obtain ⟨σ6, cσ6, hT⟩ := tx_cv_some hT
  refine gx_callV (pc := 21) (As := [.int s0]) (rest := []) cm_Frame_push lk_Machine_79 (fx_Frame_push_c l E σ s1 s0 hs1 _ cσ6) (tx_fr0 hs1) (by decide) rfl rfl tx_fi_Machine_library_Frame_push (Nat.le_of_ble_eq_true rfl) d_Machine_library_21 ?_
  change gx l E mi_Machine_library _ σ6 [] 24 []
  refine gx_iconst (pc := 24) (0 : Int32) d_Machine_library_24 (by decide) ?_
  cases hT
  exact gx_iret (pc := 25) d_Machine_library_25 rfl rfl
set_option maxRecDepth 100000 in
set_option maxHeartbeats 4000000 in
theorem fx_Machine_library_c (l : Launch) (E : tx_E) (σ : tx_St) (x1 : Nat) (x2 : Int32) (hx1 : tx_isFr x1) (t : Int32 × tx_St) (hT : fx_Machine_library σ x1 x2 = some t) : tx_MX l E y_Machine_library mi_Machine_library (some (.int t.1), t.2) [.ref (E.1 25), .ref (E.1 x1), .int x2] σ := by
  refine tx_MX_of (by decide) rfl (Nat.le_of_ble_eq_true rfl) ?_
  show gx l E mi_Machine_library (some (.int t.1), t.2) σ [(0, .ref (E.1 25)), (1, .ref (E.1 x1)), (2, .int x2)] 0 []
  unfold fx_Machine_library at hT
  refine gx_aload_n (pc := 0) 1 d_Machine_library_0 rfl rfl ?_
  obtain ⟨r2, σ1, cσ1, hT⟩ := tx_ci_some hT
  refine gx_callV (pc := 1) (As := []) (rest := []) cm_Frame_pop lk_Machine_82 (fx_Frame_pop_c l E σ x1 hx1 _ cσ1) (tx_fr0 hx1) (by decide) rfl rfl tx_fi_Machine_library_Frame_pop (Nat.le_of_ble_eq_true rfl) d_Machine_library_1 ?_
  change gx l E mi_Machine_library _ σ1 [(0, .ref (E.1 25)), (1, .ref (E.1 x1)), (2, .int x2)] 4 [.int r2]
  refine gx_istore_n (pc := 4) [(3, .int r2), (0, .ref (E.1 25)), (1, .ref (E.1 x1)), (2, .int x2)] d_Machine_library_4 rfl (Nat.le_of_ble_eq_true rfl) rfl ?_
  refine gx_aload_n (pc := 5) 2 d_Machine_library_5 rfl rfl ?_
  refine gx_iload_n (pc := 6) 3 d_Machine_library_6 rfl rfl ?_
  refine gx_if_ne (pc := 7) 17 d_Machine_library_7 rfl (fun h3 => ?_) (fun h3 => ?_)
  · have hT := tx_ifn h3 hT
    refine gx_iload_n (pc := 17) 0 d_Machine_library_17 rfl rfl ?_
    obtain ⟨r5, σ4, cσ4, hT⟩ := tx_ci_some hT
    refine gx_callS (pc := 18) (As := [.int r2]) (rest := [.ref (E.1 x1)]) cm_Int_bitCount lk_Machine_136 (fx_Int_bitCount_c l E σ1 r2 _ cσ4) rfl rfl tx_fi_Machine_library_Int_bitCount (Nat.le_of_ble_eq_true rfl) d_Machine_library_18 ?_
    change gx l E mi_Machine_library _ σ4 [(3, .int r2), (0, .ref (E.1 25)), (1, .ref (E.1 x1)), (2, .int x2)] 21 [.int r5, .ref (E.1 x1)]
    refine gx_sub [] rfl ?_
    exact fx_Machine_library_b21_w  σ4 r5 x1 hx1 _ hT
  · have hT := tx_ifp h3 hT
    refine gx_iload_n (pc := 10) 0 d_Machine_library_10 rfl rfl ?_
    refine gx_mabs (pc := 11) tw_3_105 cm_Math_abs (Nat.le_of_ble_eq_true rfl) (Nat.le_of_ble_eq_true rfl) d_Machine_library_11 ?_
    refine gx_goto (pc := 14) 21 d_Machine_library_14 rfl ?_
    refine gx_sub [] rfl ?_
    exact fx_Machine_library_b21_w  σ1 (if 0 ≤ r2 then r2 else 0 - r2) x1 hx1 _ hT
theorem d_Machine_leave_0 : decode c_Machine_leave 0 = .ok (.aload_n 0, 1) := by decide +kernel
theorem d_Machine_leave_1 : decode c_Machine_leave 1 = .ok (.aload_n 1, 1) := by decide +kernel
theorem d_Machine_leave_2 : decode c_Machine_leave 2 = .ok (.invokevirtual 82, 3) := by decide +kernel
theorem d_Machine_leave_5 : decode c_Machine_leave 5 = .ok (.putfield 141, 3) := by decide +kernel
theorem d_Machine_leave_8 : decode c_Machine_leave 8 = .ok (.aload_n 0, 1) := by decide +kernel
theorem d_Machine_leave_9 : decode c_Machine_leave 9 = .ok (.dup, 1) := by decide +kernel
theorem d_Machine_leave_10 : decode c_Machine_leave 10 = .ok (.getfield 26, 3) := by decide +kernel
theorem d_Machine_leave_13 : decode c_Machine_leave 13 = .ok (.iconst (1), 1) := by decide +kernel
theorem d_Machine_leave_14 : decode c_Machine_leave 14 = .ok (.isub, 1) := by decide +kernel
theorem d_Machine_leave_15 : decode c_Machine_leave 15 = .ok (.putfield 26, 3) := by decide +kernel
theorem d_Machine_leave_18 : decode c_Machine_leave 18 = .ok (.aload_n 0, 1) := by decide +kernel
theorem d_Machine_leave_19 : decode c_Machine_leave 19 = .ok (.getfield 26, 3) := by decide +kernel
theorem d_Machine_leave_22 : decode c_Machine_leave 22 = .ok (.ifCond .le (21), 3) := by decide +kernel
theorem d_Machine_leave_25 : decode c_Machine_leave 25 = .ok (.aload_n 0, 1) := by decide +kernel
theorem d_Machine_leave_26 : decode c_Machine_leave 26 = .ok (.getfield 11, 3) := by decide +kernel
theorem d_Machine_leave_29 : decode c_Machine_leave 29 = .ok (.aload_n 0, 1) := by decide +kernel
theorem d_Machine_leave_30 : decode c_Machine_leave 30 = .ok (.getfield 26, 3) := by decide +kernel
theorem d_Machine_leave_33 : decode c_Machine_leave 33 = .ok (.iconst (1), 1) := by decide +kernel
theorem d_Machine_leave_34 : decode c_Machine_leave 34 = .ok (.isub, 1) := by decide +kernel
theorem d_Machine_leave_35 : decode c_Machine_leave 35 = .ok (.aaload, 1) := by decide +kernel
theorem d_Machine_leave_36 : decode c_Machine_leave 36 = .ok (.aload_n 0, 1) := by decide +kernel
theorem d_Machine_leave_37 : decode c_Machine_leave 37 = .ok (.getfield 141, 3) := by decide +kernel
theorem d_Machine_leave_40 : decode c_Machine_leave 40 = .ok (.invokevirtual 79, 3) := by decide +kernel
theorem d_Machine_leave_43 : decode c_Machine_leave 43 = .ok (.iconst (0), 1) := by decide +kernel
theorem d_Machine_leave_44 : decode c_Machine_leave 44 = .ok (.ireturn, 1) := by decide +kernel
def fx_Machine_leave_b43 (σ : tx_St) : Option (Int32 × tx_St) := some ((0 : Int32), σ)
def fx_Machine_leave (σ : tx_St) (x1 : Nat) : Option (Int32 × tx_St) := tx_ci (fx_Frame_pop σ x1) fun r2 σ1 => tx_pt σ1 25 1 r2 fun σ3 => tx_pt σ3 25 5 ((σ3 25 5) - (1 : Int32)) fun σ4 => (if (σ4 25 5) ≤ 0 then fx_Machine_leave_b43  σ4 else tx_rf ((σ4 25 5) - (1 : Int32)) fun q6 => tx_cv (fx_Frame_push σ4 q6 (σ4 25 1)) fun σ7 => fx_Machine_leave_b43  σ7)
set_option maxRecDepth 100000 in
set_option maxHeartbeats 4000000 in
theorem fx_Machine_leave_b43_w {l : Launch} {E : tx_E} (σ : tx_St) (t : Int32 × tx_St) (hT : fx_Machine_leave_b43 σ  = some t) : gx l E mi_Machine_leave (some (.int t.1), t.2) σ [] 43 [] := by
  unfold fx_Machine_leave_b43 at hT
  refine gx_iconst (pc := 43) (0 : Int32) d_Machine_leave_43 (by decide) ?_
  cases hT
  exact gx_iret (pc := 44) d_Machine_leave_44 rfl rfl
set_option maxRecDepth 100000 in
set_option maxHeartbeats 4000000 in
theorem fx_Machine_leave_c (l : Launch) (E : tx_E) (σ : tx_St) (x1 : Nat) (hx1 : tx_isFr x1) (t : Int32 × tx_St) (hT : fx_Machine_leave σ x1 = some t) : tx_MX l E y_Machine_leave mi_Machine_leave (some (.int t.1), t.2) [.ref (E.1 25), .ref (E.1 x1)] σ := by
  refine tx_MX_of (by decide) rfl (Nat.le_of_ble_eq_true rfl) ?_
  show gx l E mi_Machine_leave (some (.int t.1), t.2) σ [(0, .ref (E.1 25)), (1, .ref (E.1 x1))] 0 []
  unfold fx_Machine_leave at hT
  refine gx_aload_n (pc := 0) 0 d_Machine_leave_0 rfl rfl ?_
  refine gx_aload_n (pc := 1) 1 d_Machine_leave_1 rfl rfl ?_
  obtain ⟨r2, σ1, cσ1, hT⟩ := tx_ci_some hT
  refine gx_callV (pc := 2) (As := []) (rest := [.ref (E.1 25)]) cm_Frame_pop lk_Machine_82 (fx_Frame_pop_c l E σ x1 hx1 _ cσ1) (tx_fr0 hx1) (by decide) rfl rfl tx_fi_Machine_leave_Frame_pop (Nat.le_of_ble_eq_true rfl) d_Machine_leave_2 ?_
  change gx l E mi_Machine_leave _ σ1 [(0, .ref (E.1 25)), (1, .ref (E.1 x1))] 5 [.int r2, .ref (E.1 25)]
  obtain ⟨σ3, gσ3, hT⟩ := tx_pt_some hT
  refine gx_putI (pc := 5) fp_Machine_141 d_Machine_leave_5 (rfl) (by decide) rfl ?_
  rw [gσ3]
  refine gx_aload_n (pc := 8) 0 d_Machine_leave_8 rfl rfl ?_
  refine gx_dup (pc := 9) d_Machine_leave_9 rfl ?_
  refine gx_getI (pc := 10) (σ3 25 5) fl_Machine_26 d_Machine_leave_10 (rfl) (by decide) rfl rfl ?_
  refine gx_iconst (pc := 13) (1 : Int32) d_Machine_leave_13 (by decide) ?_
  refine gx_isub (pc := 14) d_Machine_leave_14 ?_
  obtain ⟨σ4, gσ4, hT⟩ := tx_pt_some hT
  refine gx_putI (pc := 15) fp_Machine_26 d_Machine_leave_15 (rfl) (by decide) rfl ?_
  rw [gσ4]
  refine gx_aload_n (pc := 18) 0 d_Machine_leave_18 rfl rfl ?_
  refine gx_getI (pc := 19) (σ4 25 5) fl_Machine_26 d_Machine_leave_19 (rfl) (by decide) rfl rfl ?_
  refine gx_if_le (pc := 22) 43 d_Machine_leave_22 rfl (fun h5 => ?_) (fun h5 => ?_)
  · have hT := tx_ifp h5 hT
    refine gx_sub [] rfl ?_
    exact fx_Machine_leave_b43_w  σ4 _ hT
  · have hT := tx_ifn h5 hT
    refine gx_aload_n (pc := 25) 0 d_Machine_leave_25 rfl rfl ?_
    refine gx_getR (pc := 26) 26 fl_Machine_11 d_Machine_leave_26 (rfl) (by decide) rfl ?_
    refine gx_aload_n (pc := 29) 0 d_Machine_leave_29 rfl rfl ?_
    refine gx_getI (pc := 30) (σ4 25 5) fl_Machine_26 d_Machine_leave_30 (rfl) (by decide) rfl rfl ?_
    refine gx_iconst (pc := 33) (1 : Int32) d_Machine_leave_33 (by decide) ?_
    refine gx_isub (pc := 34) d_Machine_leave_34 ?_
    obtain ⟨q6, gq6, iq6, fq6, hT⟩ := tx_rf_some hT
    refine gx_aald (pc := 35) d_Machine_leave_35 (rfl) iq6 gq6 ?_
    refine gx_aload_n (pc := 36) 0 d_Machine_leave_36 rfl rfl ?_
    refine gx_getI (pc := 37) (σ4 25 1) fl_Machine_141 d_Machine_leave_37 (rfl) (by decide) rfl rfl ?_
    obtain ⟨σ7, cσ7, hT⟩ := tx_cv_some hT
    refine gx_callV (pc := 40) (As := [.int (σ4 25 1)]) (rest := []) cm_Frame_push lk_Machine_79 (fx_Frame_push_c l E σ4 q6 (σ4 25 1) fq6 _ cσ7) (tx_fr0 fq6) (by decide) rfl rfl tx_fi_Machine_leave_Frame_push (Nat.le_of_ble_eq_true rfl) d_Machine_leave_40 ?_
    change gx l E mi_Machine_leave _ σ7 [(0, .ref (E.1 25)), (1, .ref (E.1 x1))] 43 []
    refine gx_sub [] rfl ?_
    exact fx_Machine_leave_b43_w  σ7 _ hT
theorem d_Machine_step_0 : decode c_Machine_step 0 = .ok (.aload_n 1, 1) := by decide +kernel
theorem d_Machine_step_1 : decode c_Machine_step 1 = .ok (.getfield 67, 3) := by decide +kernel
theorem d_Machine_step_4 : decode c_Machine_step 4 = .ok (.bipush (12), 2) := by decide +kernel
theorem d_Machine_step_6 : decode c_Machine_step 6 = .ok (.imul, 1) := by decide +kernel
theorem d_Machine_step_7 : decode c_Machine_step 7 = .ok (.aload_n 1, 1) := by decide +kernel
theorem d_Machine_step_8 : decode c_Machine_step 8 = .ok (.getfield 70, 3) := by decide +kernel
theorem d_Machine_step_11 : decode c_Machine_step 11 = .ok (.iadd, 1) := by decide +kernel
theorem d_Machine_step_12 : decode c_Machine_step 12 = .ok (.istore_n 2, 1) := by decide +kernel
theorem d_Machine_step_13 : decode c_Machine_step 13 = .ok (.aload_n 0, 1) := by decide +kernel
theorem d_Machine_step_14 : decode c_Machine_step 14 = .ok (.getfield 17, 3) := by decide +kernel
theorem d_Machine_step_17 : decode c_Machine_step 17 = .ok (.getfield 73, 3) := by decide +kernel
theorem d_Machine_step_20 : decode c_Machine_step 20 = .ok (.iload_n 2, 1) := by decide +kernel
theorem d_Machine_step_21 : decode c_Machine_step 21 = .ok (.iaload, 1) := by decide +kernel
theorem d_Machine_step_22 : decode c_Machine_step 22 = .ok (.istore_n 3, 1) := by decide +kernel
theorem d_Machine_step_23 : decode c_Machine_step 23 = .ok (.aload_n 0, 1) := by decide +kernel
theorem d_Machine_step_24 : decode c_Machine_step 24 = .ok (.getfield 17, 3) := by decide +kernel
theorem d_Machine_step_27 : decode c_Machine_step 27 = .ok (.getfield 76, 3) := by decide +kernel
theorem d_Machine_step_30 : decode c_Machine_step 30 = .ok (.iload_n 2, 1) := by decide +kernel
theorem d_Machine_step_31 : decode c_Machine_step 31 = .ok (.iaload, 1) := by decide +kernel
theorem d_Machine_step_32 : decode c_Machine_step 32 = .ok (.istore 4, 2) := by decide +kernel
theorem d_Machine_step_34 : decode c_Machine_step 34 = .ok (.aload_n 1, 1) := by decide +kernel
theorem d_Machine_step_35 : decode c_Machine_step 35 = .ok (.dup, 1) := by decide +kernel
theorem d_Machine_step_36 : decode c_Machine_step 36 = .ok (.getfield 70, 3) := by decide +kernel
theorem d_Machine_step_39 : decode c_Machine_step 39 = .ok (.iconst (1), 1) := by decide +kernel
theorem d_Machine_step_40 : decode c_Machine_step 40 = .ok (.iadd, 1) := by decide +kernel
theorem d_Machine_step_41 : decode c_Machine_step 41 = .ok (.putfield 70, 3) := by decide +kernel
theorem d_Machine_step_44 : decode c_Machine_step 44 = .ok (.iload_n 3, 1) := by decide +kernel
theorem d_Machine_step_45 : decode c_Machine_step 45 = .ok (.tableswitch (225) (0) (19) #[(95), (103), (116), (129), (129), (136), (144), (159), (167), (167), (176), (225), (183), (191), (197), (197), (129), (204), (211), (219)], 95) := by decide +kernel
theorem d_Machine_step_140 : decode c_Machine_step 140 = .ok (.aload_n 1, 1) := by decide +kernel
theorem d_Machine_step_141 : decode c_Machine_step 141 = .ok (.iload 4, 2) := by decide +kernel
theorem d_Machine_step_143 : decode c_Machine_step 143 = .ok (.invokevirtual 79, 3) := by decide +kernel
theorem d_Machine_step_146 : decode c_Machine_step 146 = .ok (.iconst (0), 1) := by decide +kernel
theorem d_Machine_step_147 : decode c_Machine_step 147 = .ok (.ireturn, 1) := by decide +kernel
theorem d_Machine_step_148 : decode c_Machine_step 148 = .ok (.aload_n 1, 1) := by decide +kernel
theorem d_Machine_step_149 : decode c_Machine_step 149 = .ok (.aload_n 1, 1) := by decide +kernel
theorem d_Machine_step_150 : decode c_Machine_step 150 = .ok (.getfield 54, 3) := by decide +kernel
theorem d_Machine_step_153 : decode c_Machine_step 153 = .ok (.iload 4, 2) := by decide +kernel
theorem d_Machine_step_155 : decode c_Machine_step 155 = .ok (.iaload, 1) := by decide +kernel
theorem d_Machine_step_156 : decode c_Machine_step 156 = .ok (.invokevirtual 79, 3) := by decide +kernel
theorem d_Machine_step_159 : decode c_Machine_step 159 = .ok (.iconst (0), 1) := by decide +kernel
theorem d_Machine_step_160 : decode c_Machine_step 160 = .ok (.ireturn, 1) := by decide +kernel
theorem d_Machine_step_161 : decode c_Machine_step 161 = .ok (.aload_n 1, 1) := by decide +kernel
theorem d_Machine_step_162 : decode c_Machine_step 162 = .ok (.getfield 54, 3) := by decide +kernel
theorem d_Machine_step_165 : decode c_Machine_step 165 = .ok (.iload 4, 2) := by decide +kernel
theorem d_Machine_step_167 : decode c_Machine_step 167 = .ok (.aload_n 1, 1) := by decide +kernel
theorem d_Machine_step_168 : decode c_Machine_step 168 = .ok (.invokevirtual 82, 3) := by decide +kernel
theorem d_Machine_step_171 : decode c_Machine_step 171 = .ok (.iastore, 1) := by decide +kernel
theorem d_Machine_step_172 : decode c_Machine_step 172 = .ok (.iconst (0), 1) := by decide +kernel
theorem d_Machine_step_173 : decode c_Machine_step 173 = .ok (.ireturn, 1) := by decide +kernel
theorem d_Machine_step_174 : decode c_Machine_step 174 = .ok (.aload_n 0, 1) := by decide +kernel
theorem d_Machine_step_175 : decode c_Machine_step 175 = .ok (.aload_n 1, 1) := by decide +kernel
theorem d_Machine_step_176 : decode c_Machine_step 176 = .ok (.iload_n 3, 1) := by decide +kernel
theorem d_Machine_step_177 : decode c_Machine_step 177 = .ok (.invokevirtual 86, 3) := by decide +kernel
theorem d_Machine_step_180 : decode c_Machine_step 180 = .ok (.ireturn, 1) := by decide +kernel
theorem d_Machine_step_181 : decode c_Machine_step 181 = .ok (.aload_n 1, 1) := by decide +kernel
theorem d_Machine_step_182 : decode c_Machine_step 182 = .ok (.iload 4, 2) := by decide +kernel
theorem d_Machine_step_184 : decode c_Machine_step 184 = .ok (.putfield 70, 3) := by decide +kernel
theorem d_Machine_step_187 : decode c_Machine_step 187 = .ok (.iconst (0), 1) := by decide +kernel
theorem d_Machine_step_188 : decode c_Machine_step 188 = .ok (.ireturn, 1) := by decide +kernel
theorem d_Machine_step_189 : decode c_Machine_step 189 = .ok (.aload_n 1, 1) := by decide +kernel
theorem d_Machine_step_190 : decode c_Machine_step 190 = .ok (.invokevirtual 82, 3) := by decide +kernel
theorem d_Machine_step_193 : decode c_Machine_step 193 = .ok (.ifCond .ne (9), 3) := by decide +kernel
theorem d_Machine_step_196 : decode c_Machine_step 196 = .ok (.aload_n 1, 1) := by decide +kernel
theorem d_Machine_step_197 : decode c_Machine_step 197 = .ok (.iload 4, 2) := by decide +kernel
theorem d_Machine_step_199 : decode c_Machine_step 199 = .ok (.putfield 70, 3) := by decide +kernel
theorem d_Machine_step_202 : decode c_Machine_step 202 = .ok (.iconst (0), 1) := by decide +kernel
theorem d_Machine_step_203 : decode c_Machine_step 203 = .ok (.ireturn, 1) := by decide +kernel
theorem d_Machine_step_204 : decode c_Machine_step 204 = .ok (.aload_n 0, 1) := by decide +kernel
theorem d_Machine_step_205 : decode c_Machine_step 205 = .ok (.aload_n 1, 1) := by decide +kernel
theorem d_Machine_step_206 : decode c_Machine_step 206 = .ok (.iload 4, 2) := by decide +kernel
theorem d_Machine_step_208 : decode c_Machine_step 208 = .ok (.invokevirtual 90, 3) := by decide +kernel
theorem d_Machine_step_211 : decode c_Machine_step 211 = .ok (.ireturn, 1) := by decide +kernel
theorem d_Machine_step_212 : decode c_Machine_step 212 = .ok (.aload_n 0, 1) := by decide +kernel
theorem d_Machine_step_213 : decode c_Machine_step 213 = .ok (.aload_n 1, 1) := by decide +kernel
theorem d_Machine_step_214 : decode c_Machine_step 214 = .ok (.iload_n 3, 1) := by decide +kernel
theorem d_Machine_step_215 : decode c_Machine_step 215 = .ok (.iload 4, 2) := by decide +kernel
theorem d_Machine_step_217 : decode c_Machine_step 217 = .ok (.invokevirtual 93, 3) := by decide +kernel
theorem d_Machine_step_220 : decode c_Machine_step 220 = .ok (.ireturn, 1) := by decide +kernel
theorem d_Machine_step_221 : decode c_Machine_step 221 = .ok (.aload_n 1, 1) := by decide +kernel
theorem d_Machine_step_222 : decode c_Machine_step 222 = .ok (.iconst (0), 1) := by decide +kernel
theorem d_Machine_step_223 : decode c_Machine_step 223 = .ok (.invokevirtual 79, 3) := by decide +kernel
theorem d_Machine_step_226 : decode c_Machine_step 226 = .ok (.iconst (0), 1) := by decide +kernel
theorem d_Machine_step_227 : decode c_Machine_step 227 = .ok (.ireturn, 1) := by decide +kernel
theorem d_Machine_step_228 : decode c_Machine_step 228 = .ok (.aload_n 0, 1) := by decide +kernel
theorem d_Machine_step_229 : decode c_Machine_step 229 = .ok (.aload_n 1, 1) := by decide +kernel
theorem d_Machine_step_230 : decode c_Machine_step 230 = .ok (.iload 4, 2) := by decide +kernel
theorem d_Machine_step_232 : decode c_Machine_step 232 = .ok (.invokevirtual 97, 3) := by decide +kernel
theorem d_Machine_step_235 : decode c_Machine_step 235 = .ok (.ireturn, 1) := by decide +kernel
theorem d_Machine_step_236 : decode c_Machine_step 236 = .ok (.aload_n 0, 1) := by decide +kernel
theorem d_Machine_step_237 : decode c_Machine_step 237 = .ok (.aload_n 1, 1) := by decide +kernel
theorem d_Machine_step_238 : decode c_Machine_step 238 = .ok (.invokevirtual 100, 3) := by decide +kernel
theorem d_Machine_step_241 : decode c_Machine_step 241 = .ok (.ireturn, 1) := by decide +kernel
theorem d_Machine_step_242 : decode c_Machine_step 242 = .ok (.aload_n 0, 1) := by decide +kernel
theorem d_Machine_step_243 : decode c_Machine_step 243 = .ok (.aload_n 1, 1) := by decide +kernel
theorem d_Machine_step_244 : decode c_Machine_step 244 = .ok (.iload_n 3, 1) := by decide +kernel
theorem d_Machine_step_245 : decode c_Machine_step 245 = .ok (.invokevirtual 103, 3) := by decide +kernel
theorem d_Machine_step_248 : decode c_Machine_step 248 = .ok (.ireturn, 1) := by decide +kernel
theorem d_Machine_step_249 : decode c_Machine_step 249 = .ok (.aload_n 1, 1) := by decide +kernel
theorem d_Machine_step_250 : decode c_Machine_step 250 = .ok (.iconst (0), 1) := by decide +kernel
theorem d_Machine_step_251 : decode c_Machine_step 251 = .ok (.invokevirtual 79, 3) := by decide +kernel
theorem d_Machine_step_254 : decode c_Machine_step 254 = .ok (.iconst (0), 1) := by decide +kernel
theorem d_Machine_step_255 : decode c_Machine_step 255 = .ok (.ireturn, 1) := by decide +kernel
theorem d_Machine_step_256 : decode c_Machine_step 256 = .ok (.aload_n 0, 1) := by decide +kernel
theorem d_Machine_step_257 : decode c_Machine_step 257 = .ok (.aload_n 1, 1) := by decide +kernel
theorem d_Machine_step_258 : decode c_Machine_step 258 = .ok (.iload 4, 2) := by decide +kernel
theorem d_Machine_step_260 : decode c_Machine_step 260 = .ok (.invokevirtual 106, 3) := by decide +kernel
theorem d_Machine_step_263 : decode c_Machine_step 263 = .ok (.ireturn, 1) := by decide +kernel
theorem d_Machine_step_264 : decode c_Machine_step 264 = .ok (.aload_n 0, 1) := by decide +kernel
theorem d_Machine_step_265 : decode c_Machine_step 265 = .ok (.aload_n 1, 1) := by decide +kernel
theorem d_Machine_step_266 : decode c_Machine_step 266 = .ok (.invokevirtual 109, 3) := by decide +kernel
theorem d_Machine_step_269 : decode c_Machine_step 269 = .ok (.ireturn, 1) := by decide +kernel
theorem d_Machine_step_270 : decode c_Machine_step 270 = .ok (.iconst (0), 1) := by decide +kernel
theorem d_Machine_step_271 : decode c_Machine_step 271 = .ok (.ireturn, 1) := by decide +kernel
def fx_Machine_step_b174 (σ : tx_St) (x1 : Nat) (x3 : Int32) : Option (Int32 × tx_St) := tx_ci (fx_Machine_combine σ x1 x3) fun r48 σ47 => some (r48, σ47)
def fx_Machine_step_b202 (σ : tx_St) : Option (Int32 × tx_St) := some ((0 : Int32), σ)
def fx_Machine_step_b212 (σ : tx_St) (x1 : Nat) (x3 : Int32) (x4 : Int32) : Option (Int32 × tx_St) := tx_ci (fx_Machine_useField σ x1 x3 x4) fun r50 σ49 => some (r50, σ49)
def fx_Machine_step_b242 (σ : tx_St) (x1 : Nat) (x3 : Int32) : Option (Int32 × tx_St) := tx_ci (fx_Machine_useCell σ x1 x3) fun r52 σ51 => some (r52, σ51)
def fx_Machine_step_b270 (σ : tx_St) : Option (Int32 × tx_St) := some ((0 : Int32), σ)
def fx_Machine_step (σ : tx_St) (x1 : Nat) : Option (Int32 × tx_St) := tx_rd σ 13 96 (((σ x1 0) * (12 : Int32)) + (σ x1 1)) fun v1 => tx_rd σ 14 96 (((σ x1 0) * (12 : Int32)) + (σ x1 1)) fun v2 => tx_pt σ x1 1 ((σ x1 1) + (1 : Int32)) fun σ3 => (if v1 = (0 : Int32) then tx_cv (fx_Frame_push σ3 x1 v2) fun σ5 => some ((0 : Int32), σ5) else (if v1 = (1 : Int32) then tx_rd σ3 (x1 + 1) 3 v2 fun v7 => tx_cv (fx_Frame_push σ3 x1 v7) fun σ8 => some ((0 : Int32), σ8) else (if v1 = (2 : Int32) then tx_ci (fx_Frame_pop σ3 x1) fun r11 σ10 => tx_wr σ10 (x1 + 1) 3 v2 r11 fun σ12 => some ((0 : Int32), σ12) else (if v1 = (3 : Int32) then fx_Machine_step_b174  σ3 x1 v1 else (if v1 = (4 : Int32) then fx_Machine_step_b174  σ3 x1 v1 else (if v1 = (5 : Int32) then tx_pt σ3 x1 1 v2 fun σ16 => some ((0 : Int32), σ16) else (if v1 = (6 : Int32) then tx_ci (fx_Frame_pop σ3 x1) fun r19 σ18 => (if r19 = 0 then tx_pt σ18 x1 1 v2 fun σ21 => fx_Machine_step_b202  σ21 else fx_Machine_step_b202  σ18) else (if v1 = (7 : Int32) then tx_ci (fx_Machine_make σ3 x1 v2) fun r24 σ23 => some (r24, σ23) else (if v1 = (8 : Int32) then fx_Machine_step_b212  σ3 x1 v1 v2 else (if v1 = (9 : Int32) then fx_Machine_step_b212  σ3 x1 v1 v2 else (if v1 = (10 : Int32) then tx_cv (fx_Frame_push σ3 x1 (0 : Int32)) fun σ28 => some ((0 : Int32), σ28) else (if v1 = (11 : Int32) then fx_Machine_step_b270  σ3 else (if v1 = (12 : Int32) then tx_ci (fx_Machine_callMethod σ3 x1 v2) fun r32 σ31 => some (r32, σ31) else (if v1 = (13 : Int32) then tx_ci (fx_Machine_makeCell σ3 x1) fun r35 σ34 => some (r35, σ34) else (if v1 = (14 : Int32) then fx_Machine_step_b242  σ3 x1 v1 else (if v1 = (15 : Int32) then fx_Machine_step_b242  σ3 x1 v1 else (if v1 = (16 : Int32) then fx_Machine_step_b174  σ3 x1 v1 else (if v1 = (17 : Int32) then tx_cv (fx_Frame_push σ3 x1 (0 : Int32)) fun σ40 => some ((0 : Int32), σ40) else (if v1 = (18 : Int32) then tx_ci (fx_Machine_library σ3 x1 v2) fun r43 σ42 => some (r43, σ42) else (if v1 = (19 : Int32) then tx_ci (fx_Machine_leave σ3 x1) fun r46 σ45 => some (r46, σ45) else fx_Machine_step_b270  σ3))))))))))))))))))))
set_option maxRecDepth 100000 in
set_option maxHeartbeats 4000000 in
theorem fx_Machine_step_b174_w {l : Launch} {E : tx_E} (σ : tx_St) (x1 : Nat) (x3 : Int32) (hx1 : tx_isFr x1) (t : Int32 × tx_St) (hT : fx_Machine_step_b174 σ x1 x3 = some t) : gx l E mi_Machine_step (some (.int t.1), t.2) σ [(0, .ref (E.1 25)), (1, .ref (E.1 x1)), (3, .int x3)] 174 [] := by
  unfold fx_Machine_step_b174 at hT
  refine gx_aload_n (pc := 174) 0 d_Machine_step_174 rfl rfl ?_
  refine gx_aload_n (pc := 175) 1 d_Machine_step_175 rfl rfl ?_
  refine gx_iload_n (pc := 176) 2 d_Machine_step_176 rfl rfl ?_
  obtain ⟨r48, σ47, cσ47, hT⟩ := tx_ci_some hT
  refine gx_callV (pc := 177) (As := [.ref (E.1 x1), .int x3]) (rest := []) cm_Machine_combine lk_Machine_86 (fx_Machine_combine_c l E σ x1 x3 hx1 _ cσ47) (rfl) (by decide) rfl rfl tx_fi_Machine_step_Machine_combine (Nat.le_of_ble_eq_true rfl) d_Machine_step_177 ?_
  change gx l E mi_Machine_step _ σ47 [(0, .ref (E.1 25)), (1, .ref (E.1 x1)), (3, .int x3)] 180 [.int r48]
  cases hT
  exact gx_iret (pc := 180) d_Machine_step_180 rfl rfl
set_option maxRecDepth 100000 in
set_option maxHeartbeats 4000000 in
theorem fx_Machine_step_b202_w {l : Launch} {E : tx_E} (σ : tx_St) (t : Int32 × tx_St) (hT : fx_Machine_step_b202 σ  = some t) : gx l E mi_Machine_step (some (.int t.1), t.2) σ [] 202 [] := by
  unfold fx_Machine_step_b202 at hT
  refine gx_iconst (pc := 202) (0 : Int32) d_Machine_step_202 (by decide) ?_
  cases hT
  exact gx_iret (pc := 203) d_Machine_step_203 rfl rfl
set_option maxRecDepth 100000 in
set_option maxHeartbeats 4000000 in
theorem fx_Machine_step_b212_w {l : Launch} {E : tx_E} (σ : tx_St) (x1 : Nat) (x3 : Int32) (x4 : Int32) (hx1 : tx_isFr x1) (t : Int32 × tx_St) (hT : fx_Machine_step_b212 σ x1 x3 x4 = some t) : gx l E mi_Machine_step (some (.int t.1), t.2) σ [(0, .ref (E.1 25)), (1, .ref (E.1 x1)), (3, .int x3), (4, .int x4)] 212 [] := by
  unfold fx_Machine_step_b212 at hT
  refine gx_aload_n (pc := 212) 0 d_Machine_step_212 rfl rfl ?_
  refine gx_aload_n (pc := 213) 1 d_Machine_step_213 rfl rfl ?_
  refine gx_iload_n (pc := 214) 2 d_Machine_step_214 rfl rfl ?_
  refine gx_iload (pc := 215) 3 d_Machine_step_215 rfl ?_
  obtain ⟨r50, σ49, cσ49, hT⟩ := tx_ci_some hT
  refine gx_callV (pc := 217) (As := [.ref (E.1 x1), .int x3, .int x4]) (rest := []) cm_Machine_useField lk_Machine_93 (fx_Machine_useField_c l E σ x1 x3 x4 hx1 _ cσ49) (rfl) (by decide) rfl rfl tx_fi_Machine_step_Machine_useField (Nat.le_of_ble_eq_true rfl) d_Machine_step_217 ?_
  change gx l E mi_Machine_step _ σ49 [(0, .ref (E.1 25)), (1, .ref (E.1 x1)), (3, .int x3), (4, .int x4)] 220 [.int r50]
  cases hT
  exact gx_iret (pc := 220) d_Machine_step_220 rfl rfl
set_option maxRecDepth 100000 in
set_option maxHeartbeats 4000000 in
theorem fx_Machine_step_b242_w {l : Launch} {E : tx_E} (σ : tx_St) (x1 : Nat) (x3 : Int32) (hx1 : tx_isFr x1) (t : Int32 × tx_St) (hT : fx_Machine_step_b242 σ x1 x3 = some t) : gx l E mi_Machine_step (some (.int t.1), t.2) σ [(0, .ref (E.1 25)), (1, .ref (E.1 x1)), (3, .int x3)] 242 [] := by
  unfold fx_Machine_step_b242 at hT
  refine gx_aload_n (pc := 242) 0 d_Machine_step_242 rfl rfl ?_
  refine gx_aload_n (pc := 243) 1 d_Machine_step_243 rfl rfl ?_
  refine gx_iload_n (pc := 244) 2 d_Machine_step_244 rfl rfl ?_
  obtain ⟨r52, σ51, cσ51, hT⟩ := tx_ci_some hT
  refine gx_callV (pc := 245) (As := [.ref (E.1 x1), .int x3]) (rest := []) cm_Machine_useCell lk_Machine_103 (fx_Machine_useCell_c l E σ x1 x3 hx1 _ cσ51) (rfl) (by decide) rfl rfl tx_fi_Machine_step_Machine_useCell (Nat.le_of_ble_eq_true rfl) d_Machine_step_245 ?_
  change gx l E mi_Machine_step _ σ51 [(0, .ref (E.1 25)), (1, .ref (E.1 x1)), (3, .int x3)] 248 [.int r52]
  cases hT
  exact gx_iret (pc := 248) d_Machine_step_248 rfl rfl
set_option maxRecDepth 100000 in
set_option maxHeartbeats 4000000 in
theorem fx_Machine_step_b270_w {l : Launch} {E : tx_E} (σ : tx_St) (t : Int32 × tx_St) (hT : fx_Machine_step_b270 σ  = some t) : gx l E mi_Machine_step (some (.int t.1), t.2) σ [] 270 [] := by
  unfold fx_Machine_step_b270 at hT
  refine gx_iconst (pc := 270) (0 : Int32) d_Machine_step_270 (by decide) ?_
  cases hT
  exact gx_iret (pc := 271) d_Machine_step_271 rfl rfl
set_option maxRecDepth 100000 in
set_option maxHeartbeats 4000000 in
theorem fx_Machine_step_c (l : Launch) (E : tx_E) (σ : tx_St) (x1 : Nat) (hx1 : tx_isFr x1) (t : Int32 × tx_St) (hT : fx_Machine_step σ x1 = some t) : tx_MX l E y_Machine_step mi_Machine_step (some (.int t.1), t.2) [.ref (E.1 25), .ref (E.1 x1)] σ := by
  refine tx_MX_of (by decide) rfl (Nat.le_of_ble_eq_true rfl) ?_
  show gx l E mi_Machine_step (some (.int t.1), t.2) σ [(0, .ref (E.1 25)), (1, .ref (E.1 x1))] 0 []
  unfold fx_Machine_step at hT
  refine gx_aload_n (pc := 0) 1 d_Machine_step_0 rfl rfl ?_
  refine gx_getI (pc := 1) (σ x1 0) fl_Machine_67 d_Machine_step_1 (tx_fr0 hx1) (by decide) rfl rfl ?_
  refine gx_bipush (pc := 4) (12 : Int32) d_Machine_step_4 (by decide) ?_
  refine gx_imul (pc := 6) d_Machine_step_6 ?_
  refine gx_aload_n (pc := 7) 1 d_Machine_step_7 rfl rfl ?_
  refine gx_getI (pc := 8) (σ x1 1) fl_Machine_70 d_Machine_step_8 (tx_fr0 hx1) (by decide) rfl rfl ?_
  refine gx_iadd (pc := 11) d_Machine_step_11 ?_
  refine gx_istore_n (pc := 12) [(2, .int (((σ x1 0) * (12 : Int32)) + (σ x1 1))), (0, .ref (E.1 25)), (1, .ref (E.1 x1))] d_Machine_step_12 rfl (Nat.le_of_ble_eq_true rfl) rfl ?_
  refine gx_aload_n (pc := 13) 1 d_Machine_step_13 rfl rfl ?_
  refine gx_getR (pc := 14) 1 fl_Machine_17 d_Machine_step_14 (rfl) (by decide) rfl ?_
  refine gx_getR (pc := 17) 13 fl_Machine_73 d_Machine_step_17 (rfl) (by decide) rfl ?_
  refine gx_iload_n (pc := 20) 0 d_Machine_step_20 rfl rfl ?_
  obtain ⟨v1, gv1, iv1, hT⟩ := tx_rd_some hT
  refine gx_iald (pc := 21) v1 d_Machine_step_21 (rfl) iv1 gv1 ?_
  refine gx_istore_n (pc := 22) [(3, .int v1), (2, .int (((σ x1 0) * (12 : Int32)) + (σ x1 1))), (0, .ref (E.1 25)), (1, .ref (E.1 x1))] d_Machine_step_22 rfl (Nat.le_of_ble_eq_true rfl) rfl ?_
  refine gx_aload_n (pc := 23) 2 d_Machine_step_23 rfl rfl ?_
  refine gx_getR (pc := 24) 1 fl_Machine_17 d_Machine_step_24 (rfl) (by decide) rfl ?_
  refine gx_getR (pc := 27) 14 fl_Machine_76 d_Machine_step_27 (rfl) (by decide) rfl ?_
  refine gx_iload_n (pc := 30) 1 d_Machine_step_30 rfl rfl ?_
  obtain ⟨v2, gv2, iv2, hT⟩ := tx_rd_some hT
  refine gx_iald (pc := 31) v2 d_Machine_step_31 (rfl) iv2 gv2 ?_
  refine gx_istore (pc := 32) [(4, .int v2), (3, .int v1), (2, .int (((σ x1 0) * (12 : Int32)) + (σ x1 1))), (0, .ref (E.1 25)), (1, .ref (E.1 x1))] d_Machine_step_32 (Nat.le_of_ble_eq_true rfl) rfl ?_
  refine gx_aload_n (pc := 34) 4 d_Machine_step_34 rfl rfl ?_
  refine gx_dup (pc := 35) d_Machine_step_35 rfl ?_
  refine gx_getI (pc := 36) (σ x1 1) fl_Machine_70 d_Machine_step_36 (tx_fr0 hx1) (by decide) rfl rfl ?_
  refine gx_iconst (pc := 39) (1 : Int32) d_Machine_step_39 (by decide) ?_
  refine gx_iadd (pc := 40) d_Machine_step_40 ?_
  obtain ⟨σ3, gσ3, hT⟩ := tx_pt_some hT
  refine gx_putI (pc := 41) fp_Machine_70 d_Machine_step_41 (tx_fr0 hx1) (by decide) rfl ?_
  rw [gσ3]
  refine gx_iload_n (pc := 44) 1 d_Machine_step_44 rfl rfl ?_
  by_cases h4 : v1 = (0 : Int32)
  · have hT := tx_ifp h4 hT
    refine gx_tabIn (pc := 45) 140 d_Machine_step_45 (by rw [h4]; decide) (by rw [h4]; decide) (by rw [h4]; rfl) rfl ?_
    refine gx_aload_n (pc := 140) 4 d_Machine_step_140 rfl rfl ?_
    refine gx_iload (pc := 141) 0 d_Machine_step_141 rfl ?_
    obtain ⟨σ5, cσ5, hT⟩ := tx_cv_some hT
    refine gx_callV (pc := 143) (As := [.int v2]) (rest := []) cm_Frame_push lk_Machine_79 (fx_Frame_push_c l E σ3 x1 v2 hx1 _ cσ5) (tx_fr0 hx1) (by decide) rfl rfl tx_fi_Machine_step_Frame_push (Nat.le_of_ble_eq_true rfl) d_Machine_step_143 ?_
    change gx l E mi_Machine_step _ σ5 [(4, .int v2), (3, .int v1), (2, .int (((σ x1 0) * (12 : Int32)) + (σ x1 1))), (0, .ref (E.1 25)), (1, .ref (E.1 x1))] 146 []
    refine gx_iconst (pc := 146) (0 : Int32) d_Machine_step_146 (by decide) ?_
    cases hT
    exact gx_iret (pc := 147) d_Machine_step_147 rfl rfl
  · have hT := tx_ifn h4 hT
    by_cases h6 : v1 = (1 : Int32)
    · have hT := tx_ifp h6 hT
      refine gx_tabIn (pc := 45) 148 d_Machine_step_45 (by rw [h6]; decide) (by rw [h6]; decide) (by rw [h6]; rfl) rfl ?_
      refine gx_aload_n (pc := 148) 4 d_Machine_step_148 rfl rfl ?_
      refine gx_aload_n (pc := 149) 4 d_Machine_step_149 rfl rfl ?_
      refine gx_getR (pc := 150) (x1 + 1) fl_Machine_54 d_Machine_step_150 (tx_fr0 hx1) (by decide) rfl ?_
      refine gx_iload (pc := 153) 0 d_Machine_step_153 rfl ?_
      obtain ⟨v7, gv7, iv7, hT⟩ := tx_rd_some hT
      refine gx_iald (pc := 155) v7 d_Machine_step_155 (tx_fr1 hx1) iv7 gv7 ?_
      obtain ⟨σ8, cσ8, hT⟩ := tx_cv_some hT
      refine gx_callV (pc := 156) (As := [.int v7]) (rest := []) cm_Frame_push lk_Machine_79 (fx_Frame_push_c l E σ3 x1 v7 hx1 _ cσ8) (tx_fr0 hx1) (by decide) rfl rfl tx_fi_Machine_step_Frame_push (Nat.le_of_ble_eq_true rfl) d_Machine_step_156 ?_
      change gx l E mi_Machine_step _ σ8 [(4, .int v2), (3, .int v1), (2, .int (((σ x1 0) * (12 : Int32)) + (σ x1 1))), (0, .ref (E.1 25)), (1, .ref (E.1 x1))] 159 []
      refine gx_iconst (pc := 159) (0 : Int32) d_Machine_step_159 (by decide) ?_
      cases hT
      exact gx_iret (pc := 160) d_Machine_step_160 rfl rfl
    · have hT := tx_ifn h6 hT
      by_cases h9 : v1 = (2 : Int32)
      · have hT := tx_ifp h9 hT
        refine gx_tabIn (pc := 45) 161 d_Machine_step_45 (by rw [h9]; decide) (by rw [h9]; decide) (by rw [h9]; rfl) rfl ?_
        refine gx_aload_n (pc := 161) 4 d_Machine_step_161 rfl rfl ?_
        refine gx_getR (pc := 162) (x1 + 1) fl_Machine_54 d_Machine_step_162 (tx_fr0 hx1) (by decide) rfl ?_
        refine gx_iload (pc := 165) 0 d_Machine_step_165 rfl ?_
        refine gx_aload_n (pc := 167) 4 d_Machine_step_167 rfl rfl ?_
        obtain ⟨r11, σ10, cσ10, hT⟩ := tx_ci_some hT
        refine gx_callV (pc := 168) (As := []) (rest := [.int v2, .ref (E.1 (x1 + 1))]) cm_Frame_pop lk_Machine_82 (fx_Frame_pop_c l E σ3 x1 hx1 _ cσ10) (tx_fr0 hx1) (by decide) rfl rfl tx_fi_Machine_step_Frame_pop (Nat.le_of_ble_eq_true rfl) d_Machine_step_168 ?_
        change gx l E mi_Machine_step _ σ10 [(4, .int v2), (3, .int v1), (2, .int (((σ x1 0) * (12 : Int32)) + (σ x1 1))), (0, .ref (E.1 25)), (1, .ref (E.1 x1))] 171 [.int r11, .int v2, .ref (E.1 (x1 + 1))]
        obtain ⟨σ12, gσ12, iσ12, hT⟩ := tx_wr_some hT
        refine gx_iast (pc := 171) d_Machine_step_171 (tx_fr1 hx1) iσ12 ?_
        rw [gσ12]
        refine gx_iconst (pc := 172) (0 : Int32) d_Machine_step_172 (by decide) ?_
        cases hT
        exact gx_iret (pc := 173) d_Machine_step_173 rfl rfl
      · have hT := tx_ifn h9 hT
        by_cases h13 : v1 = (3 : Int32)
        · have hT := tx_ifp h13 hT
          refine gx_tabIn (pc := 45) 174 d_Machine_step_45 (by rw [h13]; decide) (by rw [h13]; decide) (by rw [h13]; rfl) rfl ?_
          refine gx_sub [3, 4, 1] rfl ?_
          exact fx_Machine_step_b174_w  σ3 x1 v1 hx1 _ hT
        · have hT := tx_ifn h13 hT
          by_cases h14 : v1 = (4 : Int32)
          · have hT := tx_ifp h14 hT
            refine gx_tabIn (pc := 45) 174 d_Machine_step_45 (by rw [h14]; decide) (by rw [h14]; decide) (by rw [h14]; rfl) rfl ?_
            refine gx_sub [3, 4, 1] rfl ?_
            exact fx_Machine_step_b174_w  σ3 x1 v1 hx1 _ hT
          · have hT := tx_ifn h14 hT
            by_cases h15 : v1 = (5 : Int32)
            · have hT := tx_ifp h15 hT
              refine gx_tabIn (pc := 45) 181 d_Machine_step_45 (by rw [h15]; decide) (by rw [h15]; decide) (by rw [h15]; rfl) rfl ?_
              refine gx_aload_n (pc := 181) 4 d_Machine_step_181 rfl rfl ?_
              refine gx_iload (pc := 182) 0 d_Machine_step_182 rfl ?_
              obtain ⟨σ16, gσ16, hT⟩ := tx_pt_some hT
              refine gx_putI (pc := 184) fp_Machine_70 d_Machine_step_184 (tx_fr0 hx1) (by decide) rfl ?_
              rw [gσ16]
              refine gx_iconst (pc := 187) (0 : Int32) d_Machine_step_187 (by decide) ?_
              cases hT
              exact gx_iret (pc := 188) d_Machine_step_188 rfl rfl
            · have hT := tx_ifn h15 hT
              by_cases h17 : v1 = (6 : Int32)
              · have hT := tx_ifp h17 hT
                refine gx_tabIn (pc := 45) 189 d_Machine_step_45 (by rw [h17]; decide) (by rw [h17]; decide) (by rw [h17]; rfl) rfl ?_
                refine gx_aload_n (pc := 189) 4 d_Machine_step_189 rfl rfl ?_
                obtain ⟨r19, σ18, cσ18, hT⟩ := tx_ci_some hT
                refine gx_callV (pc := 190) (As := []) (rest := []) cm_Frame_pop lk_Machine_82 (fx_Frame_pop_c l E σ3 x1 hx1 _ cσ18) (tx_fr0 hx1) (by decide) rfl rfl tx_fi_Machine_step_Frame_pop (Nat.le_of_ble_eq_true rfl) d_Machine_step_190 ?_
                change gx l E mi_Machine_step _ σ18 [(4, .int v2), (3, .int v1), (2, .int (((σ x1 0) * (12 : Int32)) + (σ x1 1))), (0, .ref (E.1 25)), (1, .ref (E.1 x1))] 193 [.int r19]
                refine gx_if_ne (pc := 193) 202 d_Machine_step_193 rfl (fun h20 => ?_) (fun h20 => ?_)
                · have hT := tx_ifn h20 hT
                  refine gx_sub [] rfl ?_
                  exact fx_Machine_step_b202_w  σ18 _ hT
                · have hT := tx_ifp h20 hT
                  refine gx_aload_n (pc := 196) 4 d_Machine_step_196 rfl rfl ?_
                  refine gx_iload (pc := 197) 0 d_Machine_step_197 rfl ?_
                  obtain ⟨σ21, gσ21, hT⟩ := tx_pt_some hT
                  refine gx_putI (pc := 199) fp_Machine_70 d_Machine_step_199 (tx_fr0 hx1) (by decide) rfl ?_
                  rw [gσ21]
                  refine gx_sub [] rfl ?_
                  exact fx_Machine_step_b202_w  σ21 _ hT
              · have hT := tx_ifn h17 hT
                by_cases h22 : v1 = (7 : Int32)
                · have hT := tx_ifp h22 hT
                  refine gx_tabIn (pc := 45) 204 d_Machine_step_45 (by rw [h22]; decide) (by rw [h22]; decide) (by rw [h22]; rfl) rfl ?_
                  refine gx_aload_n (pc := 204) 3 d_Machine_step_204 rfl rfl ?_
                  refine gx_aload_n (pc := 205) 4 d_Machine_step_205 rfl rfl ?_
                  refine gx_iload (pc := 206) 0 d_Machine_step_206 rfl ?_
                  obtain ⟨r24, σ23, cσ23, hT⟩ := tx_ci_some hT
                  refine gx_callV (pc := 208) (As := [.ref (E.1 x1), .int v2]) (rest := []) cm_Machine_make lk_Machine_90 (fx_Machine_make_c l E σ3 x1 v2 hx1 _ cσ23) (rfl) (by decide) rfl rfl tx_fi_Machine_step_Machine_make (Nat.le_of_ble_eq_true rfl) d_Machine_step_208 ?_
                  change gx l E mi_Machine_step _ σ23 [(4, .int v2), (3, .int v1), (2, .int (((σ x1 0) * (12 : Int32)) + (σ x1 1))), (0, .ref (E.1 25)), (1, .ref (E.1 x1))] 211 [.int r24]
                  cases hT
                  exact gx_iret (pc := 211) d_Machine_step_211 rfl rfl
                · have hT := tx_ifn h22 hT
                  by_cases h25 : v1 = (8 : Int32)
                  · have hT := tx_ifp h25 hT
                    refine gx_tabIn (pc := 45) 212 d_Machine_step_45 (by rw [h25]; decide) (by rw [h25]; decide) (by rw [h25]; rfl) rfl ?_
                    refine gx_sub [3, 4, 1, 0] rfl ?_
                    exact fx_Machine_step_b212_w  σ3 x1 v1 v2 hx1 _ hT
                  · have hT := tx_ifn h25 hT
                    by_cases h26 : v1 = (9 : Int32)
                    · have hT := tx_ifp h26 hT
                      refine gx_tabIn (pc := 45) 212 d_Machine_step_45 (by rw [h26]; decide) (by rw [h26]; decide) (by rw [h26]; rfl) rfl ?_
                      refine gx_sub [3, 4, 1, 0] rfl ?_
                      exact fx_Machine_step_b212_w  σ3 x1 v1 v2 hx1 _ hT
                    · have hT := tx_ifn h26 hT
                      by_cases h27 : v1 = (10 : Int32)
                      · have hT := tx_ifp h27 hT
                        refine gx_tabIn (pc := 45) 221 d_Machine_step_45 (by rw [h27]; decide) (by rw [h27]; decide) (by rw [h27]; rfl) rfl ?_
                        refine gx_aload_n (pc := 221) 4 d_Machine_step_221 rfl rfl ?_
                        refine gx_iconst (pc := 222) (0 : Int32) d_Machine_step_222 (by decide) ?_
                        obtain ⟨σ28, cσ28, hT⟩ := tx_cv_some hT
                        refine gx_callV (pc := 223) (As := [.int (0 : Int32)]) (rest := []) cm_Frame_push lk_Machine_79 (fx_Frame_push_c l E σ3 x1 (0 : Int32) hx1 _ cσ28) (tx_fr0 hx1) (by decide) rfl rfl tx_fi_Machine_step_Frame_push (Nat.le_of_ble_eq_true rfl) d_Machine_step_223 ?_
                        change gx l E mi_Machine_step _ σ28 [(4, .int v2), (3, .int v1), (2, .int (((σ x1 0) * (12 : Int32)) + (σ x1 1))), (0, .ref (E.1 25)), (1, .ref (E.1 x1))] 226 []
                        refine gx_iconst (pc := 226) (0 : Int32) d_Machine_step_226 (by decide) ?_
                        cases hT
                        exact gx_iret (pc := 227) d_Machine_step_227 rfl rfl
                      · have hT := tx_ifn h27 hT
                        by_cases h29 : v1 = (11 : Int32)
                        · have hT := tx_ifp h29 hT
                          refine gx_tabIn (pc := 45) 270 d_Machine_step_45 (by rw [h29]; decide) (by rw [h29]; decide) (by rw [h29]; rfl) rfl ?_
                          refine gx_sub [] rfl ?_
                          exact fx_Machine_step_b270_w  σ3 _ hT
                        · have hT := tx_ifn h29 hT
                          by_cases h30 : v1 = (12 : Int32)
                          · have hT := tx_ifp h30 hT
                            refine gx_tabIn (pc := 45) 228 d_Machine_step_45 (by rw [h30]; decide) (by rw [h30]; decide) (by rw [h30]; rfl) rfl ?_
                            refine gx_aload_n (pc := 228) 3 d_Machine_step_228 rfl rfl ?_
                            refine gx_aload_n (pc := 229) 4 d_Machine_step_229 rfl rfl ?_
                            refine gx_iload (pc := 230) 0 d_Machine_step_230 rfl ?_
                            obtain ⟨r32, σ31, cσ31, hT⟩ := tx_ci_some hT
                            refine gx_callV (pc := 232) (As := [.ref (E.1 x1), .int v2]) (rest := []) cm_Machine_callMethod lk_Machine_97 (fx_Machine_callMethod_c l E σ3 x1 v2 hx1 _ cσ31) (rfl) (by decide) rfl rfl tx_fi_Machine_step_Machine_callMethod (Nat.le_of_ble_eq_true rfl) d_Machine_step_232 ?_
                            change gx l E mi_Machine_step _ σ31 [(4, .int v2), (3, .int v1), (2, .int (((σ x1 0) * (12 : Int32)) + (σ x1 1))), (0, .ref (E.1 25)), (1, .ref (E.1 x1))] 235 [.int r32]
                            cases hT
                            exact gx_iret (pc := 235) d_Machine_step_235 rfl rfl
                          · have hT := tx_ifn h30 hT
                            by_cases h33 : v1 = (13 : Int32)
                            · have hT := tx_ifp h33 hT
                              refine gx_tabIn (pc := 45) 236 d_Machine_step_45 (by rw [h33]; decide) (by rw [h33]; decide) (by rw [h33]; rfl) rfl ?_
                              refine gx_aload_n (pc := 236) 3 d_Machine_step_236 rfl rfl ?_
                              refine gx_aload_n (pc := 237) 4 d_Machine_step_237 rfl rfl ?_
                              obtain ⟨r35, σ34, cσ34, hT⟩ := tx_ci_some hT
                              refine gx_callV (pc := 238) (As := [.ref (E.1 x1)]) (rest := []) cm_Machine_makeCell lk_Machine_100 (fx_Machine_makeCell_c l E σ3 x1 hx1 _ cσ34) (rfl) (by decide) rfl rfl tx_fi_Machine_step_Machine_makeCell (Nat.le_of_ble_eq_true rfl) d_Machine_step_238 ?_
                              change gx l E mi_Machine_step _ σ34 [(4, .int v2), (3, .int v1), (2, .int (((σ x1 0) * (12 : Int32)) + (σ x1 1))), (0, .ref (E.1 25)), (1, .ref (E.1 x1))] 241 [.int r35]
                              cases hT
                              exact gx_iret (pc := 241) d_Machine_step_241 rfl rfl
                            · have hT := tx_ifn h33 hT
                              by_cases h36 : v1 = (14 : Int32)
                              · have hT := tx_ifp h36 hT
                                refine gx_tabIn (pc := 45) 242 d_Machine_step_45 (by rw [h36]; decide) (by rw [h36]; decide) (by rw [h36]; rfl) rfl ?_
                                refine gx_sub [3, 4, 1] rfl ?_
                                exact fx_Machine_step_b242_w  σ3 x1 v1 hx1 _ hT
                              · have hT := tx_ifn h36 hT
                                by_cases h37 : v1 = (15 : Int32)
                                · have hT := tx_ifp h37 hT
                                  refine gx_tabIn (pc := 45) 242 d_Machine_step_45 (by rw [h37]; decide) (by rw [h37]; decide) (by rw [h37]; rfl) rfl ?_
                                  refine gx_sub [3, 4, 1] rfl ?_
                                  exact fx_Machine_step_b242_w  σ3 x1 v1 hx1 _ hT
                                · have hT := tx_ifn h37 hT
                                  by_cases h38 : v1 = (16 : Int32)
                                  · have hT := tx_ifp h38 hT
                                    refine gx_tabIn (pc := 45) 174 d_Machine_step_45 (by rw [h38]; decide) (by rw [h38]; decide) (by rw [h38]; rfl) rfl ?_
                                    refine gx_sub [3, 4, 1] rfl ?_
                                    exact fx_Machine_step_b174_w  σ3 x1 v1 hx1 _ hT
                                  · have hT := tx_ifn h38 hT
                                    by_cases h39 : v1 = (17 : Int32)
                                    · have hT := tx_ifp h39 hT
                                      refine gx_tabIn (pc := 45) 249 d_Machine_step_45 (by rw [h39]; decide) (by rw [h39]; decide) (by rw [h39]; rfl) rfl ?_
                                      refine gx_aload_n (pc := 249) 4 d_Machine_step_249 rfl rfl ?_
                                      refine gx_iconst (pc := 250) (0 : Int32) d_Machine_step_250 (by decide) ?_
                                      obtain ⟨σ40, cσ40, hT⟩ := tx_cv_some hT
                                      refine gx_callV (pc := 251) (As := [.int (0 : Int32)]) (rest := []) cm_Frame_push lk_Machine_79 (fx_Frame_push_c l E σ3 x1 (0 : Int32) hx1 _ cσ40) (tx_fr0 hx1) (by decide) rfl rfl tx_fi_Machine_step_Frame_push (Nat.le_of_ble_eq_true rfl) d_Machine_step_251 ?_
                                      change gx l E mi_Machine_step _ σ40 [(4, .int v2), (3, .int v1), (2, .int (((σ x1 0) * (12 : Int32)) + (σ x1 1))), (0, .ref (E.1 25)), (1, .ref (E.1 x1))] 254 []
                                      refine gx_iconst (pc := 254) (0 : Int32) d_Machine_step_254 (by decide) ?_
                                      cases hT
                                      exact gx_iret (pc := 255) d_Machine_step_255 rfl rfl
                                    · have hT := tx_ifn h39 hT
                                      by_cases h41 : v1 = (18 : Int32)
                                      · have hT := tx_ifp h41 hT
                                        refine gx_tabIn (pc := 45) 256 d_Machine_step_45 (by rw [h41]; decide) (by rw [h41]; decide) (by rw [h41]; rfl) rfl ?_
                                        refine gx_aload_n (pc := 256) 3 d_Machine_step_256 rfl rfl ?_
                                        refine gx_aload_n (pc := 257) 4 d_Machine_step_257 rfl rfl ?_
                                        refine gx_iload (pc := 258) 0 d_Machine_step_258 rfl ?_
                                        obtain ⟨r43, σ42, cσ42, hT⟩ := tx_ci_some hT
                                        refine gx_callV (pc := 260) (As := [.ref (E.1 x1), .int v2]) (rest := []) cm_Machine_library lk_Machine_106 (fx_Machine_library_c l E σ3 x1 v2 hx1 _ cσ42) (rfl) (by decide) rfl rfl tx_fi_Machine_step_Machine_library (Nat.le_of_ble_eq_true rfl) d_Machine_step_260 ?_
                                        change gx l E mi_Machine_step _ σ42 [(4, .int v2), (3, .int v1), (2, .int (((σ x1 0) * (12 : Int32)) + (σ x1 1))), (0, .ref (E.1 25)), (1, .ref (E.1 x1))] 263 [.int r43]
                                        cases hT
                                        exact gx_iret (pc := 263) d_Machine_step_263 rfl rfl
                                      · have hT := tx_ifn h41 hT
                                        by_cases h44 : v1 = (19 : Int32)
                                        · have hT := tx_ifp h44 hT
                                          refine gx_tabIn (pc := 45) 264 d_Machine_step_45 (by rw [h44]; decide) (by rw [h44]; decide) (by rw [h44]; rfl) rfl ?_
                                          refine gx_aload_n (pc := 264) 3 d_Machine_step_264 rfl rfl ?_
                                          refine gx_aload_n (pc := 265) 4 d_Machine_step_265 rfl rfl ?_
                                          obtain ⟨r46, σ45, cσ45, hT⟩ := tx_ci_some hT
                                          refine gx_callV (pc := 266) (As := [.ref (E.1 x1)]) (rest := []) cm_Machine_leave lk_Machine_109 (fx_Machine_leave_c l E σ3 x1 hx1 _ cσ45) (rfl) (by decide) rfl rfl tx_fi_Machine_step_Machine_leave (Nat.le_of_ble_eq_true rfl) d_Machine_step_266 ?_
                                          change gx l E mi_Machine_step _ σ45 [(4, .int v2), (3, .int v1), (2, .int (((σ x1 0) * (12 : Int32)) + (σ x1 1))), (0, .ref (E.1 25)), (1, .ref (E.1 x1))] 269 [.int r46]
                                          cases hT
                                          exact gx_iret (pc := 269) d_Machine_step_269 rfl rfl
                                        · have hT := tx_ifn h44 hT
                                          refine gx_tabOut (pc := 45) 270 d_Machine_step_45 (by have zh4 := lv_neT h4 (a := 0) (by decide); have zh6 := lv_neT h6 (a := 1) (by decide); have zh9 := lv_neT h9 (a := 2) (by decide); have zh13 := lv_neT h13 (a := 3) (by decide); have zh14 := lv_neT h14 (a := 4) (by decide); have zh15 := lv_neT h15 (a := 5) (by decide); have zh17 := lv_neT h17 (a := 6) (by decide); have zh22 := lv_neT h22 (a := 7) (by decide); have zh25 := lv_neT h25 (a := 8) (by decide); have zh26 := lv_neT h26 (a := 9) (by decide); have zh27 := lv_neT h27 (a := 10) (by decide); have zh29 := lv_neT h29 (a := 11) (by decide); have zh30 := lv_neT h30 (a := 12) (by decide); have zh33 := lv_neT h33 (a := 13) (by decide); have zh36 := lv_neT h36 (a := 14) (by decide); have zh37 := lv_neT h37 (a := 15) (by decide); have zh38 := lv_neT h38 (a := 16) (by decide); have zh39 := lv_neT h39 (a := 17) (by decide); have zh41 := lv_neT h41 (a := 18) (by decide); have zh44 := lv_neT h44 (a := 19) (by decide); omega) rfl ?_
                                          refine gx_sub [] rfl ?_
                                          exact fx_Machine_step_b270_w  σ3 _ hT
theorem d_Machine_execute_0 : decode c_Machine_execute 0 = .ok (.aload_n 0, 1) := by decide +kernel
theorem d_Machine_execute_1 : decode c_Machine_execute 1 = .ok (.iconst (0), 1) := by decide +kernel
theorem d_Machine_execute_2 : decode c_Machine_execute 2 = .ok (.putfield 26, 3) := by decide +kernel
theorem d_Machine_execute_5 : decode c_Machine_execute 5 = .ok (.aload_n 0, 1) := by decide +kernel
theorem d_Machine_execute_6 : decode c_Machine_execute 6 = .ok (.iconst (0), 1) := by decide +kernel
theorem d_Machine_execute_7 : decode c_Machine_execute 7 = .ok (.putfield 30, 3) := by decide +kernel
theorem d_Machine_execute_10 : decode c_Machine_execute 10 = .ok (.aload_n 0, 1) := by decide +kernel
theorem d_Machine_execute_11 : decode c_Machine_execute 11 = .ok (.iload_n 1, 1) := by decide +kernel
theorem d_Machine_execute_12 : decode c_Machine_execute 12 = .ok (.iload_n 2, 1) := by decide +kernel
theorem d_Machine_execute_13 : decode c_Machine_execute 13 = .ok (.iload_n 3, 1) := by decide +kernel
theorem d_Machine_execute_14 : decode c_Machine_execute 14 = .ok (.invokevirtual 33, 3) := by decide +kernel
theorem d_Machine_execute_17 : decode c_Machine_execute 17 = .ok (.aload_n 0, 1) := by decide +kernel
theorem d_Machine_execute_18 : decode c_Machine_execute 18 = .ok (.iconst (1), 1) := by decide +kernel
theorem d_Machine_execute_19 : decode c_Machine_execute 19 = .ok (.putfield 37, 3) := by decide +kernel
theorem d_Machine_execute_22 : decode c_Machine_execute 22 = .ok (.aload_n 0, 1) := by decide +kernel
theorem d_Machine_execute_23 : decode c_Machine_execute 23 = .ok (.getfield 37, 3) := by decide +kernel
theorem d_Machine_execute_26 : decode c_Machine_execute 26 = .ok (.bipush (64), 2) := by decide +kernel
theorem d_Machine_execute_28 : decode c_Machine_execute 28 = .ok (.if_icmp .gt (48), 3) := by decide +kernel
theorem d_Machine_execute_31 : decode c_Machine_execute 31 = .ok (.aload_n 0, 1) := by decide +kernel
theorem d_Machine_execute_32 : decode c_Machine_execute 32 = .ok (.aload_n 0, 1) := by decide +kernel
theorem d_Machine_execute_33 : decode c_Machine_execute 33 = .ok (.getfield 11, 3) := by decide +kernel
theorem d_Machine_execute_36 : decode c_Machine_execute 36 = .ok (.aload_n 0, 1) := by decide +kernel
theorem d_Machine_execute_37 : decode c_Machine_execute 37 = .ok (.getfield 26, 3) := by decide +kernel
theorem d_Machine_execute_40 : decode c_Machine_execute 40 = .ok (.iconst (1), 1) := by decide +kernel
theorem d_Machine_execute_41 : decode c_Machine_execute 41 = .ok (.isub, 1) := by decide +kernel
theorem d_Machine_execute_42 : decode c_Machine_execute 42 = .ok (.aaload, 1) := by decide +kernel
theorem d_Machine_execute_43 : decode c_Machine_execute 43 = .ok (.invokevirtual 40, 3) := by decide +kernel
theorem d_Machine_execute_46 : decode c_Machine_execute 46 = .ok (.istore 4, 2) := by decide +kernel
theorem d_Machine_execute_48 : decode c_Machine_execute 48 = .ok (.iload 4, 2) := by decide +kernel
theorem d_Machine_execute_50 : decode c_Machine_execute 50 = .ok (.ifCond .ne (10), 3) := by decide +kernel
theorem d_Machine_execute_53 : decode c_Machine_execute 53 = .ok (.aload_n 0, 1) := by decide +kernel
theorem d_Machine_execute_54 : decode c_Machine_execute 54 = .ok (.getfield 26, 3) := by decide +kernel
theorem d_Machine_execute_57 : decode c_Machine_execute 57 = .ok (.ifCond .ne (6), 3) := by decide +kernel
theorem d_Machine_execute_60 : decode c_Machine_execute 60 = .ok (.iload 4, 2) := by decide +kernel
theorem d_Machine_execute_62 : decode c_Machine_execute 62 = .ok (.ireturn, 1) := by decide +kernel
theorem d_Machine_execute_63 : decode c_Machine_execute 63 = .ok (.aload_n 0, 1) := by decide +kernel
theorem d_Machine_execute_64 : decode c_Machine_execute 64 = .ok (.dup, 1) := by decide +kernel
theorem d_Machine_execute_65 : decode c_Machine_execute 65 = .ok (.getfield 37, 3) := by decide +kernel
theorem d_Machine_execute_68 : decode c_Machine_execute 68 = .ok (.iconst (1), 1) := by decide +kernel
theorem d_Machine_execute_69 : decode c_Machine_execute 69 = .ok (.iadd, 1) := by decide +kernel
theorem d_Machine_execute_70 : decode c_Machine_execute 70 = .ok (.putfield 37, 3) := by decide +kernel
theorem d_Machine_execute_73 : decode c_Machine_execute 73 = .ok (.goto (-51), 3) := by decide +kernel
theorem d_Machine_execute_76 : decode c_Machine_execute 76 = .ok (.aload_n 0, 1) := by decide +kernel
theorem d_Machine_execute_77 : decode c_Machine_execute 77 = .ok (.bipush (64), 2) := by decide +kernel
theorem d_Machine_execute_79 : decode c_Machine_execute 79 = .ok (.putfield 37, 3) := by decide +kernel
theorem d_Machine_execute_82 : decode c_Machine_execute 82 = .ok (.iconst (2), 1) := by decide +kernel
theorem d_Machine_execute_83 : decode c_Machine_execute 83 = .ok (.ireturn, 1) := by decide +kernel
def fx_Machine_execute_b60 (σ : tx_St) (x4 : Int32) : Option (Int32 × tx_St) := some (x4, σ)
def fx_Machine_execute_b22 : Nat → tx_St → Option (Int32 × tx_St)
  | 0, _ => none
  | n + 1, σ => (if (64 : Int32) < (σ 25 0) then tx_pt σ 25 0 (64 : Int32) fun σ6 => some ((2 : Int32), σ6) else tx_rf ((σ 25 5) - (1 : Int32)) fun q7 => tx_ci (fx_Machine_step σ q7) fun r9 σ8 => (if r9 = 0 then (if (σ8 25 5) = 0 then fx_Machine_execute_b60  σ8 r9 else tx_pt σ8 25 0 ((σ8 25 0) + (1 : Int32)) fun σ12 => fx_Machine_execute_b22 n σ12) else fx_Machine_execute_b60  σ8 r9))
def fx_Machine_execute (σ : tx_St) (x1 : Int32) (x2 : Int32) (x3 : Int32) : Option (Int32 × tx_St) := tx_pt σ 25 5 (0 : Int32) fun σ1 => tx_pt σ1 25 6 (0 : Int32) fun σ2 => tx_cv (fx_Machine_enter σ2 x1 x2 x3) fun σ3 => tx_pt σ3 25 0 (1 : Int32) fun σ4 => fx_Machine_execute_b22  tx_fu σ4
set_option maxRecDepth 100000 in
set_option maxHeartbeats 4000000 in
theorem fx_Machine_execute_b60_w {l : Launch} {E : tx_E} (σ : tx_St) (x4 : Int32) (t : Int32 × tx_St) (hT : fx_Machine_execute_b60 σ x4 = some t) : gx l E mi_Machine_execute (some (.int t.1), t.2) σ [(4, .int x4)] 60 [] := by
  unfold fx_Machine_execute_b60 at hT
  refine gx_iload (pc := 60) 0 d_Machine_execute_60 rfl ?_
  cases hT
  exact gx_iret (pc := 62) d_Machine_execute_62 rfl rfl
set_option maxRecDepth 100000 in
set_option maxHeartbeats 4000000 in
theorem fx_Machine_execute_b22_w {l : Launch} {E : tx_E} : ∀ (n : Nat) (σ : tx_St) (t : Int32 × tx_St), fx_Machine_execute_b22 n σ  = some t → gx l E mi_Machine_execute (some (.int t.1), t.2) σ [(0, .ref (E.1 25))] 22 [] := by
  intro n
  induction n with
  | zero => intro σ t hT; cases hT
  | succ n ih =>
    intro σ t hT
    rw [fx_Machine_execute_b22] at hT
    refine gx_aload_n (pc := 22) 0 d_Machine_execute_22 rfl rfl ?_
    refine gx_getI (pc := 23) (σ 25 0) fl_Machine_37 d_Machine_execute_23 (rfl) (by decide) rfl rfl ?_
    refine gx_bipush (pc := 26) (64 : Int32) d_Machine_execute_26 (by decide) ?_
    refine gx_icmp_gt (pc := 28) 76 d_Machine_execute_28 rfl (fun h5 => ?_) (fun h5 => ?_)
    · have hT := tx_ifp h5 hT
      refine gx_aload_n (pc := 76) 0 d_Machine_execute_76 rfl rfl ?_
      refine gx_bipush (pc := 77) (64 : Int32) d_Machine_execute_77 (by decide) ?_
      obtain ⟨σ6, gσ6, hT⟩ := tx_pt_some hT
      refine gx_putI (pc := 79) fp_Machine_37 d_Machine_execute_79 (rfl) (by decide) rfl ?_
      rw [gσ6]
      refine gx_iconst (pc := 82) (2 : Int32) d_Machine_execute_82 (by decide) ?_
      cases hT
      exact gx_iret (pc := 83) d_Machine_execute_83 rfl rfl
    · have hT := tx_ifn h5 hT
      refine gx_aload_n (pc := 31) 0 d_Machine_execute_31 rfl rfl ?_
      refine gx_aload_n (pc := 32) 0 d_Machine_execute_32 rfl rfl ?_
      refine gx_getR (pc := 33) 26 fl_Machine_11 d_Machine_execute_33 (rfl) (by decide) rfl ?_
      refine gx_aload_n (pc := 36) 0 d_Machine_execute_36 rfl rfl ?_
      refine gx_getI (pc := 37) (σ 25 5) fl_Machine_26 d_Machine_execute_37 (rfl) (by decide) rfl rfl ?_
      refine gx_iconst (pc := 40) (1 : Int32) d_Machine_execute_40 (by decide) ?_
      refine gx_isub (pc := 41) d_Machine_execute_41 ?_
      obtain ⟨q7, gq7, iq7, fq7, hT⟩ := tx_rf_some hT
      refine gx_aald (pc := 42) d_Machine_execute_42 (rfl) iq7 gq7 ?_
      obtain ⟨r9, σ8, cσ8, hT⟩ := tx_ci_some hT
      refine gx_callV (pc := 43) (As := [.ref (E.1 q7)]) (rest := []) cm_Machine_step lk_Machine_40 (fx_Machine_step_c l E σ q7 fq7 _ cσ8) (rfl) (by decide) rfl rfl tx_fi_Machine_execute_Machine_step (Nat.le_of_ble_eq_true rfl) d_Machine_execute_43 ?_
      change gx l E mi_Machine_execute _ σ8 [(0, .ref (E.1 25))] 46 [.int r9]
      refine gx_istore (pc := 46) [(4, .int r9), (0, .ref (E.1 25))] d_Machine_execute_46 (Nat.le_of_ble_eq_true rfl) rfl ?_
      refine gx_iload (pc := 48) 0 d_Machine_execute_48 rfl ?_
      refine gx_if_ne (pc := 50) 60 d_Machine_execute_50 rfl (fun h10 => ?_) (fun h10 => ?_)
      · have hT := tx_ifn h10 hT
        refine gx_sub [0] rfl ?_
        exact fx_Machine_execute_b60_w  σ8 r9 _ hT
      · have hT := tx_ifp h10 hT
        refine gx_aload_n (pc := 53) 1 d_Machine_execute_53 rfl rfl ?_
        refine gx_getI (pc := 54) (σ8 25 5) fl_Machine_26 d_Machine_execute_54 (rfl) (by decide) rfl rfl ?_
        refine gx_if_ne (pc := 57) 63 d_Machine_execute_57 rfl (fun h11 => ?_) (fun h11 => ?_)
        · have hT := tx_ifn h11 hT
          refine gx_aload_n (pc := 63) 1 d_Machine_execute_63 rfl rfl ?_
          refine gx_dup (pc := 64) d_Machine_execute_64 rfl ?_
          refine gx_getI (pc := 65) (σ8 25 0) fl_Machine_37 d_Machine_execute_65 (rfl) (by decide) rfl rfl ?_
          refine gx_iconst (pc := 68) (1 : Int32) d_Machine_execute_68 (by decide) ?_
          refine gx_iadd (pc := 69) d_Machine_execute_69 ?_
          obtain ⟨σ12, gσ12, hT⟩ := tx_pt_some hT
          refine gx_putI (pc := 70) fp_Machine_37 d_Machine_execute_70 (rfl) (by decide) rfl ?_
          rw [gσ12]
          refine gx_goto (pc := 73) 22 d_Machine_execute_73 rfl ?_
          refine gx_sub [1] rfl ?_
          exact ih σ12 _ hT
        · have hT := tx_ifp h11 hT
          refine gx_sub [0] rfl ?_
          exact fx_Machine_execute_b60_w  σ8 r9 _ hT
set_option maxRecDepth 100000 in
set_option maxHeartbeats 4000000 in
theorem fx_Machine_execute_c (l : Launch) (E : tx_E) (σ : tx_St) (x1 : Int32) (x2 : Int32) (x3 : Int32) (t : Int32 × tx_St) (hT : fx_Machine_execute σ x1 x2 x3 = some t) : tx_MX l E y_Machine_execute mi_Machine_execute (some (.int t.1), t.2) [.ref (E.1 25), .int x1, .int x2, .int x3] σ := by
  refine tx_MX_of (by decide) rfl (Nat.le_of_ble_eq_true rfl) ?_
  show gx l E mi_Machine_execute (some (.int t.1), t.2) σ [(0, .ref (E.1 25)), (1, .int x1), (2, .int x2), (3, .int x3)] 0 []
  unfold fx_Machine_execute at hT
  refine gx_aload_n (pc := 0) 0 d_Machine_execute_0 rfl rfl ?_
  refine gx_iconst (pc := 1) (0 : Int32) d_Machine_execute_1 (by decide) ?_
  obtain ⟨σ1, gσ1, hT⟩ := tx_pt_some hT
  refine gx_putI (pc := 2) fp_Machine_26 d_Machine_execute_2 (rfl) (by decide) rfl ?_
  rw [gσ1]
  refine gx_aload_n (pc := 5) 0 d_Machine_execute_5 rfl rfl ?_
  refine gx_iconst (pc := 6) (0 : Int32) d_Machine_execute_6 (by decide) ?_
  obtain ⟨σ2, gσ2, hT⟩ := tx_pt_some hT
  refine gx_putI (pc := 7) fp_Machine_30 d_Machine_execute_7 (rfl) (by decide) rfl ?_
  rw [gσ2]
  refine gx_aload_n (pc := 10) 0 d_Machine_execute_10 rfl rfl ?_
  refine gx_iload_n (pc := 11) 1 d_Machine_execute_11 rfl rfl ?_
  refine gx_iload_n (pc := 12) 2 d_Machine_execute_12 rfl rfl ?_
  refine gx_iload_n (pc := 13) 3 d_Machine_execute_13 rfl rfl ?_
  obtain ⟨σ3, cσ3, hT⟩ := tx_cv_some hT
  refine gx_callV (pc := 14) (As := [.int x1, .int x2, .int x3]) (rest := []) cm_Machine_enter lk_Machine_33 (fx_Machine_enter_c l E σ2 x1 x2 x3 _ cσ3) (rfl) (by decide) rfl rfl tx_fi_Machine_execute_Machine_enter (Nat.le_of_ble_eq_true rfl) d_Machine_execute_14 ?_
  change gx l E mi_Machine_execute _ σ3 [(0, .ref (E.1 25)), (1, .int x1), (2, .int x2), (3, .int x3)] 17 []
  refine gx_aload_n (pc := 17) 0 d_Machine_execute_17 rfl rfl ?_
  refine gx_iconst (pc := 18) (1 : Int32) d_Machine_execute_18 (by decide) ?_
  obtain ⟨σ4, gσ4, hT⟩ := tx_pt_some hT
  refine gx_putI (pc := 19) fp_Machine_37 d_Machine_execute_19 (rfl) (by decide) rfl ?_
  rw [gσ4]
  refine gx_sub [0] rfl ?_
  exact fx_Machine_execute_b22_w  tx_fu σ4 _ hT
theorem d_Heap_handleOf_0 : decode c_Heap_handleOf 0 = .ok (.iconst (0), 1) := by decide +kernel
theorem d_Heap_handleOf_1 : decode c_Heap_handleOf 1 = .ok (.istore_n 2, 1) := by decide +kernel
theorem d_Heap_handleOf_2 : decode c_Heap_handleOf 2 = .ok (.iload_n 2, 1) := by decide +kernel
theorem d_Heap_handleOf_3 : decode c_Heap_handleOf 3 = .ok (.aload_n 0, 1) := by decide +kernel
theorem d_Heap_handleOf_4 : decode c_Heap_handleOf 4 = .ok (.getfield 25, 3) := by decide +kernel
theorem d_Heap_handleOf_7 : decode c_Heap_handleOf 7 = .ok (.if_icmp .ge (21), 3) := by decide +kernel
theorem d_Heap_handleOf_10 : decode c_Heap_handleOf 10 = .ok (.aload_n 0, 1) := by decide +kernel
theorem d_Heap_handleOf_11 : decode c_Heap_handleOf 11 = .ok (.getfield 18, 3) := by decide +kernel
theorem d_Heap_handleOf_14 : decode c_Heap_handleOf 14 = .ok (.iload_n 2, 1) := by decide +kernel
theorem d_Heap_handleOf_15 : decode c_Heap_handleOf 15 = .ok (.iaload, 1) := by decide +kernel
theorem d_Heap_handleOf_16 : decode c_Heap_handleOf 16 = .ok (.iload_n 1, 1) := by decide +kernel
theorem d_Heap_handleOf_17 : decode c_Heap_handleOf 17 = .ok (.if_icmp .ne (5), 3) := by decide +kernel
theorem d_Heap_handleOf_20 : decode c_Heap_handleOf 20 = .ok (.iload_n 2, 1) := by decide +kernel
theorem d_Heap_handleOf_21 : decode c_Heap_handleOf 21 = .ok (.ireturn, 1) := by decide +kernel
theorem d_Heap_handleOf_22 : decode c_Heap_handleOf 22 = .ok (.iinc 2 (1), 3) := by decide +kernel
theorem d_Heap_handleOf_25 : decode c_Heap_handleOf 25 = .ok (.goto (-23), 3) := by decide +kernel
theorem d_Heap_handleOf_28 : decode c_Heap_handleOf 28 = .ok (.iconst (-1), 1) := by decide +kernel
theorem d_Heap_handleOf_29 : decode c_Heap_handleOf 29 = .ok (.ireturn, 1) := by decide +kernel
def fx_Heap_handleOf_b2 : Nat → tx_St → Int32 → Int32 → Option (Int32 × tx_St)
  | 0, _, _, _ => none
  | n + 1, σ, x1, x2 => (if (σ 21 4) ≤ x2 then some ((-1 : Int32), σ) else tx_rd σ 24 16 x2 fun v2 => (if v2 = x1 then some (x2, σ) else fx_Heap_handleOf_b2 n σ x1 (x2 + (1 : Int32))))
def fx_Heap_handleOf (σ : tx_St) (x1 : Int32) : Option (Int32 × tx_St) := fx_Heap_handleOf_b2  tx_fu σ x1 (0 : Int32)
set_option maxRecDepth 100000 in
set_option maxHeartbeats 4000000 in
theorem fx_Heap_handleOf_b2_w {l : Launch} {E : tx_E} : ∀ (n : Nat) (σ : tx_St) (x1 : Int32) (x2 : Int32) (t : Int32 × tx_St), fx_Heap_handleOf_b2 n σ x1 x2 = some t → gx l E mi_Heap_handleOf (some (.int t.1), t.2) σ [(0, .ref (E.1 21)), (1, .int x1), (2, .int x2)] 2 [] := by
  intro n
  induction n with
  | zero => intro σ x1 x2 t hT; cases hT
  | succ n ih =>
    intro σ x1 x2 t hT
    rw [fx_Heap_handleOf_b2] at hT
    refine gx_iload_n (pc := 2) 2 d_Heap_handleOf_2 rfl rfl ?_
    refine gx_aload_n (pc := 3) 0 d_Heap_handleOf_3 rfl rfl ?_
    refine gx_getI (pc := 4) (σ 21 4) fl_Heap_25 d_Heap_handleOf_4 (rfl) (by decide) rfl rfl ?_
    refine gx_icmp_ge (pc := 7) 28 d_Heap_handleOf_7 rfl (fun h1 => ?_) (fun h1 => ?_)
    · have hT := tx_ifp h1 hT
      refine gx_iconst (pc := 28) (-1 : Int32) d_Heap_handleOf_28 (by decide) ?_
      cases hT
      exact gx_iret (pc := 29) d_Heap_handleOf_29 rfl rfl
    · have hT := tx_ifn h1 hT
      refine gx_aload_n (pc := 10) 0 d_Heap_handleOf_10 rfl rfl ?_
      refine gx_getR (pc := 11) 24 fl_Heap_18 d_Heap_handleOf_11 (rfl) (by decide) rfl ?_
      refine gx_iload_n (pc := 14) 2 d_Heap_handleOf_14 rfl rfl ?_
      obtain ⟨v2, gv2, iv2, hT⟩ := tx_rd_some hT
      refine gx_iald (pc := 15) v2 d_Heap_handleOf_15 (rfl) iv2 gv2 ?_
      refine gx_iload_n (pc := 16) 1 d_Heap_handleOf_16 rfl rfl ?_
      refine gx_icmp_ne (pc := 17) 22 d_Heap_handleOf_17 rfl (fun h3 => ?_) (fun h3 => ?_)
      · have hT := tx_ifn h3 hT
        refine gx_iinc (pc := 22) (x2 + (1 : Int32)) 2 [(2, .int (x2 + (1 : Int32))), (0, .ref (E.1 21)), (1, .int x1)] d_Heap_handleOf_22 rfl (tx_inc (by decide)) (Nat.le_of_ble_eq_true rfl) rfl ?_
        refine gx_goto (pc := 25) 2 d_Heap_handleOf_25 rfl ?_
        refine gx_sub [1, 2, 0] rfl ?_
        exact ih σ x1 (x2 + (1 : Int32)) _ hT
      · have hT := tx_ifp h3 hT
        refine gx_iload_n (pc := 20) 2 d_Heap_handleOf_20 rfl rfl ?_
        cases hT
        exact gx_iret (pc := 21) d_Heap_handleOf_21 rfl rfl
set_option maxRecDepth 100000 in
set_option maxHeartbeats 4000000 in
theorem fx_Heap_handleOf_c (l : Launch) (E : tx_E) (σ : tx_St) (x1 : Int32) (t : Int32 × tx_St) (hT : fx_Heap_handleOf σ x1 = some t) : tx_MX l E y_Heap_handleOf mi_Heap_handleOf (some (.int t.1), t.2) [.ref (E.1 21), .int x1] σ := by
  refine tx_MX_of (by decide) rfl (Nat.le_of_ble_eq_true rfl) ?_
  show gx l E mi_Heap_handleOf (some (.int t.1), t.2) σ [(0, .ref (E.1 21)), (1, .int x1)] 0 []
  unfold fx_Heap_handleOf at hT
  refine gx_iconst (pc := 0) (0 : Int32) d_Heap_handleOf_0 (by decide) ?_
  refine gx_istore_n (pc := 1) [(2, .int (0 : Int32)), (0, .ref (E.1 21)), (1, .int x1)] d_Heap_handleOf_1 rfl (Nat.le_of_ble_eq_true rfl) rfl ?_
  refine gx_sub [1, 2, 0] rfl ?_
  exact fx_Heap_handleOf_b2_w  tx_fu σ x1 (0 : Int32) _ hT
