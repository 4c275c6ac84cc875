theorem d_Fitting_packed_0 : decode c_Fitting_packed 0 = .ok (.iconst (0), 1) := by decide +kernel
theorem d_Fitting_packed_1 : decode c_Fitting_packed 1 = .ok (.istore_n 1, 1) := by decide +kernel
theorem d_Fitting_packed_2 : decode c_Fitting_packed 2 = .ok (.iconst (0), 1) := by decide +kernel
theorem d_Fitting_packed_3 : decode c_Fitting_packed 3 = .ok (.istore_n 2, 1) := by decide +kernel
theorem d_Fitting_packed_4 : decode c_Fitting_packed 4 = .ok (.iload_n 2, 1) := by decide +kernel
theorem d_Fitting_packed_5 : decode c_Fitting_packed 5 = .ok (.aload_n 0, 1) := by decide +kernel
theorem d_Fitting_packed_6 : decode c_Fitting_packed 6 = .ok (.getfield 68, 3) := by decide +kernel
theorem d_Fitting_packed_9 : decode c_Fitting_packed 9 = .ok (.if_icmp .ge (24), 3) := by decide +kernel
theorem d_Fitting_packed_12 : decode c_Fitting_packed 12 = .ok (.iload_n 1, 1) := by decide +kernel
theorem d_Fitting_packed_13 : decode c_Fitting_packed 13 = .ok (.aload_n 0, 1) := by decide +kernel
theorem d_Fitting_packed_14 : decode c_Fitting_packed 14 = .ok (.getfield 15, 3) := by decide +kernel
theorem d_Fitting_packed_17 : decode c_Fitting_packed 17 = .ok (.iload_n 2, 1) := by decide +kernel
theorem d_Fitting_packed_18 : decode c_Fitting_packed 18 = .ok (.iaload, 1) := by decide +kernel
theorem d_Fitting_packed_19 : decode c_Fitting_packed 19 = .ok (.iconst (1), 1) := by decide +kernel
theorem d_Fitting_packed_20 : decode c_Fitting_packed 20 = .ok (.iadd, 1) := by decide +kernel
theorem d_Fitting_packed_21 : decode c_Fitting_packed 21 = .ok (.iconst (4), 1) := by decide +kernel
theorem d_Fitting_packed_22 : decode c_Fitting_packed 22 = .ok (.iload_n 2, 1) := by decide +kernel
theorem d_Fitting_packed_23 : decode c_Fitting_packed 23 = .ok (.imul, 1) := by decide +kernel
theorem d_Fitting_packed_24 : decode c_Fitting_packed 24 = .ok (.ishl, 1) := by decide +kernel
theorem d_Fitting_packed_25 : decode c_Fitting_packed 25 = .ok (.iadd, 1) := by decide +kernel
theorem d_Fitting_packed_26 : decode c_Fitting_packed 26 = .ok (.istore_n 1, 1) := by decide +kernel
theorem d_Fitting_packed_27 : decode c_Fitting_packed 27 = .ok (.iinc 2 (1), 3) := by decide +kernel
theorem d_Fitting_packed_30 : decode c_Fitting_packed 30 = .ok (.goto (-26), 3) := by decide +kernel
theorem d_Fitting_packed_33 : decode c_Fitting_packed 33 = .ok (.iconst (0), 1) := by decide +kernel
theorem d_Fitting_packed_34 : decode c_Fitting_packed 34 = .ok (.istore_n 2, 1) := by decide +kernel
theorem d_Fitting_packed_35 : decode c_Fitting_packed 35 = .ok (.iload_n 2, 1) := by decide +kernel
theorem d_Fitting_packed_36 : decode c_Fitting_packed 36 = .ok (.iconst (3), 1) := by decide +kernel
theorem d_Fitting_packed_37 : decode c_Fitting_packed 37 = .ok (.if_icmp .ge (27), 3) := by decide +kernel
theorem d_Fitting_packed_40 : decode c_Fitting_packed 40 = .ok (.iload_n 1, 1) := by decide +kernel
theorem d_Fitting_packed_41 : decode c_Fitting_packed 41 = .ok (.aload_n 0, 1) := by decide +kernel
theorem d_Fitting_packed_42 : decode c_Fitting_packed 42 = .ok (.getfield 18, 3) := by decide +kernel
theorem d_Fitting_packed_45 : decode c_Fitting_packed 45 = .ok (.iload_n 2, 1) := by decide +kernel
theorem d_Fitting_packed_46 : decode c_Fitting_packed 46 = .ok (.iaload, 1) := by decide +kernel
theorem d_Fitting_packed_47 : decode c_Fitting_packed 47 = .ok (.iconst (1), 1) := by decide +kernel
theorem d_Fitting_packed_48 : decode c_Fitting_packed 48 = .ok (.iadd, 1) := by decide +kernel
theorem d_Fitting_packed_49 : decode c_Fitting_packed 49 = .ok (.bipush (16), 2) := by decide +kernel
theorem d_Fitting_packed_51 : decode c_Fitting_packed 51 = .ok (.iconst (4), 1) := by decide +kernel
theorem d_Fitting_packed_52 : decode c_Fitting_packed 52 = .ok (.iload_n 2, 1) := by decide +kernel
theorem d_Fitting_packed_53 : decode c_Fitting_packed 53 = .ok (.imul, 1) := by decide +kernel
theorem d_Fitting_packed_54 : decode c_Fitting_packed 54 = .ok (.iadd, 1) := by decide +kernel
theorem d_Fitting_packed_55 : decode c_Fitting_packed 55 = .ok (.ishl, 1) := by decide +kernel
theorem d_Fitting_packed_56 : decode c_Fitting_packed 56 = .ok (.iadd, 1) := by decide +kernel
theorem d_Fitting_packed_57 : decode c_Fitting_packed 57 = .ok (.istore_n 1, 1) := by decide +kernel
theorem d_Fitting_packed_58 : decode c_Fitting_packed 58 = .ok (.iinc 2 (1), 3) := by decide +kernel
theorem d_Fitting_packed_61 : decode c_Fitting_packed 61 = .ok (.goto (-26), 3) := by decide +kernel
theorem d_Fitting_packed_64 : decode c_Fitting_packed 64 = .ok (.iload_n 1, 1) := by decide +kernel
theorem d_Fitting_packed_65 : decode c_Fitting_packed 65 = .ok (.ireturn, 1) := by decide +kernel
def fx_Fitting_packed_b35 : Nat → tx_St → Int32 → Int32 → Option (Int32 × tx_St)
  | 0, _, _, _ => none
  | n + 1, σ, x1, x2 => (if (3 : Int32) ≤ x2 then some (x1, σ) else tx_rd σ 18 3 x2 fun v4 => fx_Fitting_packed_b35 n σ (x1 + ((v4 + (1 : Int32)) <<< (((16 : Int32) + ((4 : Int32) * x2)) &&& 31))) (x2 + (1 : Int32)))
def fx_Fitting_packed_b4 : Nat → tx_St → Int32 → Int32 → Option (Int32 × tx_St)
  | 0, _, _, _ => none
  | n + 1, σ, x1, x2 => (if (σ 15 6) ≤ x2 then fx_Fitting_packed_b35  tx_fu σ x1 (0 : Int32) else tx_rd σ 17 4 x2 fun v2 => fx_Fitting_packed_b4 n σ (x1 + ((v2 + (1 : Int32)) <<< (((4 : Int32) * x2) &&& 31))) (x2 + (1 : Int32)))
def fx_Fitting_packed (σ : tx_St) : Option (Int32 × tx_St) := fx_Fitting_packed_b4  tx_fu σ (0 : Int32) (0 : Int32)
set_option maxRecDepth 100000 in
set_option maxHeartbeats 4000000 in
theorem fx_Fitting_packed_b35_w {l : Launch} {E : tx_E} : ∀ (n : Nat) (σ : tx_St) (x1 : Int32) (x2 : Int32) (t : Int32 × tx_St), fx_Fitting_packed_b35 n σ x1 x2 = some t → gx l E mi_Fitting_packed (some (.int t.1), t.2) σ [(0, .ref (E.1 15)), (1, .int x1), (2, .int x2)] 35 [] := by
  intro n
  induction n with
  | zero => intro σ x1 x2 t hT; cases hT
  | succ n ih =>
    intro σ x1 x2 t hT
    rw [fx_Fitting_packed_b35] at hT
    refine gx_iload_n (pc := 35) 2 d_Fitting_packed_35 rfl rfl ?_
    refine gx_iconst (pc := 36) (3 : Int32) d_Fitting_packed_36 (by decide) ?_
    refine gx_icmp_ge (pc := 37) 64 d_Fitting_packed_37 rfl (fun h3 => ?_) (fun h3 => ?_)
    · have hT := tx_ifp h3 hT
      refine gx_iload_n (pc := 64) 1 d_Fitting_packed_64 rfl rfl ?_
      cases hT
      exact gx_iret (pc := 65) d_Fitting_packed_65 rfl rfl
    · have hT := tx_ifn h3 hT
      refine gx_iload_n (pc := 40) 1 d_Fitting_packed_40 rfl rfl ?_
      refine gx_aload_n (pc := 41) 0 d_Fitting_packed_41 rfl rfl ?_
      refine gx_getR (pc := 42) 18 fl_Fitting_18 d_Fitting_packed_42 (rfl) (by decide) rfl ?_
      refine gx_iload_n (pc := 45) 2 d_Fitting_packed_45 rfl rfl ?_
      obtain ⟨v4, gv4, iv4, hT⟩ := tx_rd_some hT
      refine gx_iald (pc := 46) v4 d_Fitting_packed_46 (rfl) iv4 gv4 ?_
      refine gx_iconst (pc := 47) (1 : Int32) d_Fitting_packed_47 (by decide) ?_
      refine gx_iadd (pc := 48) d_Fitting_packed_48 ?_
      refine gx_bipush (pc := 49) (16 : Int32) d_Fitting_packed_49 (by decide) ?_
      refine gx_iconst (pc := 51) (4 : Int32) d_Fitting_packed_51 (by decide) ?_
      refine gx_iload_n (pc := 52) 2 d_Fitting_packed_52 rfl rfl ?_
      refine gx_imul (pc := 53) d_Fitting_packed_53 ?_
      refine gx_iadd (pc := 54) d_Fitting_packed_54 ?_
      refine gx_ishl (pc := 55) d_Fitting_packed_55 ?_
      refine gx_iadd (pc := 56) d_Fitting_packed_56 ?_
      refine gx_istore_n (pc := 57) [(1, .int (x1 + ((v4 + (1 : Int32)) <<< (((16 : Int32) + ((4 : Int32) * x2)) &&& 31)))), (0, .ref (E.1 15)), (2, .int x2)] d_Fitting_packed_57 rfl (Nat.le_of_ble_eq_true rfl) rfl ?_
      refine gx_iinc (pc := 58) (x2 + (1 : Int32)) 2 [(2, .int (x2 + (1 : Int32))), (1, .int (x1 + ((v4 + (1 : Int32)) <<< (((16 : Int32) + ((4 : Int32) * x2)) &&& 31)))), (0, .ref (E.1 15))] d_Fitting_packed_58 rfl (tx_inc (by decide)) (Nat.le_of_ble_eq_true rfl) rfl ?_
      refine gx_goto (pc := 61) 35 d_Fitting_packed_61 rfl ?_
      refine gx_sub [2, 1, 0] rfl ?_
      exact ih σ (x1 + ((v4 + (1 : Int32)) <<< (((16 : Int32) + ((4 : Int32) * x2)) &&& 31))) (x2 + (1 : Int32)) _ hT
set_option maxRecDepth 100000 in
set_option maxHeartbeats 4000000 in
theorem fx_Fitting_packed_b4_w {l : Launch} {E : tx_E} : ∀ (n : Nat) (σ : tx_St) (x1 : Int32) (x2 : Int32) (t : Int32 × tx_St), fx_Fitting_packed_b4 n σ x1 x2 = some t → gx l E mi_Fitting_packed (some (.int t.1), t.2) σ [(0, .ref (E.1 15)), (1, .int x1), (2, .int x2)] 4 [] := by
  intro n
  induction n with
  | zero => intro σ x1 x2 t hT; cases hT
  | succ n ih =>
    intro σ x1 x2 t hT
    rw [fx_Fitting_packed_b4] at hT
    refine gx_iload_n (pc := 4) 2 d_Fitting_packed_4 rfl rfl ?_
    refine gx_aload_n (pc := 5) 0 d_Fitting_packed_5 rfl rfl ?_
    refine gx_getI (pc := 6) (σ 15 6) fl_Fitting_68 d_Fitting_packed_6 (rfl) (by decide) rfl rfl ?_
    refine gx_icmp_ge (pc := 9) 33 d_Fitting_packed_9 rfl (fun h1 => ?_) (fun h1 => ?_)
    · have hT := tx_ifp h1 hT
      refine gx_iconst (pc := 33) (0 : Int32) d_Fitting_packed_33 (by decide) ?_
      refine gx_istore_n (pc := 34) [(2, .int (0 : Int32)), (0, .ref (E.1 15)), (1, .int x1)] d_Fitting_packed_34 rfl (Nat.le_of_ble_eq_true rfl) rfl ?_
      refine gx_sub [1, 2, 0] rfl ?_
      exact fx_Fitting_packed_b35_w  tx_fu σ x1 (0 : Int32) _ hT
    · have hT := tx_ifn h1 hT
      refine gx_iload_n (pc := 12) 1 d_Fitting_packed_12 rfl rfl ?_
      refine gx_aload_n (pc := 13) 0 d_Fitting_packed_13 rfl rfl ?_
      refine gx_getR (pc := 14) 17 fl_Fitting_15 d_Fitting_packed_14 (rfl) (by decide) rfl ?_
      refine gx_iload_n (pc := 17) 2 d_Fitting_packed_17 rfl rfl ?_
      obtain ⟨v2, gv2, iv2, hT⟩ := tx_rd_some hT
      refine gx_iald (pc := 18) v2 d_Fitting_packed_18 (rfl) iv2 gv2 ?_
      refine gx_iconst (pc := 19) (1 : Int32) d_Fitting_packed_19 (by decide) ?_
      refine gx_iadd (pc := 20) d_Fitting_packed_20 ?_
      refine gx_iconst (pc := 21) (4 : Int32) d_Fitting_packed_21 (by decide) ?_
      refine gx_iload_n (pc := 22) 2 d_Fitting_packed_22 rfl rfl ?_
      refine gx_imul (pc := 23) d_Fitting_packed_23 ?_
      refine gx_ishl (pc := 24) d_Fitting_packed_24 ?_
      refine gx_iadd (pc := 25) d_Fitting_packed_25 ?_
      refine gx_istore_n (pc := 26) [(1, .int (x1 + ((v2 + (1 : Int32)) <<< (((4 : Int32) * x2) &&& 31)))), (0, .ref (E.1 15)), (2, .int x2)] d_Fitting_packed_26 rfl (Nat.le_of_ble_eq_true rfl) rfl ?_
      refine gx_iinc (pc := 27) (x2 + (1 : Int32)) 2 [(2, .int (x2 + (1 : Int32))), (1, .int (x1 + ((v2 + (1 : Int32)) <<< (((4 : Int32) * x2) &&& 31)))), (0, .ref (E.1 15))] d_Fitting_packed_27 rfl (tx_inc (by decide)) (Nat.le_of_ble_eq_true rfl) rfl ?_
      refine gx_goto (pc := 30) 4 d_Fitting_packed_30 rfl ?_
      refine gx_sub [2, 1, 0] rfl ?_
      exact ih σ (x1 + ((v2 + (1 : Int32)) <<< (((4 : Int32) * x2) &&& 31))) (x2 + (1 : Int32)) _ hT
set_option maxRecDepth 100000 in
set_option maxHeartbeats 4000000 in
theorem fx_Fitting_packed_c (l : Launch) (E : tx_E) (σ : tx_St) (t : Int32 × tx_St) (hT : fx_Fitting_packed σ  = some t) : tx_MX l E y_Fitting_packed mi_Fitting_packed (some (.int t.1), t.2) [.ref (E.1 15)] σ := by
  refine tx_MX_of (by decide) rfl (Nat.le_of_ble_eq_true rfl) ?_
  show gx l E mi_Fitting_packed (some (.int t.1), t.2) σ [(0, .ref (E.1 15))] 0 []
  unfold fx_Fitting_packed at hT
  refine gx_iconst (pc := 0) (0 : Int32) d_Fitting_packed_0 (by decide) ?_
  refine gx_istore_n (pc := 1) [(1, .int (0 : Int32)), (0, .ref (E.1 15))] d_Fitting_packed_1 rfl (Nat.le_of_ble_eq_true rfl) rfl ?_
  refine gx_iconst (pc := 2) (0 : Int32) d_Fitting_packed_2 (by decide) ?_
  refine gx_istore_n (pc := 3) [(2, .int (0 : Int32)), (1, .int (0 : Int32)), (0, .ref (E.1 15))] d_Fitting_packed_3 rfl (Nat.le_of_ble_eq_true rfl) rfl ?_
  refine gx_sub [2, 1, 0] rfl ?_
  exact fx_Fitting_packed_b4_w  tx_fu σ (0 : Int32) (0 : Int32) _ hT
theorem d_Fitting_arriveAt_0 : decode c_Fitting_arriveAt 0 = .ok (.aload_n 0, 1) := by decide +kernel
theorem d_Fitting_arriveAt_1 : decode c_Fitting_arriveAt 1 = .ok (.getfield 39, 3) := by decide +kernel
theorem d_Fitting_arriveAt_4 : decode c_Fitting_arriveAt 4 = .ok (.ifCond .ne (4), 3) := by decide +kernel
theorem d_Fitting_arriveAt_7 : decode c_Fitting_arriveAt 7 = .ok (.return_, 1) := by decide +kernel
theorem d_Fitting_arriveAt_8 : decode c_Fitting_arriveAt 8 = .ok (.aload_n 0, 1) := by decide +kernel
theorem d_Fitting_arriveAt_9 : decode c_Fitting_arriveAt 9 = .ok (.getfield 24, 3) := by decide +kernel
theorem d_Fitting_arriveAt_12 : decode c_Fitting_arriveAt 12 = .ok (.aload_n 0, 1) := by decide +kernel
theorem d_Fitting_arriveAt_13 : decode c_Fitting_arriveAt 13 = .ok (.getfield 43, 3) := by decide +kernel
theorem d_Fitting_arriveAt_16 : decode c_Fitting_arriveAt 16 = .ok (.iload_n 1, 1) := by decide +kernel
theorem d_Fitting_arriveAt_17 : decode c_Fitting_arriveAt 17 = .ok (.invokevirtual 93, 3) := by decide +kernel
theorem d_Fitting_arriveAt_20 : decode c_Fitting_arriveAt 20 = .ok (.ifCond .ne (9), 3) := by decide +kernel
theorem d_Fitting_arriveAt_23 : decode c_Fitting_arriveAt 23 = .ok (.aload_n 0, 1) := by decide +kernel
theorem d_Fitting_arriveAt_24 : decode c_Fitting_arriveAt 24 = .ok (.iconst (0), 1) := by decide +kernel
theorem d_Fitting_arriveAt_25 : decode c_Fitting_arriveAt 25 = .ok (.putfield 39, 3) := by decide +kernel
theorem d_Fitting_arriveAt_28 : decode c_Fitting_arriveAt 28 = .ok (.return_, 1) := by decide +kernel
theorem d_Fitting_arriveAt_29 : decode c_Fitting_arriveAt 29 = .ok (.aload_n 0, 1) := by decide +kernel
theorem d_Fitting_arriveAt_30 : decode c_Fitting_arriveAt 30 = .ok (.getfield 43, 3) := by decide +kernel
theorem d_Fitting_arriveAt_33 : decode c_Fitting_arriveAt 33 = .ok (.bipush (12), 2) := by decide +kernel
theorem d_Fitting_arriveAt_35 : decode c_Fitting_arriveAt 35 = .ok (.imul, 1) := by decide +kernel
theorem d_Fitting_arriveAt_36 : decode c_Fitting_arriveAt 36 = .ok (.iload_n 1, 1) := by decide +kernel
theorem d_Fitting_arriveAt_37 : decode c_Fitting_arriveAt 37 = .ok (.iadd, 1) := by decide +kernel
theorem d_Fitting_arriveAt_38 : decode c_Fitting_arriveAt 38 = .ok (.istore_n 2, 1) := by decide +kernel
theorem d_Fitting_arriveAt_39 : decode c_Fitting_arriveAt 39 = .ok (.aload_n 0, 1) := by decide +kernel
theorem d_Fitting_arriveAt_40 : decode c_Fitting_arriveAt 40 = .ok (.invokevirtual 97, 3) := by decide +kernel
theorem d_Fitting_arriveAt_43 : decode c_Fitting_arriveAt 43 = .ok (.istore_n 3, 1) := by decide +kernel
theorem d_Fitting_arriveAt_44 : decode c_Fitting_arriveAt 44 = .ok (.aload_n 0, 1) := by decide +kernel
theorem d_Fitting_arriveAt_45 : decode c_Fitting_arriveAt 45 = .ok (.getfield 9, 3) := by decide +kernel
theorem d_Fitting_arriveAt_48 : decode c_Fitting_arriveAt 48 = .ok (.iload_n 2, 1) := by decide +kernel
theorem d_Fitting_arriveAt_49 : decode c_Fitting_arriveAt 49 = .ok (.iaload, 1) := by decide +kernel
theorem d_Fitting_arriveAt_50 : decode c_Fitting_arriveAt 50 = .ok (.iconst (-1), 1) := by decide +kernel
theorem d_Fitting_arriveAt_51 : decode c_Fitting_arriveAt 51 = .ok (.if_icmp .ne (33), 3) := by decide +kernel
theorem d_Fitting_arriveAt_54 : decode c_Fitting_arriveAt 54 = .ok (.aload_n 0, 1) := by decide +kernel
theorem d_Fitting_arriveAt_55 : decode c_Fitting_arriveAt 55 = .ok (.getfield 9, 3) := by decide +kernel
theorem d_Fitting_arriveAt_58 : decode c_Fitting_arriveAt 58 = .ok (.iload_n 2, 1) := by decide +kernel
theorem d_Fitting_arriveAt_59 : decode c_Fitting_arriveAt 59 = .ok (.iload_n 3, 1) := by decide +kernel
theorem d_Fitting_arriveAt_60 : decode c_Fitting_arriveAt 60 = .ok (.iastore, 1) := by decide +kernel
theorem d_Fitting_arriveAt_61 : decode c_Fitting_arriveAt 61 = .ok (.aload_n 0, 1) := by decide +kernel
theorem d_Fitting_arriveAt_62 : decode c_Fitting_arriveAt 62 = .ok (.getfield 21, 3) := by decide +kernel
theorem d_Fitting_arriveAt_65 : decode c_Fitting_arriveAt 65 = .ok (.aload_n 0, 1) := by decide +kernel
theorem d_Fitting_arriveAt_66 : decode c_Fitting_arriveAt 66 = .ok (.getfield 35, 3) := by decide +kernel
theorem d_Fitting_arriveAt_69 : decode c_Fitting_arriveAt 69 = .ok (.iload_n 1, 1) := by decide +kernel
theorem d_Fitting_arriveAt_70 : decode c_Fitting_arriveAt 70 = .ok (.iastore, 1) := by decide +kernel
theorem d_Fitting_arriveAt_71 : decode c_Fitting_arriveAt 71 = .ok (.aload_n 0, 1) := by decide +kernel
theorem d_Fitting_arriveAt_72 : decode c_Fitting_arriveAt 72 = .ok (.dup, 1) := by decide +kernel
theorem d_Fitting_arriveAt_73 : decode c_Fitting_arriveAt 73 = .ok (.getfield 35, 3) := by decide +kernel
theorem d_Fitting_arriveAt_76 : decode c_Fitting_arriveAt 76 = .ok (.iconst (1), 1) := by decide +kernel
theorem d_Fitting_arriveAt_77 : decode c_Fitting_arriveAt 77 = .ok (.iadd, 1) := by decide +kernel
theorem d_Fitting_arriveAt_78 : decode c_Fitting_arriveAt 78 = .ok (.putfield 35, 3) := by decide +kernel
theorem d_Fitting_arriveAt_81 : decode c_Fitting_arriveAt 81 = .ok (.goto (18), 3) := by decide +kernel
theorem d_Fitting_arriveAt_84 : decode c_Fitting_arriveAt 84 = .ok (.aload_n 0, 1) := by decide +kernel
theorem d_Fitting_arriveAt_85 : decode c_Fitting_arriveAt 85 = .ok (.getfield 9, 3) := by decide +kernel
theorem d_Fitting_arriveAt_88 : decode c_Fitting_arriveAt 88 = .ok (.iload_n 2, 1) := by decide +kernel
theorem d_Fitting_arriveAt_89 : decode c_Fitting_arriveAt 89 = .ok (.iaload, 1) := by decide +kernel
theorem d_Fitting_arriveAt_90 : decode c_Fitting_arriveAt 90 = .ok (.iload_n 3, 1) := by decide +kernel
theorem d_Fitting_arriveAt_91 : decode c_Fitting_arriveAt 91 = .ok (.if_icmp .eq (8), 3) := by decide +kernel
theorem d_Fitting_arriveAt_94 : decode c_Fitting_arriveAt 94 = .ok (.aload_n 0, 1) := by decide +kernel
theorem d_Fitting_arriveAt_95 : decode c_Fitting_arriveAt 95 = .ok (.iconst (0), 1) := by decide +kernel
theorem d_Fitting_arriveAt_96 : decode c_Fitting_arriveAt 96 = .ok (.putfield 39, 3) := by decide +kernel
theorem d_Fitting_arriveAt_99 : decode c_Fitting_arriveAt 99 = .ok (.return_, 1) := by decide +kernel
def fx_Fitting_arriveAt_b99 (σ : tx_St) : Option tx_St := some σ
def fx_Fitting_arriveAt (σ : tx_St) (x1 : Int32) : Option tx_St := (if (σ 15 8) = 0 then some σ else tx_ci (fx_Plan_isInstruction σ (σ 15 7) x1) fun r3 σ2 => (if r3 = 0 then tx_pz σ2 15 8 (0 : Int32) fun σ15 => some σ15 else tx_ci (fx_Fitting_packed σ2) fun r6 σ5 => tx_rd σ5 16 96 (((σ2 15 7) * (12 : Int32)) + x1) fun v7 => (if v7 = (-1 : Int32) then tx_wr σ5 16 96 (((σ2 15 7) * (12 : Int32)) + x1) r6 fun σ12 => tx_wr σ12 19 12 (σ12 15 5) x1 fun σ13 => tx_pt σ13 15 5 ((σ13 15 5) + (1 : Int32)) fun σ14 => fx_Fitting_arriveAt_b99  σ14 else tx_rd σ5 16 96 (((σ2 15 7) * (12 : Int32)) + x1) fun v9 => (if v9 = r6 then fx_Fitting_arriveAt_b99  σ5 else tx_pz σ5 15 8 (0 : Int32) fun σ11 => fx_Fitting_arriveAt_b99  σ11))))
set_option maxRecDepth 100000 in
set_option maxHeartbeats 4000000 in
theorem fx_Fitting_arriveAt_b99_w {l : Launch} {E : tx_E} (σ : tx_St) (t : tx_St) (hT : fx_Fitting_arriveAt_b99 σ  = some t) : gx l E mi_Fitting_arriveAt (none, t) σ [] 99 [] := by
  unfold fx_Fitting_arriveAt_b99 at hT
  cases hT
  exact gx_vret (pc := 99) d_Fitting_arriveAt_99 rfl rfl
set_option maxRecDepth 100000 in
set_option maxHeartbeats 4000000 in
theorem fx_Fitting_arriveAt_c (l : Launch) (E : tx_E) (σ : tx_St) (x1 : Int32) (t : tx_St) (hT : fx_Fitting_arriveAt σ x1 = some t) : tx_MX l E y_Fitting_arriveAt mi_Fitting_arriveAt (none, t) [.ref (E.1 15), .int x1] σ := by
  refine tx_MX_of (by decide) rfl (Nat.le_of_ble_eq_true rfl) ?_
  show gx l E mi_Fitting_arriveAt (none, t) σ [(0, .ref (E.1 15)), (1, .int x1)] 0 []
  unfold fx_Fitting_arriveAt at hT
  refine gx_aload_n (pc := 0) 0 d_Fitting_arriveAt_0 rfl rfl ?_
  refine gx_getI (pc := 1) (σ 15 8) fl_Fitting_39 d_Fitting_arriveAt_1 (rfl) (by decide) rfl rfl ?_
  refine gx_if_ne (pc := 4) 8 d_Fitting_arriveAt_4 rfl (fun h1 => ?_) (fun h1 => ?_)
  · have hT := tx_ifn h1 hT
    refine gx_aload_n (pc := 8) 0 d_Fitting_arriveAt_8 rfl rfl ?_
    refine gx_getR (pc := 9) 1 fl_Fitting_24 d_Fitting_arriveAt_9 (rfl) (by decide) rfl ?_
    refine gx_aload_n (pc := 12) 0 d_Fitting_arriveAt_12 rfl rfl ?_
    refine gx_getI (pc := 13) (σ 15 7) fl_Fitting_43 d_Fitting_arriveAt_13 (rfl) (by decide) rfl rfl ?_
    refine gx_iload_n (pc := 16) 1 d_Fitting_arriveAt_16 rfl rfl ?_
    obtain ⟨r3, σ2, cσ2, hT⟩ := tx_ci_some hT
    refine gx_callV (pc := 17) (As := [.int (σ 15 7), .int x1]) (rest := []) cm_Plan_isInstruction lk_Fitting_93 (fx_Plan_isInstruction_c l E σ (σ 15 7) x1 _ cσ2) (rfl) (by decide) rfl rfl tx_fi_Fitting_arriveAt_Plan_isInstruction (Nat.le_of_ble_eq_true rfl) d_Fitting_arriveAt_17 ?_
    change gx l E mi_Fitting_arriveAt _ σ2 [(0, .ref (E.1 15)), (1, .int x1)] 20 [.int r3]
    refine gx_if_ne (pc := 20) 29 d_Fitting_arriveAt_20 rfl (fun h4 => ?_) (fun h4 => ?_)
    · have hT := tx_ifn h4 hT
      refine gx_aload_n (pc := 29) 0 d_Fitting_arriveAt_29 rfl rfl ?_
      refine gx_getI (pc := 30) (σ2 15 7) fl_Fitting_43 d_Fitting_arriveAt_30 (rfl) (by decide) rfl rfl ?_
      refine gx_bipush (pc := 33) (12 : Int32) d_Fitting_arriveAt_33 (by decide) ?_
      refine gx_imul (pc := 35) d_Fitting_arriveAt_35 ?_
      refine gx_iload_n (pc := 36) 1 d_Fitting_arriveAt_36 rfl rfl ?_
      refine gx_iadd (pc := 37) d_Fitting_arriveAt_37 ?_
      refine gx_istore_n (pc := 38) [(2, .int (((σ2 15 7) * (12 : Int32)) + x1)), (0, .ref (E.1 15)), (1, .int x1)] d_Fitting_arriveAt_38 rfl (Nat.le_of_ble_eq_true rfl) rfl ?_
      refine gx_aload_n (pc := 39) 1 d_Fitting_arriveAt_39 rfl rfl ?_
      obtain ⟨r6, σ5, cσ5, hT⟩ := tx_ci_some hT
      refine gx_callV (pc := 40) (As := []) (rest := []) cm_Fitting_packed lk_Fitting_97 (fx_Fitting_packed_c l E σ2 _ cσ5) (rfl) (by decide) rfl rfl tx_fi_Fitting_arriveAt_Fitting_packed (Nat.le_of_ble_eq_true rfl) d_Fitting_arriveAt_40 ?_
      change gx l E mi_Fitting_arriveAt _ σ5 [(2, .int (((σ2 15 7) * (12 : Int32)) + x1)), (0, .ref (E.1 15)), (1, .int x1)] 43 [.int r6]
      refine gx_istore_n (pc := 43) [(3, .int r6), (2, .int (((σ2 15 7) * (12 : Int32)) + x1)), (0, .ref (E.1 15)), (1, .int x1)] d_Fitting_arriveAt_43 rfl (Nat.le_of_ble_eq_true rfl) rfl ?_
      refine gx_aload_n (pc := 44) 2 d_Fitting_arriveAt_44 rfl rfl ?_
      refine gx_getR (pc := 45) 16 fl_Fitting_9 d_Fitting_arriveAt_45 (rfl) (by decide) rfl ?_
      refine gx_iload_n (pc := 48) 1 d_Fitting_arriveAt_48 rfl rfl ?_
      obtain ⟨v7, gv7, iv7, hT⟩ := tx_rd_some hT
      refine gx_iald (pc := 49) v7 d_Fitting_arriveAt_49 (rfl) iv7 gv7 ?_
      refine gx_iconst (pc := 50) (-1 : Int32) d_Fitting_arriveAt_50 (by decide) ?_
      refine gx_icmp_ne (pc := 51) 84 d_Fitting_arriveAt_51 rfl (fun h8 => ?_) (fun h8 => ?_)
      · have hT := tx_ifn h8 hT
        refine gx_aload_n (pc := 84) 2 d_Fitting_arriveAt_84 rfl rfl ?_
        refine gx_getR (pc := 85) 16 fl_Fitting_9 d_Fitting_arriveAt_85 (rfl) (by decide) rfl ?_
        refine gx_iload_n (pc := 88) 1 d_Fitting_arriveAt_88 rfl rfl ?_
        obtain ⟨v9, gv9, iv9, hT⟩ := tx_rd_some hT
        refine gx_iald (pc := 89) v9 d_Fitting_arriveAt_89 (rfl) iv9 gv9 ?_
        refine gx_iload_n (pc := 90) 0 d_Fitting_arriveAt_90 rfl rfl ?_
        refine gx_icmp_eq (pc := 91) 99 d_Fitting_arriveAt_91 rfl (fun h10 => ?_) (fun h10 => ?_)
        · have hT := tx_ifp h10 hT
          refine gx_sub [] rfl ?_
          exact fx_Fitting_arriveAt_b99_w  σ5 _ hT
        · have hT := tx_ifn h10 hT
          refine gx_aload_n (pc := 94) 2 d_Fitting_arriveAt_94 rfl rfl ?_
          refine gx_iconst (pc := 95) (0 : Int32) d_Fitting_arriveAt_95 (by decide) ?_
          obtain ⟨σ11, gσ11, bσ11, hT⟩ := tx_pz_some hT
          refine gx_putZ (pc := 96) fp_Fitting_39 d_Fitting_arriveAt_96 (rfl) (by decide) rfl bσ11 ?_
          rw [gσ11]
          refine gx_sub [] rfl ?_
          exact fx_Fitting_arriveAt_b99_w  σ11 _ hT
      · have hT := tx_ifp h8 hT
        refine gx_aload_n (pc := 54) 2 d_Fitting_arriveAt_54 rfl rfl ?_
        refine gx_getR (pc := 55) 16 fl_Fitting_9 d_Fitting_arriveAt_55 (rfl) (by decide) rfl ?_
        refine gx_iload_n (pc := 58) 1 d_Fitting_arriveAt_58 rfl rfl ?_
        refine gx_iload_n (pc := 59) 0 d_Fitting_arriveAt_59 rfl rfl ?_
        obtain ⟨σ12, gσ12, iσ12, hT⟩ := tx_wr_some hT
        refine gx_iast (pc := 60) d_Fitting_arriveAt_60 (rfl) iσ12 ?_
        rw [gσ12]
        refine gx_aload_n (pc := 61) 2 d_Fitting_arriveAt_61 rfl rfl ?_
        refine gx_getR (pc := 62) 19 fl_Fitting_21 d_Fitting_arriveAt_62 (rfl) (by decide) rfl ?_
        refine gx_aload_n (pc := 65) 2 d_Fitting_arriveAt_65 rfl rfl ?_
        refine gx_getI (pc := 66) (σ12 15 5) fl_Fitting_35 d_Fitting_arriveAt_66 (rfl) (by decide) rfl rfl ?_
        refine gx_iload_n (pc := 69) 3 d_Fitting_arriveAt_69 rfl rfl ?_
        obtain ⟨σ13, gσ13, iσ13, hT⟩ := tx_wr_some hT
        refine gx_iast (pc := 70) d_Fitting_arriveAt_70 (rfl) iσ13 ?_
        rw [gσ13]
        refine gx_aload_n (pc := 71) 2 d_Fitting_arriveAt_71 rfl rfl ?_
        refine gx_dup (pc := 72) d_Fitting_arriveAt_72 rfl ?_
        refine gx_getI (pc := 73) (σ13 15 5) fl_Fitting_35 d_Fitting_arriveAt_73 (rfl) (by decide) rfl rfl ?_
        refine gx_iconst (pc := 76) (1 : Int32) d_Fitting_arriveAt_76 (by decide) ?_
        refine gx_iadd (pc := 77) d_Fitting_arriveAt_77 ?_
        obtain ⟨σ14, gσ14, hT⟩ := tx_pt_some hT
        refine gx_putI (pc := 78) fp_Fitting_35 d_Fitting_arriveAt_78 (rfl) (by decide) rfl ?_
        rw [gσ14]
        refine gx_goto (pc := 81) 99 d_Fitting_arriveAt_81 rfl ?_
        refine gx_sub [] rfl ?_
        exact fx_Fitting_arriveAt_b99_w  σ14 _ hT
    · have hT := tx_ifp h4 hT
      refine gx_aload_n (pc := 23) 0 d_Fitting_arriveAt_23 rfl rfl ?_
      refine gx_iconst (pc := 24) (0 : Int32) d_Fitting_arriveAt_24 (by decide) ?_
      obtain ⟨σ15, gσ15, bσ15, hT⟩ := tx_pz_some hT
      refine gx_putZ (pc := 25) fp_Fitting_39 d_Fitting_arriveAt_25 (rfl) (by decide) rfl bσ15 ?_
      rw [gσ15]
      cases hT
      exact gx_vret (pc := 28) d_Fitting_arriveAt_28 rfl rfl
  · have hT := tx_ifp h1 hT
    cases hT
    exact gx_vret (pc := 7) d_Fitting_arriveAt_7 rfl rfl
theorem d_Fitting_unpack_0 : decode c_Fitting_unpack 0 = .ok (.aload_n 0, 1) := by decide +kernel
theorem d_Fitting_unpack_1 : decode c_Fitting_unpack 1 = .ok (.iconst (0), 1) := by decide +kernel
theorem d_Fitting_unpack_2 : decode c_Fitting_unpack 2 = .ok (.putfield 68, 3) := by decide +kernel
theorem d_Fitting_unpack_5 : decode c_Fitting_unpack 5 = .ok (.iconst (0), 1) := by decide +kernel
theorem d_Fitting_unpack_6 : decode c_Fitting_unpack 6 = .ok (.istore_n 2, 1) := by decide +kernel
theorem d_Fitting_unpack_7 : decode c_Fitting_unpack 7 = .ok (.iload_n 2, 1) := by decide +kernel
theorem d_Fitting_unpack_8 : decode c_Fitting_unpack 8 = .ok (.iconst (4), 1) := by decide +kernel
theorem d_Fitting_unpack_9 : decode c_Fitting_unpack 9 = .ok (.if_icmp .ge (42), 3) := by decide +kernel
theorem d_Fitting_unpack_12 : decode c_Fitting_unpack 12 = .ok (.aload_n 0, 1) := by decide +kernel
theorem d_Fitting_unpack_13 : decode c_Fitting_unpack 13 = .ok (.getfield 15, 3) := by decide +kernel
theorem d_Fitting_unpack_16 : decode c_Fitting_unpack 16 = .ok (.iload_n 2, 1) := by decide +kernel
theorem d_Fitting_unpack_17 : decode c_Fitting_unpack 17 = .ok (.iload_n 1, 1) := by decide +kernel
theorem d_Fitting_unpack_18 : decode c_Fitting_unpack 18 = .ok (.iconst (4), 1) := by decide +kernel
theorem d_Fitting_unpack_19 : decode c_Fitting_unpack 19 = .ok (.iload_n 2, 1) := by decide +kernel
theorem d_Fitting_unpack_20 : decode c_Fitting_unpack 20 = .ok (.imul, 1) := by decide +kernel
theorem d_Fitting_unpack_21 : decode c_Fitting_unpack 21 = .ok (.ishr, 1) := by decide +kernel
theorem d_Fitting_unpack_22 : decode c_Fitting_unpack 22 = .ok (.bipush (15), 2) := by decide +kernel
theorem d_Fitting_unpack_24 : decode c_Fitting_unpack 24 = .ok (.iand, 1) := by decide +kernel
theorem d_Fitting_unpack_25 : decode c_Fitting_unpack 25 = .ok (.iconst (1), 1) := by decide +kernel
theorem d_Fitting_unpack_26 : decode c_Fitting_unpack 26 = .ok (.isub, 1) := by decide +kernel
theorem d_Fitting_unpack_27 : decode c_Fitting_unpack 27 = .ok (.iastore, 1) := by decide +kernel
theorem d_Fitting_unpack_28 : decode c_Fitting_unpack 28 = .ok (.aload_n 0, 1) := by decide +kernel
theorem d_Fitting_unpack_29 : decode c_Fitting_unpack 29 = .ok (.getfield 15, 3) := by decide +kernel
theorem d_Fitting_unpack_32 : decode c_Fitting_unpack 32 = .ok (.iload_n 2, 1) := by decide +kernel
theorem d_Fitting_unpack_33 : decode c_Fitting_unpack 33 = .ok (.iaload, 1) := by decide +kernel
theorem d_Fitting_unpack_34 : decode c_Fitting_unpack 34 = .ok (.iconst (-1), 1) := by decide +kernel
theorem d_Fitting_unpack_35 : decode c_Fitting_unpack 35 = .ok (.if_icmp .eq (10), 3) := by decide +kernel
theorem d_Fitting_unpack_38 : decode c_Fitting_unpack 38 = .ok (.aload_n 0, 1) := by decide +kernel
theorem d_Fitting_unpack_39 : decode c_Fitting_unpack 39 = .ok (.iload_n 2, 1) := by decide +kernel
theorem d_Fitting_unpack_40 : decode c_Fitting_unpack 40 = .ok (.iconst (1), 1) := by decide +kernel
theorem d_Fitting_unpack_41 : decode c_Fitting_unpack 41 = .ok (.iadd, 1) := by decide +kernel
theorem d_Fitting_unpack_42 : decode c_Fitting_unpack 42 = .ok (.putfield 68, 3) := by decide +kernel
theorem d_Fitting_unpack_45 : decode c_Fitting_unpack 45 = .ok (.iinc 2 (1), 3) := by decide +kernel
theorem d_Fitting_unpack_48 : decode c_Fitting_unpack 48 = .ok (.goto (-41), 3) := by decide +kernel
theorem d_Fitting_unpack_51 : decode c_Fitting_unpack 51 = .ok (.iconst (0), 1) := by decide +kernel
theorem d_Fitting_unpack_52 : decode c_Fitting_unpack 52 = .ok (.istore_n 2, 1) := by decide +kernel
theorem d_Fitting_unpack_53 : decode c_Fitting_unpack 53 = .ok (.iload_n 2, 1) := by decide +kernel
theorem d_Fitting_unpack_54 : decode c_Fitting_unpack 54 = .ok (.iconst (3), 1) := by decide +kernel
theorem d_Fitting_unpack_55 : decode c_Fitting_unpack 55 = .ok (.if_icmp .ge (28), 3) := by decide +kernel
theorem d_Fitting_unpack_58 : decode c_Fitting_unpack 58 = .ok (.aload_n 0, 1) := by decide +kernel
theorem d_Fitting_unpack_59 : decode c_Fitting_unpack 59 = .ok (.getfield 18, 3) := by decide +kernel
theorem d_Fitting_unpack_62 : decode c_Fitting_unpack 62 = .ok (.iload_n 2, 1) := by decide +kernel
theorem d_Fitting_unpack_63 : decode c_Fitting_unpack 63 = .ok (.iload_n 1, 1) := by decide +kernel
theorem d_Fitting_unpack_64 : decode c_Fitting_unpack 64 = .ok (.bipush (16), 2) := by decide +kernel
theorem d_Fitting_unpack_66 : decode c_Fitting_unpack 66 = .ok (.iconst (4), 1) := by decide +kernel
theorem d_Fitting_unpack_67 : decode c_Fitting_unpack 67 = .ok (.iload_n 2, 1) := by decide +kernel
theorem d_Fitting_unpack_68 : decode c_Fitting_unpack 68 = .ok (.imul, 1) := by decide +kernel
theorem d_Fitting_unpack_69 : decode c_Fitting_unpack 69 = .ok (.iadd, 1) := by decide +kernel
theorem d_Fitting_unpack_70 : decode c_Fitting_unpack 70 = .ok (.ishr, 1) := by decide +kernel
theorem d_Fitting_unpack_71 : decode c_Fitting_unpack 71 = .ok (.bipush (15), 2) := by decide +kernel
theorem d_Fitting_unpack_73 : decode c_Fitting_unpack 73 = .ok (.iand, 1) := by decide +kernel
theorem d_Fitting_unpack_74 : decode c_Fitting_unpack 74 = .ok (.iconst (1), 1) := by decide +kernel
theorem d_Fitting_unpack_75 : decode c_Fitting_unpack 75 = .ok (.isub, 1) := by decide +kernel
theorem d_Fitting_unpack_76 : decode c_Fitting_unpack 76 = .ok (.iastore, 1) := by decide +kernel
theorem d_Fitting_unpack_77 : decode c_Fitting_unpack 77 = .ok (.iinc 2 (1), 3) := by decide +kernel
theorem d_Fitting_unpack_80 : decode c_Fitting_unpack 80 = .ok (.goto (-27), 3) := by decide +kernel
theorem d_Fitting_unpack_83 : decode c_Fitting_unpack 83 = .ok (.return_, 1) := by decide +kernel
def fx_Fitting_unpack_b53 : Nat → tx_St → Int32 → Int32 → Option tx_St
  | 0, _, _, _ => none
  | n + 1, σ, x1, x2 => (if (3 : Int32) ≤ x2 then some σ else tx_wr σ 18 3 x2 (((x1 >>> (((16 : Int32) + ((4 : Int32) * x2)) &&& 31)) &&& (15 : Int32)) - (1 : Int32)) fun σ8 => fx_Fitting_unpack_b53 n σ8 x1 (x2 + (1 : Int32)))
def fx_Fitting_unpack_b45 (k7 : tx_St → Int32 → Int32 → Option tx_St) (σ : tx_St) (x1 : Int32) (x2 : Int32) : Option tx_St := k7 σ x1 (x2 + (1 : Int32))
def fx_Fitting_unpack_b7 : Nat → tx_St → Int32 → Int32 → Option tx_St
  | 0, _, _, _ => none
  | n + 1, σ, x1, x2 => (if (4 : Int32) ≤ x2 then fx_Fitting_unpack_b53  tx_fu σ x1 (0 : Int32) else tx_wr σ 17 4 x2 (((x1 >>> (((4 : Int32) * x2) &&& 31)) &&& (15 : Int32)) - (1 : Int32)) fun σ3 => tx_rd σ3 17 4 x2 fun v4 => (if v4 = (-1 : Int32) then fx_Fitting_unpack_b45 (fx_Fitting_unpack_b7 n) σ3 x1 x2 else tx_pt σ3 15 6 (x2 + (1 : Int32)) fun σ6 => fx_Fitting_unpack_b45 (fx_Fitting_unpack_b7 n) σ6 x1 x2))
def fx_Fitting_unpack (σ : tx_St) (x1 : Int32) : Option tx_St := tx_pt σ 15 6 (0 : Int32) fun σ1 => fx_Fitting_unpack_b7  tx_fu σ1 x1 (0 : Int32)
set_option maxRecDepth 100000 in
set_option maxHeartbeats 4000000 in
theorem fx_Fitting_unpack_b53_w {l : Launch} {E : tx_E} : ∀ (n : Nat) (σ : tx_St) (x1 : Int32) (x2 : Int32) (t : tx_St), fx_Fitting_unpack_b53 n σ x1 x2 = some t → gx l E mi_Fitting_unpack (none, t) σ [(0, .ref (E.1 15)), (1, .int x1), (2, .int x2)] 53 [] := by
  intro n
  induction n with
  | zero => intro σ x1 x2 t hT; cases hT
  | succ n ih =>
    intro σ x1 x2 t hT
    rw [fx_Fitting_unpack_b53] at hT
    refine gx_iload_n (pc := 53) 2 d_Fitting_unpack_53 rfl rfl ?_
    refine gx_iconst (pc := 54) (3 : Int32) d_Fitting_unpack_54 (by decide) ?_
    refine gx_icmp_ge (pc := 55) 83 d_Fitting_unpack_55 rfl (fun h7 => ?_) (fun h7 => ?_)
    · have hT := tx_ifp h7 hT
      cases hT
      exact gx_vret (pc := 83) d_Fitting_unpack_83 rfl rfl
    · have hT := tx_ifn h7 hT
      refine gx_aload_n (pc := 58) 0 d_Fitting_unpack_58 rfl rfl ?_
      refine gx_getR (pc := 59) 18 fl_Fitting_18 d_Fitting_unpack_59 (rfl) (by decide) rfl ?_
      refine gx_iload_n (pc := 62) 2 d_Fitting_unpack_62 rfl rfl ?_
      refine gx_iload_n (pc := 63) 1 d_Fitting_unpack_63 rfl rfl ?_
      refine gx_bipush (pc := 64) (16 : Int32) d_Fitting_unpack_64 (by decide) ?_
      refine gx_iconst (pc := 66) (4 : Int32) d_Fitting_unpack_66 (by decide) ?_
      refine gx_iload_n (pc := 67) 2 d_Fitting_unpack_67 rfl rfl ?_
      refine gx_imul (pc := 68) d_Fitting_unpack_68 ?_
      refine gx_iadd (pc := 69) d_Fitting_unpack_69 ?_
      refine gx_ishr (pc := 70) d_Fitting_unpack_70 ?_
      refine gx_bipush (pc := 71) (15 : Int32) d_Fitting_unpack_71 (by decide) ?_
      refine gx_iand (pc := 73) d_Fitting_unpack_73 ?_
      refine gx_iconst (pc := 74) (1 : Int32) d_Fitting_unpack_74 (by decide) ?_
      refine gx_isub (pc := 75) d_Fitting_unpack_75 ?_
      obtain ⟨σ8, gσ8, iσ8, hT⟩ := tx_wr_some hT
      refine gx_iast (pc := 76) d_Fitting_unpack_76 (rfl) iσ8 ?_
      rw [gσ8]
      refine gx_iinc (pc := 77) (x2 + (1 : Int32)) 2 [(2, .int (x2 + (1 : Int32))), (0, .ref (E.1 15)), (1, .int x1)] d_Fitting_unpack_77 rfl (tx_inc (by decide)) (Nat.le_of_ble_eq_true rfl) rfl ?_
      refine gx_goto (pc := 80) 53 d_Fitting_unpack_80 rfl ?_
      refine gx_sub [1, 2, 0] rfl ?_
      exact ih σ8 x1 (x2 + (1 : Int32)) _ hT
set_option maxRecDepth 100000 in
set_option maxHeartbeats 4000000 in
theorem fx_Fitting_unpack_b45_w {l : Launch} {E : tx_E} (k7 : tx_St → Int32 → Int32 → Option tx_St) (j7 : ∀ (σ : tx_St) (x1 : Int32) (x2 : Int32) (t : tx_St), k7 σ x1 x2 = some t → gx l E mi_Fitting_unpack (none, t) σ [(0, .ref (E.1 15)), (1, .int x1), (2, .int x2)] 7 []) (σ : tx_St) (x1 : Int32) (x2 : Int32) (t : tx_St) (hT : fx_Fitting_unpack_b45 k7 σ x1 x2 = some t) : gx l E mi_Fitting_unpack (none, t) σ [(0, .ref (E.1 15)), (1, .int x1), (2, .int x2)] 45 [] := by
  unfold fx_Fitting_unpack_b45 at hT
  refine gx_iinc (pc := 45) (x2 + (1 : Int32)) 2 [(2, .int (x2 + (1 : Int32))), (0, .ref (E.1 15)), (1, .int x1)] d_Fitting_unpack_45 rfl (tx_inc (by decide)) (Nat.le_of_ble_eq_true rfl) rfl ?_
  refine gx_goto (pc := 48) 7 d_Fitting_unpack_48 rfl ?_
  refine gx_sub [1, 2, 0] rfl ?_
  exact j7 σ x1 (x2 + (1 : Int32)) _ hT
set_option maxRecDepth 100000 in
set_option maxHeartbeats 4000000 in
theorem fx_Fitting_unpack_b7_w {l : Launch} {E : tx_E} : ∀ (n : Nat) (σ : tx_St) (x1 : Int32) (x2 : Int32) (t : tx_St), fx_Fitting_unpack_b7 n σ x1 x2 = some t → gx l E mi_Fitting_unpack (none, t) σ [(0, .ref (E.1 15)), (1, .int x1), (2, .int x2)] 7 [] := by
  intro n
  induction n with
  | zero => intro σ x1 x2 t hT; cases hT
  | succ n ih =>
    intro σ x1 x2 t hT
    rw [fx_Fitting_unpack_b7] at hT
    refine gx_iload_n (pc := 7) 2 d_Fitting_unpack_7 rfl rfl ?_
    refine gx_iconst (pc := 8) (4 : Int32) d_Fitting_unpack_8 (by decide) ?_
    refine gx_icmp_ge (pc := 9) 51 d_Fitting_unpack_9 rfl (fun h2 => ?_) (fun h2 => ?_)
    · have hT := tx_ifp h2 hT
      refine gx_iconst (pc := 51) (0 : Int32) d_Fitting_unpack_51 (by decide) ?_
      refine gx_istore_n (pc := 52) [(2, .int (0 : Int32)), (0, .ref (E.1 15)), (1, .int x1)] d_Fitting_unpack_52 rfl (Nat.le_of_ble_eq_true rfl) rfl ?_
      refine gx_sub [1, 2, 0] rfl ?_
      exact fx_Fitting_unpack_b53_w  tx_fu σ x1 (0 : Int32) _ hT
    · have hT := tx_ifn h2 hT
      refine gx_aload_n (pc := 12) 0 d_Fitting_unpack_12 rfl rfl ?_
      refine gx_getR (pc := 13) 17 fl_Fitting_15 d_Fitting_unpack_13 (rfl) (by decide) rfl ?_
      refine gx_iload_n (pc := 16) 2 d_Fitting_unpack_16 rfl rfl ?_
      refine gx_iload_n (pc := 17) 1 d_Fitting_unpack_17 rfl rfl ?_
      refine gx_iconst (pc := 18) (4 : Int32) d_Fitting_unpack_18 (by decide) ?_
      refine gx_iload_n (pc := 19) 2 d_Fitting_unpack_19 rfl rfl ?_
      refine gx_imul (pc := 20) d_Fitting_unpack_20 ?_
      refine gx_ishr (pc := 21) d_Fitting_unpack_21 ?_
      refine gx_bipush (pc := 22) (15 : Int32) d_Fitting_unpack_22 (by decide) ?_
      refine gx_iand (pc := 24) d_Fitting_unpack_24 ?_
      refine gx_iconst (pc := 25) (1 : Int32) d_Fitting_unpack_25 (by decide) ?_
      refine gx_isub (pc := 26) d_Fitting_unpack_26 ?_
      obtain ⟨σ3, gσ3, iσ3, hT⟩ := tx_wr_some hT
      refine gx_iast (pc := 27) d_Fitting_unpack_27 (rfl) iσ3 ?_
      rw [gσ3]
      refine gx_aload_n (pc := 28) 0 d_Fitting_unpack_28 rfl rfl ?_
      refine gx_getR (pc := 29) 17 fl_Fitting_15 d_Fitting_unpack_29 (rfl) (by decide) rfl ?_
      refine gx_iload_n (pc := 32) 2 d_Fitting_unpack_32 rfl rfl ?_
      obtain ⟨v4, gv4, iv4, hT⟩ := tx_rd_some hT
      refine gx_iald (pc := 33) v4 d_Fitting_unpack_33 (rfl) iv4 gv4 ?_
      refine gx_iconst (pc := 34) (-1 : Int32) d_Fitting_unpack_34 (by decide) ?_
      refine gx_icmp_eq (pc := 35) 45 d_Fitting_unpack_35 rfl (fun h5 => ?_) (fun h5 => ?_)
      · have hT := tx_ifp h5 hT
        exact fx_Fitting_unpack_b45_w (fx_Fitting_unpack_b7 n) (ih) σ3 x1 x2 _ hT
      · have hT := tx_ifn h5 hT
        refine gx_aload_n (pc := 38) 0 d_Fitting_unpack_38 rfl rfl ?_
        refine gx_iload_n (pc := 39) 2 d_Fitting_unpack_39 rfl rfl ?_
        refine gx_iconst (pc := 40) (1 : Int32) d_Fitting_unpack_40 (by decide) ?_
        refine gx_iadd (pc := 41) d_Fitting_unpack_41 ?_
        obtain ⟨σ6, gσ6, hT⟩ := tx_pt_some hT
        refine gx_putI (pc := 42) fp_Fitting_68 d_Fitting_unpack_42 (rfl) (by decide) rfl ?_
        rw [gσ6]
        exact fx_Fitting_unpack_b45_w (fx_Fitting_unpack_b7 n) (ih) σ6 x1 x2 _ hT
set_option maxRecDepth 100000 in
set_option maxHeartbeats 4000000 in
theorem fx_Fitting_unpack_c (l : Launch) (E : tx_E) (σ : tx_St) (x1 : Int32) (t : tx_St) (hT : fx_Fitting_unpack σ x1 = some t) : tx_MX l E y_Fitting_unpack mi_Fitting_unpack (none, t) [.ref (E.1 15), .int x1] σ := by
  refine tx_MX_of (by decide) rfl (Nat.le_of_ble_eq_true rfl) ?_
  show gx l E mi_Fitting_unpack (none, t) σ [(0, .ref (E.1 15)), (1, .int x1)] 0 []
  unfold fx_Fitting_unpack at hT
  refine gx_aload_n (pc := 0) 0 d_Fitting_unpack_0 rfl rfl ?_
  refine gx_iconst (pc := 1) (0 : Int32) d_Fitting_unpack_1 (by decide) ?_
  obtain ⟨σ1, gσ1, hT⟩ := tx_pt_some hT
  refine gx_putI (pc := 2) fp_Fitting_68 d_Fitting_unpack_2 (rfl) (by decide) rfl ?_
  rw [gσ1]
  refine gx_iconst (pc := 5) (0 : Int32) d_Fitting_unpack_5 (by decide) ?_
  refine gx_istore_n (pc := 6) [(2, .int (0 : Int32)), (0, .ref (E.1 15)), (1, .int x1)] d_Fitting_unpack_6 rfl (Nat.le_of_ble_eq_true rfl) rfl ?_
  refine gx_sub [1, 2, 0] rfl ?_
  exact fx_Fitting_unpack_b7_w  tx_fu σ1 x1 (0 : Int32) _ hT
theorem d_Fitting_put_0 : decode c_Fitting_put 0 = .ok (.aload_n 0, 1) := by decide +kernel
theorem d_Fitting_put_1 : decode c_Fitting_put 1 = .ok (.getfield 68, 3) := by decide +kernel
theorem d_Fitting_put_4 : decode c_Fitting_put 4 = .ok (.iconst (4), 1) := by decide +kernel
theorem d_Fitting_put_5 : decode c_Fitting_put 5 = .ok (.if_icmp .ne (9), 3) := by decide +kernel
theorem d_Fitting_put_8 : decode c_Fitting_put 8 = .ok (.aload_n 0, 1) := by decide +kernel
theorem d_Fitting_put_9 : decode c_Fitting_put 9 = .ok (.iconst (0), 1) := by decide +kernel
theorem d_Fitting_put_10 : decode c_Fitting_put 10 = .ok (.putfield 39, 3) := by decide +kernel
theorem d_Fitting_put_13 : decode c_Fitting_put 13 = .ok (.return_, 1) := by decide +kernel
theorem d_Fitting_put_14 : decode c_Fitting_put 14 = .ok (.aload_n 0, 1) := by decide +kernel
theorem d_Fitting_put_15 : decode c_Fitting_put 15 = .ok (.getfield 15, 3) := by decide +kernel
theorem d_Fitting_put_18 : decode c_Fitting_put 18 = .ok (.aload_n 0, 1) := by decide +kernel
theorem d_Fitting_put_19 : decode c_Fitting_put 19 = .ok (.getfield 68, 3) := by decide +kernel
theorem d_Fitting_put_22 : decode c_Fitting_put 22 = .ok (.iload_n 1, 1) := by decide +kernel
theorem d_Fitting_put_23 : decode c_Fitting_put 23 = .ok (.iastore, 1) := by decide +kernel
theorem d_Fitting_put_24 : decode c_Fitting_put 24 = .ok (.aload_n 0, 1) := by decide +kernel
theorem d_Fitting_put_25 : decode c_Fitting_put 25 = .ok (.dup, 1) := by decide +kernel
theorem d_Fitting_put_26 : decode c_Fitting_put 26 = .ok (.getfield 68, 3) := by decide +kernel
theorem d_Fitting_put_29 : decode c_Fitting_put 29 = .ok (.iconst (1), 1) := by decide +kernel
theorem d_Fitting_put_30 : decode c_Fitting_put 30 = .ok (.iadd, 1) := by decide +kernel
theorem d_Fitting_put_31 : decode c_Fitting_put 31 = .ok (.putfield 68, 3) := by decide +kernel
theorem d_Fitting_put_34 : decode c_Fitting_put 34 = .ok (.return_, 1) := by decide +kernel
def fx_Fitting_put (σ : tx_St) (x1 : Int32) : Option tx_St := (if (σ 15 6) = (4 : Int32) then tx_pz σ 15 8 (0 : Int32) fun σ4 => some σ4 else tx_wr σ 17 4 (σ 15 6) x1 fun σ2 => tx_pt σ2 15 6 ((σ2 15 6) + (1 : Int32)) fun σ3 => some σ3)
set_option maxRecDepth 100000 in
set_option maxHeartbeats 4000000 in
theorem fx_Fitting_put_c (l : Launch) (E : tx_E) (σ : tx_St) (x1 : Int32) (t : tx_St) (hT : fx_Fitting_put σ x1 = some t) : tx_MX l E y_Fitting_put mi_Fitting_put (none, t) [.ref (E.1 15), .int x1] σ := by
  refine tx_MX_of (by decide) rfl (Nat.le_of_ble_eq_true rfl) ?_
  show gx l E mi_Fitting_put (none, t) σ [(0, .ref (E.1 15)), (1, .int x1)] 0 []
  unfold fx_Fitting_put at hT
  refine gx_aload_n (pc := 0) 0 d_Fitting_put_0 rfl rfl ?_
  refine gx_getI (pc := 1) (σ 15 6) fl_Fitting_68 d_Fitting_put_1 (rfl) (by decide) rfl rfl ?_
  refine gx_iconst (pc := 4) (4 : Int32) d_Fitting_put_4 (by decide) ?_
  refine gx_icmp_ne (pc := 5) 14 d_Fitting_put_5 rfl (fun h1 => ?_) (fun h1 => ?_)
  · have hT := tx_ifn h1 hT
    refine gx_aload_n (pc := 14) 0 d_Fitting_put_14 rfl rfl ?_
    refine gx_getR (pc := 15) 17 fl_Fitting_15 d_Fitting_put_15 (rfl) (by decide) rfl ?_
    refine gx_aload_n (pc := 18) 0 d_Fitting_put_18 rfl rfl ?_
    refine gx_getI (pc := 19) (σ 15 6) fl_Fitting_68 d_Fitting_put_19 (rfl) (by decide) rfl rfl ?_
    refine gx_iload_n (pc := 22) 1 d_Fitting_put_22 rfl rfl ?_
    obtain ⟨σ2, gσ2, iσ2, hT⟩ := tx_wr_some hT
    refine gx_iast (pc := 23) d_Fitting_put_23 (rfl) iσ2 ?_
    rw [gσ2]
    refine gx_aload_n (pc := 24) 0 d_Fitting_put_24 rfl rfl ?_
    refine gx_dup (pc := 25) d_Fitting_put_25 rfl ?_
    refine gx_getI (pc := 26) (σ2 15 6) fl_Fitting_68 d_Fitting_put_26 (rfl) (by decide) rfl rfl ?_
    refine gx_iconst (pc := 29) (1 : Int32) d_Fitting_put_29 (by decide) ?_
    refine gx_iadd (pc := 30) d_Fitting_put_30 ?_
    obtain ⟨σ3, gσ3, hT⟩ := tx_pt_some hT
    refine gx_putI (pc := 31) fp_Fitting_68 d_Fitting_put_31 (rfl) (by decide) rfl ?_
    rw [gσ3]
    cases hT
    exact gx_vret (pc := 34) d_Fitting_put_34 rfl rfl
  · have hT := tx_ifp h1 hT
    refine gx_aload_n (pc := 8) 0 d_Fitting_put_8 rfl rfl ?_
    refine gx_iconst (pc := 9) (0 : Int32) d_Fitting_put_9 (by decide) ?_
    obtain ⟨σ4, gσ4, bσ4, hT⟩ := tx_pz_some hT
    refine gx_putZ (pc := 10) fp_Fitting_39 d_Fitting_put_10 (rfl) (by decide) rfl bσ4 ?_
    rw [gσ4]
    cases hT
    exact gx_vret (pc := 13) d_Fitting_put_13 rfl rfl
theorem d_Fitting_demand_0 : decode c_Fitting_demand 0 = .ok (.iload_n 1, 1) := by decide +kernel
theorem d_Fitting_demand_1 : decode c_Fitting_demand 1 = .ok (.ifCond .ne (8), 3) := by decide +kernel
theorem d_Fitting_demand_4 : decode c_Fitting_demand 4 = .ok (.aload_n 0, 1) := by decide +kernel
theorem d_Fitting_demand_5 : decode c_Fitting_demand 5 = .ok (.iconst (0), 1) := by decide +kernel
theorem d_Fitting_demand_6 : decode c_Fitting_demand 6 = .ok (.putfield 39, 3) := by decide +kernel
theorem d_Fitting_demand_9 : decode c_Fitting_demand 9 = .ok (.return_, 1) := by decide +kernel
def fx_Fitting_demand_b9 (σ : tx_St) : Option tx_St := some σ
def fx_Fitting_demand (σ : tx_St) (x1 : Int32) : Option tx_St := (if x1 = 0 then tx_pz σ 15 8 (0 : Int32) fun σ2 => fx_Fitting_demand_b9  σ2 else fx_Fitting_demand_b9  σ)
set_option maxRecDepth 100000 in
set_option maxHeartbeats 4000000 in
theorem fx_Fitting_demand_b9_w {l : Launch} {E : tx_E} (σ : tx_St) (t : tx_St) (hT : fx_Fitting_demand_b9 σ  = some t) : gx l E mi_Fitting_demand (none, t) σ [] 9 [] := by
  unfold fx_Fitting_demand_b9 at hT
  cases hT
  exact gx_vret (pc := 9) d_Fitting_demand_9 rfl rfl
set_option maxRecDepth 100000 in
set_option maxHeartbeats 4000000 in
theorem fx_Fitting_demand_c (l : Launch) (E : tx_E) (σ : tx_St) (x1 : Int32) (t : tx_St) (hT : fx_Fitting_demand σ x1 = some t) : tx_MX l E y_Fitting_demand mi_Fitting_demand (none, t) [.ref (E.1 15), .int x1] σ := by
  refine tx_MX_of (by decide) rfl (Nat.le_of_ble_eq_true rfl) ?_
  show gx l E mi_Fitting_demand (none, t) σ [(0, .ref (E.1 15)), (1, .int x1)] 0 []
  unfold fx_Fitting_demand at hT
  refine gx_iload_n (pc := 0) 1 d_Fitting_demand_0 rfl rfl ?_
  refine gx_if_ne (pc := 1) 9 d_Fitting_demand_1 rfl (fun h1 => ?_) (fun h1 => ?_)
  · have hT := tx_ifn h1 hT
    refine gx_sub [] rfl ?_
    exact fx_Fitting_demand_b9_w  σ _ hT
  · have hT := tx_ifp h1 hT
    refine gx_aload_n (pc := 4) 0 d_Fitting_demand_4 rfl rfl ?_
    refine gx_iconst (pc := 5) (0 : Int32) d_Fitting_demand_5 (by decide) ?_
    obtain ⟨σ2, gσ2, bσ2, hT⟩ := tx_pz_some hT
    refine gx_putZ (pc := 6) fp_Fitting_39 d_Fitting_demand_6 (rfl) (by decide) rfl bσ2 ?_
    rw [gσ2]
    refine gx_sub [] rfl ?_
    exact fx_Fitting_demand_b9_w  σ2 _ hT
theorem d_Fitting_load_0 : decode c_Fitting_load 0 = .ok (.aload_n 0, 1) := by decide +kernel
theorem d_Fitting_load_1 : decode c_Fitting_load 1 = .ok (.iload_n 1, 1) := by decide +kernel
theorem d_Fitting_load_2 : decode c_Fitting_load 2 = .ok (.ifCond .lt (22), 3) := by decide +kernel
theorem d_Fitting_load_5 : decode c_Fitting_load 5 = .ok (.iload_n 1, 1) := by decide +kernel
theorem d_Fitting_load_6 : decode c_Fitting_load 6 = .ok (.iconst (3), 1) := by decide +kernel
theorem d_Fitting_load_7 : decode c_Fitting_load 7 = .ok (.if_icmp .ge (17), 3) := by decide +kernel
theorem d_Fitting_load_10 : decode c_Fitting_load 10 = .ok (.aload_n 0, 1) := by decide +kernel
theorem d_Fitting_load_11 : decode c_Fitting_load 11 = .ok (.getfield 18, 3) := by decide +kernel
theorem d_Fitting_load_14 : decode c_Fitting_load 14 = .ok (.iload_n 1, 1) := by decide +kernel
theorem d_Fitting_load_15 : decode c_Fitting_load 15 = .ok (.iaload, 1) := by decide +kernel
theorem d_Fitting_load_16 : decode c_Fitting_load 16 = .ok (.iconst (-1), 1) := by decide +kernel
theorem d_Fitting_load_17 : decode c_Fitting_load 17 = .ok (.if_icmp .eq (7), 3) := by decide +kernel
theorem d_Fitting_load_20 : decode c_Fitting_load 20 = .ok (.iconst (1), 1) := by decide +kernel
theorem d_Fitting_load_21 : decode c_Fitting_load 21 = .ok (.goto (4), 3) := by decide +kernel
theorem d_Fitting_load_24 : decode c_Fitting_load 24 = .ok (.iconst (0), 1) := by decide +kernel
theorem d_Fitting_load_25 : decode c_Fitting_load 25 = .ok (.invokevirtual 131, 3) := by decide +kernel
theorem d_Fitting_load_28 : decode c_Fitting_load 28 = .ok (.aload_n 0, 1) := by decide +kernel
theorem d_Fitting_load_29 : decode c_Fitting_load 29 = .ok (.getfield 39, 3) := by decide +kernel
theorem d_Fitting_load_32 : decode c_Fitting_load 32 = .ok (.ifCond .eq (13), 3) := by decide +kernel
theorem d_Fitting_load_35 : decode c_Fitting_load 35 = .ok (.aload_n 0, 1) := by decide +kernel
theorem d_Fitting_load_36 : decode c_Fitting_load 36 = .ok (.aload_n 0, 1) := by decide +kernel
theorem d_Fitting_load_37 : decode c_Fitting_load 37 = .ok (.getfield 18, 3) := by decide +kernel
theorem d_Fitting_load_40 : decode c_Fitting_load 40 = .ok (.iload_n 1, 1) := by decide +kernel
theorem d_Fitting_load_41 : decode c_Fitting_load 41 = .ok (.iaload, 1) := by decide +kernel
theorem d_Fitting_load_42 : decode c_Fitting_load 42 = .ok (.invokevirtual 101, 3) := by decide +kernel
theorem d_Fitting_load_45 : decode c_Fitting_load 45 = .ok (.return_, 1) := by decide +kernel
def fx_Fitting_load_b45 (σ : tx_St) : Option tx_St := some σ
def fx_Fitting_load_b25 (σ : tx_St) (x1 : Int32) (s0 : Int32) : Option tx_St := tx_cv (fx_Fitting_demand σ s0) fun σ5 => (if (σ5 15 8) = 0 then fx_Fitting_load_b45  σ5 else tx_rd σ5 18 3 x1 fun v7 => tx_cv (fx_Fitting_put σ5 v7) fun σ8 => fx_Fitting_load_b45  σ8)
def fx_Fitting_load_b24 (σ : tx_St) (x1 : Int32) : Option tx_St := fx_Fitting_load_b25  σ x1 (0 : Int32)
def fx_Fitting_load (σ : tx_St) (x1 : Int32) : Option tx_St := (if x1 < 0 then fx_Fitting_load_b24  σ x1 else (if (3 : Int32) ≤ x1 then fx_Fitting_load_b24  σ x1 else tx_rd σ 18 3 x1 fun v3 => (if v3 = (-1 : Int32) then fx_Fitting_load_b24  σ x1 else fx_Fitting_load_b25  σ x1 (1 : Int32))))
set_option maxRecDepth 100000 in
set_option maxHeartbeats 4000000 in
theorem fx_Fitting_load_b45_w {l : Launch} {E : tx_E} (σ : tx_St) (t : tx_St) (hT : fx_Fitting_load_b45 σ  = some t) : gx l E mi_Fitting_load (none, t) σ [] 45 [] := by
  unfold fx_Fitting_load_b45 at hT
  cases hT
  exact gx_vret (pc := 45) d_Fitting_load_45 rfl rfl
set_option maxRecDepth 100000 in
set_option maxHeartbeats 4000000 in
theorem fx_Fitting_load_b25_w {l : Launch} {E : tx_E} (σ : tx_St) (x1 : Int32) (s0 : Int32) (t : tx_St) (hT : fx_Fitting_load_b25 σ x1 s0 = some t) : gx l E mi_Fitting_load (none, t) σ [(0, .ref (E.1 15)), (1, .int x1)] 25 [.int s0, .ref (E.1 15)] := by
  unfold fx_Fitting_load_b25 at hT
  obtain ⟨σ5, cσ5, hT⟩ := tx_cv_some hT
  refine gx_callV (pc := 25) (As := [.int s0]) (rest := []) cm_Fitting_demand lk_Fitting_131 (fx_Fitting_demand_c l E σ s0 _ cσ5) (rfl) (by decide) rfl rfl tx_fi_Fitting_load_Fitting_demand (Nat.le_of_ble_eq_true rfl) d_Fitting_load_25 ?_
  change gx l E mi_Fitting_load _ σ5 [(0, .ref (E.1 15)), (1, .int x1)] 28 []
  refine gx_aload_n (pc := 28) 0 d_Fitting_load_28 rfl rfl ?_
  refine gx_getI (pc := 29) (σ5 15 8) fl_Fitting_39 d_Fitting_load_29 (rfl) (by decide) rfl rfl ?_
  refine gx_if_eq (pc := 32) 45 d_Fitting_load_32 rfl (fun h6 => ?_) (fun h6 => ?_)
  · have hT := tx_ifp h6 hT
    refine gx_sub [] rfl ?_
    exact fx_Fitting_load_b45_w  σ5 _ hT
  · have hT := tx_ifn h6 hT
    refine gx_aload_n (pc := 35) 0 d_Fitting_load_35 rfl rfl ?_
    refine gx_aload_n (pc := 36) 0 d_Fitting_load_36 rfl rfl ?_
    refine gx_getR (pc := 37) 18 fl_Fitting_18 d_Fitting_load_37 (rfl) (by decide) rfl ?_
    refine gx_iload_n (pc := 40) 1 d_Fitting_load_40 rfl rfl ?_
    obtain ⟨v7, gv7, iv7, hT⟩ := tx_rd_some hT
    refine gx_iald (pc := 41) v7 d_Fitting_load_41 (rfl) iv7 gv7 ?_
    obtain ⟨σ8, cσ8, hT⟩ := tx_cv_some hT
    refine gx_callV (pc := 42) (As := [.int v7]) (rest := []) cm_Fitting_put lk_Fitting_101 (fx_Fitting_put_c l E σ5 v7 _ cσ8) (rfl) (by decide) rfl rfl tx_fi_Fitting_load_Fitting_put (Nat.le_of_ble_eq_true rfl) d_Fitting_load_42 ?_
    change gx l E mi_Fitting_load _ σ8 [(0, .ref (E.1 15)), (1, .int x1)] 45 []
    refine gx_sub [] rfl ?_
    exact fx_Fitting_load_b45_w  σ8 _ hT
set_option maxRecDepth 100000 in
set_option maxHeartbeats 4000000 in
theorem fx_Fitting_load_b24_w {l : Launch} {E : tx_E} (σ : tx_St) (x1 : Int32) (t : tx_St) (hT : fx_Fitting_load_b24 σ x1 = some t) : gx l E mi_Fitting_load (none, t) σ [(0, .ref (E.1 15)), (1, .int x1)] 24 [.ref (E.1 15)] := by
  unfold fx_Fitting_load_b24 at hT
  refine gx_iconst (pc := 24) (0 : Int32) d_Fitting_load_24 (by decide) ?_
  exact fx_Fitting_load_b25_w  σ x1 (0 : Int32) _ hT
set_option maxRecDepth 100000 in
set_option maxHeartbeats 4000000 in
theorem fx_Fitting_load_c (l : Launch) (E : tx_E) (σ : tx_St) (x1 : Int32) (t : tx_St) (hT : fx_Fitting_load σ x1 = some t) : tx_MX l E y_Fitting_load mi_Fitting_load (none, t) [.ref (E.1 15), .int x1] σ := by
  refine tx_MX_of (by decide) rfl (Nat.le_of_ble_eq_true rfl) ?_
  show gx l E mi_Fitting_load (none, t) σ [(0, .ref (E.1 15)), (1, .int x1)] 0 []
  unfold fx_Fitting_load at hT
  refine gx_aload_n (pc := 0) 0 d_Fitting_load_0 rfl rfl ?_
  refine gx_iload_n (pc := 1) 1 d_Fitting_load_1 rfl rfl ?_
  refine gx_if_lt (pc := 2) 24 d_Fitting_load_2 rfl (fun h1 => ?_) (fun h1 => ?_)
  · have hT := tx_ifp h1 hT
    exact fx_Fitting_load_b24_w  σ x1 _ hT
  · have hT := tx_ifn h1 hT
    refine gx_iload_n (pc := 5) 1 d_Fitting_load_5 rfl rfl ?_
    refine gx_iconst (pc := 6) (3 : Int32) d_Fitting_load_6 (by decide) ?_
    refine gx_icmp_ge (pc := 7) 24 d_Fitting_load_7 rfl (fun h2 => ?_) (fun h2 => ?_)
    · have hT := tx_ifp h2 hT
      exact fx_Fitting_load_b24_w  σ x1 _ hT
    · have hT := tx_ifn h2 hT
      refine gx_aload_n (pc := 10) 0 d_Fitting_load_10 rfl rfl ?_
      refine gx_getR (pc := 11) 18 fl_Fitting_18 d_Fitting_load_11 (rfl) (by decide) rfl ?_
      refine gx_iload_n (pc := 14) 1 d_Fitting_load_14 rfl rfl ?_
      obtain ⟨v3, gv3, iv3, hT⟩ := tx_rd_some hT
      refine gx_iald (pc := 15) v3 d_Fitting_load_15 (rfl) iv3 gv3 ?_
      refine gx_iconst (pc := 16) (-1 : Int32) d_Fitting_load_16 (by decide) ?_
      refine gx_icmp_eq (pc := 17) 24 d_Fitting_load_17 rfl (fun h4 => ?_) (fun h4 => ?_)
      · have hT := tx_ifp h4 hT
        exact fx_Fitting_load_b24_w  σ x1 _ hT
      · have hT := tx_ifn h4 hT
        refine gx_iconst (pc := 20) (1 : Int32) d_Fitting_load_20 (by decide) ?_
        refine gx_goto (pc := 21) 25 d_Fitting_load_21 rfl ?_
        exact fx_Fitting_load_b25_w  σ x1 (1 : Int32) _ hT
theorem d_Fitting_takeAny_0 : decode c_Fitting_takeAny 0 = .ok (.aload_n 0, 1) := by decide +kernel
theorem d_Fitting_takeAny_1 : decode c_Fitting_takeAny 1 = .ok (.getfield 68, 3) := by decide +kernel
theorem d_Fitting_takeAny_4 : decode c_Fitting_takeAny 4 = .ok (.ifCond .ne (10), 3) := by decide +kernel
theorem d_Fitting_takeAny_7 : decode c_Fitting_takeAny 7 = .ok (.aload_n 0, 1) := by decide +kernel
theorem d_Fitting_takeAny_8 : decode c_Fitting_takeAny 8 = .ok (.iconst (0), 1) := by decide +kernel
theorem d_Fitting_takeAny_9 : decode c_Fitting_takeAny 9 = .ok (.putfield 39, 3) := by decide +kernel
theorem d_Fitting_takeAny_12 : decode c_Fitting_takeAny 12 = .ok (.iconst (-1), 1) := by decide +kernel
theorem d_Fitting_takeAny_13 : decode c_Fitting_takeAny 13 = .ok (.ireturn, 1) := by decide +kernel
theorem d_Fitting_takeAny_14 : decode c_Fitting_takeAny 14 = .ok (.aload_n 0, 1) := by decide +kernel
theorem d_Fitting_takeAny_15 : decode c_Fitting_takeAny 15 = .ok (.dup, 1) := by decide +kernel
theorem d_Fitting_takeAny_16 : decode c_Fitting_takeAny 16 = .ok (.getfield 68, 3) := by decide +kernel
theorem d_Fitting_takeAny_19 : decode c_Fitting_takeAny 19 = .ok (.iconst (1), 1) := by decide +kernel
theorem d_Fitting_takeAny_20 : decode c_Fitting_takeAny 20 = .ok (.isub, 1) := by decide +kernel
theorem d_Fitting_takeAny_21 : decode c_Fitting_takeAny 21 = .ok (.putfield 68, 3) := by decide +kernel
theorem d_Fitting_takeAny_24 : decode c_Fitting_takeAny 24 = .ok (.aload_n 0, 1) := by decide +kernel
theorem d_Fitting_takeAny_25 : decode c_Fitting_takeAny 25 = .ok (.getfield 15, 3) := by decide +kernel
theorem d_Fitting_takeAny_28 : decode c_Fitting_takeAny 28 = .ok (.aload_n 0, 1) := by decide +kernel
theorem d_Fitting_takeAny_29 : decode c_Fitting_takeAny 29 = .ok (.getfield 68, 3) := by decide +kernel
theorem d_Fitting_takeAny_32 : decode c_Fitting_takeAny 32 = .ok (.iaload, 1) := by decide +kernel
theorem d_Fitting_takeAny_33 : decode c_Fitting_takeAny 33 = .ok (.ireturn, 1) := by decide +kernel
def fx_Fitting_takeAny (σ : tx_St) : Option (Int32 × tx_St) := (if (σ 15 6) = 0 then tx_pz σ 15 8 (0 : Int32) fun σ4 => some ((-1 : Int32), σ4) else tx_pt σ 15 6 ((σ 15 6) - (1 : Int32)) fun σ2 => tx_rd σ2 17 4 (σ2 15 6) fun v3 => some (v3, σ2))
set_option maxRecDepth 100000 in
set_option maxHeartbeats 4000000 in
theorem fx_Fitting_takeAny_c (l : Launch) (E : tx_E) (σ : tx_St) (t : Int32 × tx_St) (hT : fx_Fitting_takeAny σ  = some t) : tx_MX l E y_Fitting_takeAny mi_Fitting_takeAny (some (.int t.1), t.2) [.ref (E.1 15)] σ := by
  refine tx_MX_of (by decide) rfl (Nat.le_of_ble_eq_true rfl) ?_
  show gx l E mi_Fitting_takeAny (some (.int t.1), t.2) σ [(0, .ref (E.1 15))] 0 []
  unfold fx_Fitting_takeAny at hT
  refine gx_aload_n (pc := 0) 0 d_Fitting_takeAny_0 rfl rfl ?_
  refine gx_getI (pc := 1) (σ 15 6) fl_Fitting_68 d_Fitting_takeAny_1 (rfl) (by decide) rfl rfl ?_
  refine gx_if_ne (pc := 4) 14 d_Fitting_takeAny_4 rfl (fun h1 => ?_) (fun h1 => ?_)
  · have hT := tx_ifn h1 hT
    refine gx_aload_n (pc := 14) 0 d_Fitting_takeAny_14 rfl rfl ?_
    refine gx_dup (pc := 15) d_Fitting_takeAny_15 rfl ?_
    refine gx_getI (pc := 16) (σ 15 6) fl_Fitting_68 d_Fitting_takeAny_16 (rfl) (by decide) rfl rfl ?_
    refine gx_iconst (pc := 19) (1 : Int32) d_Fitting_takeAny_19 (by decide) ?_
    refine gx_isub (pc := 20) d_Fitting_takeAny_20 ?_
    obtain ⟨σ2, gσ2, hT⟩ := tx_pt_some hT
    refine gx_putI (pc := 21) fp_Fitting_68 d_Fitting_takeAny_21 (rfl) (by decide) rfl ?_
    rw [gσ2]
    refine gx_aload_n (pc := 24) 0 d_Fitting_takeAny_24 rfl rfl ?_
    refine gx_getR (pc := 25) 17 fl_Fitting_15 d_Fitting_takeAny_25 (rfl) (by decide) rfl ?_
    refine gx_aload_n (pc := 28) 0 d_Fitting_takeAny_28 rfl rfl ?_
    refine gx_getI (pc := 29) (σ2 15 6) fl_Fitting_68 d_Fitting_takeAny_29 (rfl) (by decide) rfl rfl ?_
    obtain ⟨v3, gv3, iv3, hT⟩ := tx_rd_some hT
    refine gx_iald (pc := 32) v3 d_Fitting_takeAny_32 (rfl) iv3 gv3 ?_
    cases hT
    exact gx_iret (pc := 33) d_Fitting_takeAny_33 rfl rfl
  · have hT := tx_ifp h1 hT
    refine gx_aload_n (pc := 7) 0 d_Fitting_takeAny_7 rfl rfl ?_
    refine gx_iconst (pc := 8) (0 : Int32) d_Fitting_takeAny_8 (by decide) ?_
    obtain ⟨σ4, gσ4, bσ4, hT⟩ := tx_pz_some hT
    refine gx_putZ (pc := 9) fp_Fitting_39 d_Fitting_takeAny_9 (rfl) (by decide) rfl bσ4 ?_
    rw [gσ4]
    refine gx_iconst (pc := 12) (-1 : Int32) d_Fitting_takeAny_12 (by decide) ?_
    cases hT
    exact gx_iret (pc := 13) d_Fitting_takeAny_13 rfl rfl
theorem d_Fitting_store_0 : decode c_Fitting_store 0 = .ok (.aload_n 0, 1) := by decide +kernel
theorem d_Fitting_store_1 : decode c_Fitting_store 1 = .ok (.invokevirtual 141, 3) := by decide +kernel
theorem d_Fitting_store_4 : decode c_Fitting_store 4 = .ok (.istore_n 2, 1) := by decide +kernel
theorem d_Fitting_store_5 : decode c_Fitting_store 5 = .ok (.aload_n 0, 1) := by decide +kernel
theorem d_Fitting_store_6 : decode c_Fitting_store 6 = .ok (.iload_n 1, 1) := by decide +kernel
theorem d_Fitting_store_7 : decode c_Fitting_store 7 = .ok (.ifCond .lt (12), 3) := by decide +kernel
theorem d_Fitting_store_10 : decode c_Fitting_store 10 = .ok (.iload_n 1, 1) := by decide +kernel
theorem d_Fitting_store_11 : decode c_Fitting_store 11 = .ok (.iconst (3), 1) := by decide +kernel
theorem d_Fitting_store_12 : decode c_Fitting_store 12 = .ok (.if_icmp .ge (7), 3) := by decide +kernel
theorem d_Fitting_store_15 : decode c_Fitting_store 15 = .ok (.iconst (1), 1) := by decide +kernel
theorem d_Fitting_store_16 : decode c_Fitting_store 16 = .ok (.goto (4), 3) := by decide +kernel
theorem d_Fitting_store_19 : decode c_Fitting_store 19 = .ok (.iconst (0), 1) := by decide +kernel
theorem d_Fitting_store_20 : decode c_Fitting_store 20 = .ok (.invokevirtual 131, 3) := by decide +kernel
theorem d_Fitting_store_23 : decode c_Fitting_store 23 = .ok (.aload_n 0, 1) := by decide +kernel
theorem d_Fitting_store_24 : decode c_Fitting_store 24 = .ok (.getfield 39, 3) := by decide +kernel
theorem d_Fitting_store_27 : decode c_Fitting_store 27 = .ok (.ifCond .eq (10), 3) := by decide +kernel
theorem d_Fitting_store_30 : decode c_Fitting_store 30 = .ok (.aload_n 0, 1) := by decide +kernel
theorem d_Fitting_store_31 : decode c_Fitting_store 31 = .ok (.getfield 18, 3) := by decide +kernel
theorem d_Fitting_store_34 : decode c_Fitting_store 34 = .ok (.iload_n 1, 1) := by decide +kernel
theorem d_Fitting_store_35 : decode c_Fitting_store 35 = .ok (.iload_n 2, 1) := by decide +kernel
theorem d_Fitting_store_36 : decode c_Fitting_store 36 = .ok (.iastore, 1) := by decide +kernel
theorem d_Fitting_store_37 : decode c_Fitting_store 37 = .ok (.return_, 1) := by decide +kernel
def fx_Fitting_store_b37 (σ : tx_St) : Option tx_St := some σ
def fx_Fitting_store_b20 (σ : tx_St) (x1 : Int32) (x2 : Int32) (s0 : Int32) : Option tx_St := tx_cv (fx_Fitting_demand σ s0) fun σ5 => (if (σ5 15 8) = 0 then fx_Fitting_store_b37  σ5 else tx_wr σ5 18 3 x1 x2 fun σ7 => fx_Fitting_store_b37  σ7)
def fx_Fitting_store_b19 (σ : tx_St) (x1 : Int32) (x2 : Int32) : Option tx_St := fx_Fitting_store_b20  σ x1 x2 (0 : Int32)
def fx_Fitting_store (σ : tx_St) (x1 : Int32) : Option tx_St := tx_ci (fx_Fitting_takeAny σ) fun r2 σ1 => (if x1 < 0 then fx_Fitting_store_b19  σ1 x1 r2 else (if (3 : Int32) ≤ x1 then fx_Fitting_store_b19  σ1 x1 r2 else fx_Fitting_store_b20  σ1 x1 r2 (1 : Int32)))
set_option maxRecDepth 100000 in
set_option maxHeartbeats 4000000 in
theorem fx_Fitting_store_b37_w {l : Launch} {E : tx_E} (σ : tx_St) (t : tx_St) (hT : fx_Fitting_store_b37 σ  = some t) : gx l E mi_Fitting_store (none, t) σ [] 37 [] := by
  unfold fx_Fitting_store_b37 at hT
  cases hT
  exact gx_vret (pc := 37) d_Fitting_store_37 rfl rfl
set_option maxRecDepth 100000 in
set_option maxHeartbeats 4000000 in
theorem fx_Fitting_store_b20_w {l : Launch} {E : tx_E} (σ : tx_St) (x1 : Int32) (x2 : Int32) (s0 : Int32) (t : tx_St) (hT : fx_Fitting_store_b20 σ x1 x2 s0 = some t) : gx l E mi_Fitting_store (none, t) σ [(0, .ref (E.1 15)), (1, .int x1), (2, .int x2)] 20 [.int s0, .ref (E.1 15)] := by
  unfold fx_Fitting_store_b20 at hT
  obtain ⟨σ5, cσ5, hT⟩ := tx_cv_some hT
  refine gx_callV (pc := 20) (As := [.int s0]) (rest := []) cm_Fitting_demand lk_Fitting_131 (fx_Fitting_demand_c l E σ s0 _ cσ5) (rfl) (by decide) rfl rfl tx_fi_Fitting_store_Fitting_demand (Nat.le_of_ble_eq_true rfl) d_Fitting_store_20 ?_
  change gx l E mi_Fitting_store _ σ5 [(0, .ref (E.1 15)), (1, .int x1), (2, .int x2)] 23 []
  refine gx_aload_n (pc := 23) 0 d_Fitting_store_23 rfl rfl ?_
  refine gx_getI (pc := 24) (σ5 15 8) fl_Fitting_39 d_Fitting_store_24 (rfl) (by decide) rfl rfl ?_
  refine gx_if_eq (pc := 27) 37 d_Fitting_store_27 rfl (fun h6 => ?_) (fun h6 => ?_)
  · have hT := tx_ifp h6 hT
    refine gx_sub [] rfl ?_
    exact fx_Fitting_store_b37_w  σ5 _ hT
  · have hT := tx_ifn h6 hT
    refine gx_aload_n (pc := 30) 0 d_Fitting_store_30 rfl rfl ?_
    refine gx_getR (pc := 31) 18 fl_Fitting_18 d_Fitting_store_31 (rfl) (by decide) rfl ?_
    refine gx_iload_n (pc := 34) 1 d_Fitting_store_34 rfl rfl ?_
    refine gx_iload_n (pc := 35) 2 d_Fitting_store_35 rfl rfl ?_
    obtain ⟨σ7, gσ7, iσ7, hT⟩ := tx_wr_some hT
    refine gx_iast (pc := 36) d_Fitting_store_36 (rfl) iσ7 ?_
    rw [gσ7]
    refine gx_sub [] rfl ?_
    exact fx_Fitting_store_b37_w  σ7 _ hT
set_option maxRecDepth 100000 in
set_option maxHeartbeats 4000000 in
theorem fx_Fitting_store_b19_w {l : Launch} {E : tx_E} (σ : tx_St) (x1 : Int32) (x2 : Int32) (t : tx_St) (hT : fx_Fitting_store_b19 σ x1 x2 = some t) : gx l E mi_Fitting_store (none, t) σ [(0, .ref (E.1 15)), (1, .int x1), (2, .int x2)] 19 [.ref (E.1 15)] := by
  unfold fx_Fitting_store_b19 at hT
  refine gx_iconst (pc := 19) (0 : Int32) d_Fitting_store_19 (by decide) ?_
  exact fx_Fitting_store_b20_w  σ x1 x2 (0 : Int32) _ hT
set_option maxRecDepth 100000 in
set_option maxHeartbeats 4000000 in
theorem fx_Fitting_store_c (l : Launch) (E : tx_E) (σ : tx_St) (x1 : Int32) (t : tx_St) (hT : fx_Fitting_store σ x1 = some t) : tx_MX l E y_Fitting_store mi_Fitting_store (none, t) [.ref (E.1 15), .int x1] σ := by
  refine tx_MX_of (by decide) rfl (Nat.le_of_ble_eq_true rfl) ?_
  show gx l E mi_Fitting_store (none, t) σ [(0, .ref (E.1 15)), (1, .int x1)] 0 []
  unfold fx_Fitting_store at hT
  refine gx_aload_n (pc := 0) 0 d_Fitting_store_0 rfl rfl ?_
  obtain ⟨r2, σ1, cσ1, hT⟩ := tx_ci_some hT
  refine gx_callV (pc := 1) (As := []) (rest := []) cm_Fitting_takeAny lk_Fitting_141 (fx_Fitting_takeAny_c l E σ _ cσ1) (rfl) (by decide) rfl rfl tx_fi_Fitting_store_Fitting_takeAny (Nat.le_of_ble_eq_true rfl) d_Fitting_store_1 ?_
  change gx l E mi_Fitting_store _ σ1 [(0, .ref (E.1 15)), (1, .int x1)] 4 [.int r2]
  refine gx_istore_n (pc := 4) [(2, .int r2), (0, .ref (E.1 15)), (1, .int x1)] d_Fitting_store_4 rfl (Nat.le_of_ble_eq_true rfl) rfl ?_
  refine gx_aload_n (pc := 5) 1 d_Fitting_store_5 rfl rfl ?_
  refine gx_iload_n (pc := 6) 2 d_Fitting_store_6 rfl rfl ?_
  refine gx_if_lt (pc := 7) 19 d_Fitting_store_7 rfl (fun h3 => ?_) (fun h3 => ?_)
  · have hT := tx_ifp h3 hT
    refine gx_sub [1, 2, 0] rfl ?_
    exact fx_Fitting_store_b19_w  σ1 x1 r2 _ hT
  · have hT := tx_ifn h3 hT
    refine gx_iload_n (pc := 10) 2 d_Fitting_store_10 rfl rfl ?_
    refine gx_iconst (pc := 11) (3 : Int32) d_Fitting_store_11 (by decide) ?_
    refine gx_icmp_ge (pc := 12) 19 d_Fitting_store_12 rfl (fun h4 => ?_) (fun h4 => ?_)
    · have hT := tx_ifp h4 hT
      refine gx_sub [1, 2, 0] rfl ?_
      exact fx_Fitting_store_b19_w  σ1 x1 r2 _ hT
    · have hT := tx_ifn h4 hT
      refine gx_iconst (pc := 15) (1 : Int32) d_Fitting_store_15 (by decide) ?_
      refine gx_goto (pc := 16) 20 d_Fitting_store_16 rfl ?_
      refine gx_sub [1, 2, 0] rfl ?_
      exact fx_Fitting_store_b20_w  σ1 x1 r2 (1 : Int32) _ hT
theorem d_Plan_fits_0 : decode c_Plan_fits 0 = .ok (.iload_n 1, 1) := by decide +kernel
theorem d_Plan_fits_1 : decode c_Plan_fits 1 = .ok (.iload_n 2, 1) := by decide +kernel
theorem d_Plan_fits_2 : decode c_Plan_fits 2 = .ok (.if_icmp .ne (5), 3) := by decide +kernel
theorem d_Plan_fits_5 : decode c_Plan_fits 5 = .ok (.iconst (1), 1) := by decide +kernel
theorem d_Plan_fits_6 : decode c_Plan_fits 6 = .ok (.ireturn, 1) := by decide +kernel
theorem d_Plan_fits_7 : decode c_Plan_fits 7 = .ok (.iload_n 1, 1) := by decide +kernel
theorem d_Plan_fits_8 : decode c_Plan_fits 8 = .ok (.iconst (2), 1) := by decide +kernel
theorem d_Plan_fits_9 : decode c_Plan_fits 9 = .ok (.if_icmp .lt (12), 3) := by decide +kernel
theorem d_Plan_fits_12 : decode c_Plan_fits 12 = .ok (.iload_n 2, 1) := by decide +kernel
theorem d_Plan_fits_13 : decode c_Plan_fits 13 = .ok (.iconst (2), 1) := by decide +kernel
theorem d_Plan_fits_14 : decode c_Plan_fits 14 = .ok (.if_icmp .lt (7), 3) := by decide +kernel
theorem d_Plan_fits_17 : decode c_Plan_fits 17 = .ok (.iconst (1), 1) := by decide +kernel
theorem d_Plan_fits_18 : decode c_Plan_fits 18 = .ok (.goto (4), 3) := by decide +kernel
theorem d_Plan_fits_21 : decode c_Plan_fits 21 = .ok (.iconst (0), 1) := by decide +kernel
theorem d_Plan_fits_22 : decode c_Plan_fits 22 = .ok (.istore_n 3, 1) := by decide +kernel
theorem d_Plan_fits_23 : decode c_Plan_fits 23 = .ok (.iload_n 3, 1) := by decide +kernel
theorem d_Plan_fits_24 : decode c_Plan_fits 24 = .ok (.ifCond .eq (24), 3) := by decide +kernel
theorem d_Plan_fits_27 : decode c_Plan_fits 27 = .ok (.aload_n 0, 1) := by decide +kernel
theorem d_Plan_fits_28 : decode c_Plan_fits 28 = .ok (.getfield 9, 3) := by decide +kernel
theorem d_Plan_fits_31 : decode c_Plan_fits 31 = .ok (.iload_n 1, 1) := by decide +kernel
theorem d_Plan_fits_32 : decode c_Plan_fits 32 = .ok (.iconst (2), 1) := by decide +kernel
theorem d_Plan_fits_33 : decode c_Plan_fits 33 = .ok (.isub, 1) := by decide +kernel
theorem d_Plan_fits_34 : decode c_Plan_fits 34 = .ok (.iaload, 1) := by decide +kernel
theorem d_Plan_fits_35 : decode c_Plan_fits 35 = .ok (.iload_n 2, 1) := by decide +kernel
theorem d_Plan_fits_36 : decode c_Plan_fits 36 = .ok (.iconst (2), 1) := by decide +kernel
theorem d_Plan_fits_37 : decode c_Plan_fits 37 = .ok (.isub, 1) := by decide +kernel
theorem d_Plan_fits_38 : decode c_Plan_fits 38 = .ok (.ishr, 1) := by decide +kernel
theorem d_Plan_fits_39 : decode c_Plan_fits 39 = .ok (.iconst (1), 1) := by decide +kernel
theorem d_Plan_fits_40 : decode c_Plan_fits 40 = .ok (.iand, 1) := by decide +kernel
theorem d_Plan_fits_41 : decode c_Plan_fits 41 = .ok (.ifCond .eq (7), 3) := by decide +kernel
theorem d_Plan_fits_44 : decode c_Plan_fits 44 = .ok (.iconst (1), 1) := by decide +kernel
theorem d_Plan_fits_45 : decode c_Plan_fits 45 = .ok (.goto (4), 3) := by decide +kernel
theorem d_Plan_fits_48 : decode c_Plan_fits 48 = .ok (.iconst (0), 1) := by decide +kernel
theorem d_Plan_fits_49 : decode c_Plan_fits 49 = .ok (.ireturn, 1) := by decide +kernel
def fx_Plan_fits_b49 (σ : tx_St) (s0 : Int32) : Option (Int32 × tx_St) := tx_rz s0 σ
def fx_Plan_fits_b48 (σ : tx_St) : Option (Int32 × tx_St) := fx_Plan_fits_b49  σ (0 : Int32)
def fx_Plan_fits_b22 (σ : tx_St) (x1 : Int32) (x2 : Int32) (s0 : Int32) : Option (Int32 × tx_St) := (if s0 = 0 then fx_Plan_fits_b48  σ else tx_rd σ 2 8 (x1 - (2 : Int32)) fun v5 => (if ((v5 >>> ((x2 - (2 : Int32)) &&& 31)) &&& (1 : Int32)) = 0 then fx_Plan_fits_b48  σ else fx_Plan_fits_b49  σ (1 : Int32)))
def fx_Plan_fits_b21 (σ : tx_St) (x1 : Int32) (x2 : Int32) : Option (Int32 × tx_St) := fx_Plan_fits_b22  σ x1 x2 (0 : Int32)
def fx_Plan_fits (σ : tx_St) (x1 : Int32) (x2 : Int32) : Option (Int32 × tx_St) := (if x1 = x2 then some ((1 : Int32), σ) else (if x1 < (2 : Int32) then fx_Plan_fits_b21  σ x1 x2 else (if x2 < (2 : Int32) then fx_Plan_fits_b21  σ x1 x2 else fx_Plan_fits_b22  σ x1 x2 (1 : Int32))))
set_option maxRecDepth 100000 in
set_option maxHeartbeats 4000000 in
theorem fx_Plan_fits_b49_w {l : Launch} {E : tx_E} (σ : tx_St) (s0 : Int32) (t : Int32 × tx_St) (hT : fx_Plan_fits_b49 σ s0 = some t) : gx l E mi_Plan_fits (some (.int t.1), t.2) σ [] 49 [.int s0] := by
  unfold fx_Plan_fits_b49 at hT
  obtain ⟨hz, hT⟩ := tx_rz_some hT
  cases hT
  exact gx_zret (pc := 49) d_Plan_fits_49 rfl hz rfl
set_option maxRecDepth 100000 in
set_option maxHeartbeats 4000000 in
theorem fx_Plan_fits_b48_w {l : Launch} {E : tx_E} (σ : tx_St) (t : Int32 × tx_St) (hT : fx_Plan_fits_b48 σ  = some t) : gx l E mi_Plan_fits (some (.int t.1), t.2) σ [] 48 [] := by
  unfold fx_Plan_fits_b48 at hT
  refine gx_iconst (pc := 48) (0 : Int32) d_Plan_fits_48 (by decide) ?_
  exact fx_Plan_fits_b49_w  σ (0 : Int32) _ hT
set_option maxRecDepth 100000 in
set_option maxHeartbeats 4000000 in
theorem fx_Plan_fits_b22_w {l : Launch} {E : tx_E} (σ : tx_St) (x1 : Int32) (x2 : Int32) (s0 : Int32) (t : Int32 × tx_St) (hT : fx_Plan_fits_b22 σ x1 x2 s0 = some t) : gx l E mi_Plan_fits (some (.int t.1), t.2) σ [(0, .ref (E.1 1)), (1, .int x1), (2, .int x2)] 22 [.int s0] := by
  unfold fx_Plan_fits_b22 at hT
  refine gx_istore_n (pc := 22) [(3, .int s0), (0, .ref (E.1 1)), (1, .int x1), (2, .int x2)] d_Plan_fits_22 rfl (Nat.le_of_ble_eq_true rfl) rfl ?_
  refine gx_iload_n (pc := 23) 0 d_Plan_fits_23 rfl rfl ?_
  refine gx_if_eq (pc := 24) 48 d_Plan_fits_24 rfl (fun h4 => ?_) (fun h4 => ?_)
  · have hT := tx_ifp h4 hT
    refine gx_sub [] rfl ?_
    exact fx_Plan_fits_b48_w  σ _ hT
  · have hT := tx_ifn h4 hT
    refine gx_aload_n (pc := 27) 1 d_Plan_fits_27 rfl rfl ?_
    refine gx_getR (pc := 28) 2 fl_Plan_9 d_Plan_fits_28 (rfl) (by decide) rfl ?_
    refine gx_iload_n (pc := 31) 2 d_Plan_fits_31 rfl rfl ?_
    refine gx_iconst (pc := 32) (2 : Int32) d_Plan_fits_32 (by decide) ?_
    refine gx_isub (pc := 33) d_Plan_fits_33 ?_
    obtain ⟨v5, gv5, iv5, hT⟩ := tx_rd_some hT
    refine gx_iald (pc := 34) v5 d_Plan_fits_34 (rfl) iv5 gv5 ?_
    refine gx_iload_n (pc := 35) 3 d_Plan_fits_35 rfl rfl ?_
    refine gx_iconst (pc := 36) (2 : Int32) d_Plan_fits_36 (by decide) ?_
    refine gx_isub (pc := 37) d_Plan_fits_37 ?_
    refine gx_ishr (pc := 38) d_Plan_fits_38 ?_
    refine gx_iconst (pc := 39) (1 : Int32) d_Plan_fits_39 (by decide) ?_
    refine gx_iand (pc := 40) d_Plan_fits_40 ?_
    refine gx_if_eq (pc := 41) 48 d_Plan_fits_41 rfl (fun h6 => ?_) (fun h6 => ?_)
    · have hT := tx_ifp h6 hT
      refine gx_sub [] rfl ?_
      exact fx_Plan_fits_b48_w  σ _ hT
    · have hT := tx_ifn h6 hT
      refine gx_iconst (pc := 44) (1 : Int32) d_Plan_fits_44 (by decide) ?_
      refine gx_goto (pc := 45) 49 d_Plan_fits_45 rfl ?_
      refine gx_sub [] rfl ?_
      exact fx_Plan_fits_b49_w  σ (1 : Int32) _ hT
set_option maxRecDepth 100000 in
set_option maxHeartbeats 4000000 in
theorem fx_Plan_fits_b21_w {l : Launch} {E : tx_E} (σ : tx_St) (x1 : Int32) (x2 : Int32) (t : Int32 × tx_St) (hT : fx_Plan_fits_b21 σ x1 x2 = some t) : gx l E mi_Plan_fits (some (.int t.1), t.2) σ [(0, .ref (E.1 1)), (1, .int x1), (2, .int x2)] 21 [] := by
  unfold fx_Plan_fits_b21 at hT
  refine gx_iconst (pc := 21) (0 : Int32) d_Plan_fits_21 (by decide) ?_
  exact fx_Plan_fits_b22_w  σ x1 x2 (0 : Int32) _ hT
set_option maxRecDepth 100000 in
set_option maxHeartbeats 4000000 in
theorem fx_Plan_fits_c (l : Launch) (E : tx_E) (σ : tx_St) (x1 : Int32) (x2 : Int32) (t : Int32 × tx_St) (hT : fx_Plan_fits σ x1 x2 = some t) : tx_MX l E y_Plan_fits mi_Plan_fits (some (.int t.1), t.2) [.ref (E.1 1), .int x1, .int x2] σ := by
  refine tx_MX_of (by decide) rfl (Nat.le_of_ble_eq_true rfl) ?_
  show gx l E mi_Plan_fits (some (.int t.1), t.2) σ [(0, .ref (E.1 1)), (1, .int x1), (2, .int x2)] 0 []
  unfold fx_Plan_fits at hT
  refine gx_iload_n (pc := 0) 1 d_Plan_fits_0 rfl rfl ?_
  refine gx_iload_n (pc := 1) 2 d_Plan_fits_1 rfl rfl ?_
  refine gx_icmp_ne (pc := 2) 7 d_Plan_fits_2 rfl (fun h1 => ?_) (fun h1 => ?_)
  · have hT := tx_ifn h1 hT
    refine gx_iload_n (pc := 7) 1 d_Plan_fits_7 rfl rfl ?_
    refine gx_iconst (pc := 8) (2 : Int32) d_Plan_fits_8 (by decide) ?_
    refine gx_icmp_lt (pc := 9) 21 d_Plan_fits_9 rfl (fun h2 => ?_) (fun h2 => ?_)
    · have hT := tx_ifp h2 hT
      exact fx_Plan_fits_b21_w  σ x1 x2 _ hT
    · have hT := tx_ifn h2 hT
      refine gx_iload_n (pc := 12) 2 d_Plan_fits_12 rfl rfl ?_
      refine gx_iconst (pc := 13) (2 : Int32) d_Plan_fits_13 (by decide) ?_
      refine gx_icmp_lt (pc := 14) 21 d_Plan_fits_14 rfl (fun h3 => ?_) (fun h3 => ?_)
      · have hT := tx_ifp h3 hT
        exact fx_Plan_fits_b21_w  σ x1 x2 _ hT
      · have hT := tx_ifn h3 hT
        refine gx_iconst (pc := 17) (1 : Int32) d_Plan_fits_17 (by decide) ?_
        refine gx_goto (pc := 18) 22 d_Plan_fits_18 rfl ?_
        exact fx_Plan_fits_b22_w  σ x1 x2 (1 : Int32) _ hT
  · have hT := tx_ifp h1 hT
    refine gx_iconst (pc := 5) (1 : Int32) d_Plan_fits_5 (by decide) ?_
    cases hT
    exact gx_zret (pc := 6) d_Plan_fits_6 rfl (by decide) rfl
theorem d_Fitting_take_0 : decode c_Fitting_take 0 = .ok (.aload_n 0, 1) := by decide +kernel
theorem d_Fitting_take_1 : decode c_Fitting_take 1 = .ok (.aload_n 0, 1) := by decide +kernel
theorem d_Fitting_take_2 : decode c_Fitting_take 2 = .ok (.getfield 24, 3) := by decide +kernel
theorem d_Fitting_take_5 : decode c_Fitting_take 5 = .ok (.aload_n 0, 1) := by decide +kernel
theorem d_Fitting_take_6 : decode c_Fitting_take 6 = .ok (.invokevirtual 141, 3) := by decide +kernel
theorem d_Fitting_take_9 : decode c_Fitting_take 9 = .ok (.iload_n 1, 1) := by decide +kernel
theorem d_Fitting_take_10 : decode c_Fitting_take 10 = .ok (.invokevirtual 144, 3) := by decide +kernel
theorem d_Fitting_take_13 : decode c_Fitting_take 13 = .ok (.invokevirtual 131, 3) := by decide +kernel
theorem d_Fitting_take_16 : decode c_Fitting_take 16 = .ok (.return_, 1) := by decide +kernel
def fx_Fitting_take (σ : tx_St) (x1 : Int32) : Option tx_St := tx_ci (fx_Fitting_takeAny σ) fun r2 σ1 => tx_ci (fx_Plan_fits σ1 r2 x1) fun r4 σ3 => tx_cv (fx_Fitting_demand σ3 r4) fun σ5 => some σ5
set_option maxRecDepth 100000 in
set_option maxHeartbeats 4000000 in
theorem fx_Fitting_take_c (l : Launch) (E : tx_E) (σ : tx_St) (x1 : Int32) (t : tx_St) (hT : fx_Fitting_take σ x1 = some t) : tx_MX l E y_Fitting_take mi_Fitting_take (none, t) [.ref (E.1 15), .int x1] σ := by
  refine tx_MX_of (by decide) rfl (Nat.le_of_ble_eq_true rfl) ?_
  show gx l E mi_Fitting_take (none, t) σ [(0, .ref (E.1 15)), (1, .int x1)] 0 []
  unfold fx_Fitting_take at hT
  refine gx_aload_n (pc := 0) 0 d_Fitting_take_0 rfl rfl ?_
  refine gx_aload_n (pc := 1) 0 d_Fitting_take_1 rfl rfl ?_
  refine gx_getR (pc := 2) 1 fl_Fitting_24 d_Fitting_take_2 (rfl) (by decide) rfl ?_
  refine gx_aload_n (pc := 5) 0 d_Fitting_take_5 rfl rfl ?_
  obtain ⟨r2, σ1, cσ1, hT⟩ := tx_ci_some hT
  refine gx_callV (pc := 6) (As := []) (rest := [.ref (E.1 1), .ref (E.1 15)]) cm_Fitting_takeAny lk_Fitting_141 (fx_Fitting_takeAny_c l E σ _ cσ1) (rfl) (by decide) rfl rfl tx_fi_Fitting_take_Fitting_takeAny (Nat.le_of_ble_eq_true rfl) d_Fitting_take_6 ?_
  change gx l E mi_Fitting_take _ σ1 [(0, .ref (E.1 15)), (1, .int x1)] 9 [.int r2, .ref (E.1 1), .ref (E.1 15)]
  refine gx_iload_n (pc := 9) 1 d_Fitting_take_9 rfl rfl ?_
  obtain ⟨r4, σ3, cσ3, hT⟩ := tx_ci_some hT
  refine gx_callV (pc := 10) (As := [.int r2, .int x1]) (rest := [.ref (E.1 15)]) cm_Plan_fits lk_Fitting_144 (fx_Plan_fits_c l E σ1 r2 x1 _ cσ3) (rfl) (by decide) rfl rfl tx_fi_Fitting_take_Plan_fits (Nat.le_of_ble_eq_true rfl) d_Fitting_take_10 ?_
  change gx l E mi_Fitting_take _ σ3 [(0, .ref (E.1 15)), (1, .int x1)] 13 [.int r4, .ref (E.1 15)]
  obtain ⟨σ5, cσ5, hT⟩ := tx_cv_some hT
  refine gx_callV (pc := 13) (As := [.int r4]) (rest := []) cm_Fitting_demand lk_Fitting_131 (fx_Fitting_demand_c l E σ3 r4 _ cσ5) (rfl) (by decide) rfl rfl tx_fi_Fitting_take_Fitting_demand (Nat.le_of_ble_eq_true rfl) d_Fitting_take_13 ?_
  change gx l E mi_Fitting_take _ σ5 [(0, .ref (E.1 15)), (1, .int x1)] 16 []
  cases hT
  exact gx_vret (pc := 16) d_Fitting_take_16 rfl rfl
theorem d_Fitting_make_0 : decode c_Fitting_make 0 = .ok (.aload_n 0, 1) := by decide +kernel
theorem d_Fitting_make_1 : decode c_Fitting_make 1 = .ok (.aload_n 0, 1) := by decide +kernel
theorem d_Fitting_make_2 : decode c_Fitting_make 2 = .ok (.getfield 24, 3) := by decide +kernel
theorem d_Fitting_make_5 : decode c_Fitting_make 5 = .ok (.iload_n 1, 1) := by decide +kernel
theorem d_Fitting_make_6 : decode c_Fitting_make 6 = .ok (.invokevirtual 138, 3) := by decide +kernel
theorem d_Fitting_make_9 : decode c_Fitting_make 9 = .ok (.invokevirtual 131, 3) := by decide +kernel
theorem d_Fitting_make_12 : decode c_Fitting_make 12 = .ok (.aload_n 0, 1) := by decide +kernel
theorem d_Fitting_make_13 : decode c_Fitting_make 13 = .ok (.getfield 39, 3) := by decide +kernel
theorem d_Fitting_make_16 : decode c_Fitting_make 16 = .ok (.ifCond .ne (4), 3) := by decide +kernel
theorem d_Fitting_make_19 : decode c_Fitting_make 19 = .ok (.return_, 1) := by decide +kernel
theorem d_Fitting_make_20 : decode c_Fitting_make 20 = .ok (.aload_n 0, 1) := by decide +kernel
theorem d_Fitting_make_21 : decode c_Fitting_make 21 = .ok (.getfield 24, 3) := by decide +kernel
theorem d_Fitting_make_24 : decode c_Fitting_make 24 = .ok (.getfield 147, 3) := by decide +kernel
theorem d_Fitting_make_27 : decode c_Fitting_make 27 = .ok (.iconst (1), 1) := by decide +kernel
theorem d_Fitting_make_28 : decode c_Fitting_make 28 = .ok (.isub, 1) := by decide +kernel
theorem d_Fitting_make_29 : decode c_Fitting_make 29 = .ok (.istore_n 2, 1) := by decide +kernel
theorem d_Fitting_make_30 : decode c_Fitting_make 30 = .ok (.iload_n 2, 1) := by decide +kernel
theorem d_Fitting_make_31 : decode c_Fitting_make 31 = .ok (.ifCond .lt (34), 3) := by decide +kernel
theorem d_Fitting_make_34 : decode c_Fitting_make 34 = .ok (.aload_n 0, 1) := by decide +kernel
theorem d_Fitting_make_35 : decode c_Fitting_make 35 = .ok (.getfield 24, 3) := by decide +kernel
theorem d_Fitting_make_38 : decode c_Fitting_make 38 = .ok (.iload_n 1, 1) := by decide +kernel
theorem d_Fitting_make_39 : decode c_Fitting_make 39 = .ok (.iload_n 2, 1) := by decide +kernel
theorem d_Fitting_make_40 : decode c_Fitting_make 40 = .ok (.invokevirtual 150, 3) := by decide +kernel
theorem d_Fitting_make_43 : decode c_Fitting_make 43 = .ok (.ifCond .eq (16), 3) := by decide +kernel
theorem d_Fitting_make_46 : decode c_Fitting_make 46 = .ok (.aload_n 0, 1) := by decide +kernel
theorem d_Fitting_make_47 : decode c_Fitting_make 47 = .ok (.aload_n 0, 1) := by decide +kernel
theorem d_Fitting_make_48 : decode c_Fitting_make 48 = .ok (.getfield 24, 3) := by decide +kernel
theorem d_Fitting_make_51 : decode c_Fitting_make 51 = .ok (.getfield 153, 3) := by decide +kernel
theorem d_Fitting_make_54 : decode c_Fitting_make 54 = .ok (.iload_n 2, 1) := by decide +kernel
theorem d_Fitting_make_55 : decode c_Fitting_make 55 = .ok (.iaload, 1) := by decide +kernel
theorem d_Fitting_make_56 : decode c_Fitting_make 56 = .ok (.invokevirtual 110, 3) := by decide +kernel
theorem d_Fitting_make_59 : decode c_Fitting_make 59 = .ok (.iinc 2 (-1), 3) := by decide +kernel
theorem d_Fitting_make_62 : decode c_Fitting_make 62 = .ok (.goto (-32), 3) := by decide +kernel
theorem d_Fitting_make_65 : decode c_Fitting_make 65 = .ok (.aload_n 0, 1) := by decide +kernel
theorem d_Fitting_make_66 : decode c_Fitting_make 66 = .ok (.iconst (2), 1) := by decide +kernel
theorem d_Fitting_make_67 : decode c_Fitting_make 67 = .ok (.iload_n 1, 1) := by decide +kernel
theorem d_Fitting_make_68 : decode c_Fitting_make 68 = .ok (.iadd, 1) := by decide +kernel
theorem d_Fitting_make_69 : decode c_Fitting_make 69 = .ok (.invokevirtual 101, 3) := by decide +kernel
theorem d_Fitting_make_72 : decode c_Fitting_make 72 = .ok (.return_, 1) := by decide +kernel
def fx_Fitting_make_b59 (k30 : tx_St → Int32 → Int32 → Option tx_St) (σ : tx_St) (x1 : Int32) (x2 : Int32) : Option tx_St := k30 σ x1 (x2 + (-1 : Int32))
def fx_Fitting_make_b30 : Nat → tx_St → Int32 → Int32 → Option tx_St
  | 0, _, _, _ => none
  | n + 1, σ, x1, x2 => (if x2 < 0 then tx_cv (fx_Fitting_put σ ((2 : Int32) + x1)) fun σ6 => some σ6 else tx_ci (fx_Plan_owns σ x1 x2) fun r8 σ7 => (if r8 = 0 then fx_Fitting_make_b59 (fx_Fitting_make_b30 n) σ7 x1 x2 else tx_rd σ7 6 12 x2 fun v10 => tx_cv (fx_Fitting_take σ7 v10) fun σ11 => fx_Fitting_make_b59 (fx_Fitting_make_b30 n) σ11 x1 x2))
def fx_Fitting_make (σ : tx_St) (x1 : Int32) : Option tx_St := tx_ci (fx_Plan_isClass σ x1) fun r2 σ1 => tx_cv (fx_Fitting_demand σ1 r2) fun σ3 => (if (σ3 15 8) = 0 then some σ3 else fx_Fitting_make_b30  tx_fu σ3 x1 ((σ3 1 1) - (1 : Int32)))
set_option maxRecDepth 100000 in
set_option maxHeartbeats 4000000 in
theorem fx_Fitting_make_b59_w {l : Launch} {E : tx_E} (k30 : tx_St → Int32 → Int32 → Option tx_St) (j30 : ∀ (σ : tx_St) (x1 : Int32) (x2 : Int32) (t : tx_St), k30 σ x1 x2 = some t → gx l E mi_Fitting_make (none, t) σ [(0, .ref (E.1 15)), (1, .int x1), (2, .int x2)] 30 []) (σ : tx_St) (x1 : Int32) (x2 : Int32) (t : tx_St) (hT : fx_Fitting_make_b59 k30 σ x1 x2 = some t) : gx l E mi_Fitting_make (none, t) σ [(0, .ref (E.1 15)), (1, .int x1), (2, .int x2)] 59 [] := by
  unfold fx_Fitting_make_b59 at hT
  refine gx_iinc (pc := 59) (x2 + (-1 : Int32)) 2 [(2, .int (x2 + (-1 : Int32))), (0, .ref (E.1 15)), (1, .int x1)] d_Fitting_make_59 rfl (tx_inc (by decide)) (Nat.le_of_ble_eq_true rfl) rfl ?_
  refine gx_goto (pc := 62) 30 d_Fitting_make_62 rfl ?_
  refine gx_sub [1, 2, 0] rfl ?_
  exact j30 σ x1 (x2 + (-1 : Int32)) _ hT
set_option maxRecDepth 100000 in
set_option maxHeartbeats 4000000 in
theorem fx_Fitting_make_b30_w {l : Launch} {E : tx_E} : ∀ (n : Nat) (σ : tx_St) (x1 : Int32) (x2 : Int32) (t : tx_St), fx_Fitting_make_b30 n σ x1 x2 = some t → gx l E mi_Fitting_make (none, t) σ [(0, .ref (E.1 15)), (1, .int x1), (2, .int x2)] 30 [] := by
  intro n
  induction n with
  | zero => intro σ x1 x2 t hT; cases hT
  | succ n ih =>
    intro σ x1 x2 t hT
    rw [fx_Fitting_make_b30] at hT
    refine gx_iload_n (pc := 30) 2 d_Fitting_make_30 rfl rfl ?_
    refine gx_if_lt (pc := 31) 65 d_Fitting_make_31 rfl (fun h5 => ?_) (fun h5 => ?_)
    · have hT := tx_ifp h5 hT
      refine gx_aload_n (pc := 65) 0 d_Fitting_make_65 rfl rfl ?_
      refine gx_iconst (pc := 66) (2 : Int32) d_Fitting_make_66 (by decide) ?_
      refine gx_iload_n (pc := 67) 1 d_Fitting_make_67 rfl rfl ?_
      refine gx_iadd (pc := 68) d_Fitting_make_68 ?_
      obtain ⟨σ6, cσ6, hT⟩ := tx_cv_some hT
      refine gx_callV (pc := 69) (As := [.int ((2 : Int32) + x1)]) (rest := []) cm_Fitting_put lk_Fitting_101 (fx_Fitting_put_c l E σ ((2 : Int32) + x1) _ cσ6) (rfl) (by decide) rfl rfl tx_fi_Fitting_make_Fitting_put (Nat.le_of_ble_eq_true rfl) d_Fitting_make_69 ?_
      change gx l E mi_Fitting_make _ σ6 [(0, .ref (E.1 15)), (1, .int x1), (2, .int x2)] 72 []
      cases hT
      exact gx_vret (pc := 72) d_Fitting_make_72 rfl rfl
    · have hT := tx_ifn h5 hT
      refine gx_aload_n (pc := 34) 0 d_Fitting_make_34 rfl rfl ?_
      refine gx_getR (pc := 35) 1 fl_Fitting_24 d_Fitting_make_35 (rfl) (by decide) rfl ?_
      refine gx_iload_n (pc := 38) 1 d_Fitting_make_38 rfl rfl ?_
      refine gx_iload_n (pc := 39) 2 d_Fitting_make_39 rfl rfl ?_
      obtain ⟨r8, σ7, cσ7, hT⟩ := tx_ci_some hT
      refine gx_callV (pc := 40) (As := [.int x1, .int x2]) (rest := []) cm_Plan_owns lk_Fitting_150 (fx_Plan_owns_c l E σ x1 x2 _ cσ7) (rfl) (by decide) rfl rfl tx_fi_Fitting_make_Plan_owns (Nat.le_of_ble_eq_true rfl) d_Fitting_make_40 ?_
      change gx l E mi_Fitting_make _ σ7 [(0, .ref (E.1 15)), (1, .int x1), (2, .int x2)] 43 [.int r8]
      refine gx_if_eq (pc := 43) 59 d_Fitting_make_43 rfl (fun h9 => ?_) (fun h9 => ?_)
      · have hT := tx_ifp h9 hT
        exact fx_Fitting_make_b59_w (fx_Fitting_make_b30 n) (ih) σ7 x1 x2 _ hT
      · have hT := tx_ifn h9 hT
        refine gx_aload_n (pc := 46) 0 d_Fitting_make_46 rfl rfl ?_
        refine gx_aload_n (pc := 47) 0 d_Fitting_make_47 rfl rfl ?_
        refine gx_getR (pc := 48) 1 fl_Fitting_24 d_Fitting_make_48 (rfl) (by decide) rfl ?_
        refine gx_getR (pc := 51) 6 fl_Fitting_153 d_Fitting_make_51 (rfl) (by decide) rfl ?_
        refine gx_iload_n (pc := 54) 2 d_Fitting_make_54 rfl rfl ?_
        obtain ⟨v10, gv10, iv10, hT⟩ := tx_rd_some hT
        refine gx_iald (pc := 55) v10 d_Fitting_make_55 (rfl) iv10 gv10 ?_
        obtain ⟨σ11, cσ11, hT⟩ := tx_cv_some hT
        refine gx_callV (pc := 56) (As := [.int v10]) (rest := []) cm_Fitting_take lk_Fitting_110 (fx_Fitting_take_c l E σ7 v10 _ cσ11) (rfl) (by decide) rfl rfl tx_fi_Fitting_make_Fitting_take (Nat.le_of_ble_eq_true rfl) d_Fitting_make_56 ?_
        change gx l E mi_Fitting_make _ σ11 [(0, .ref (E.1 15)), (1, .int x1), (2, .int x2)] 59 []
        exact fx_Fitting_make_b59_w (fx_Fitting_make_b30 n) (ih) σ11 x1 x2 _ hT
set_option maxRecDepth 100000 in
set_option maxHeartbeats 4000000 in
theorem fx_Fitting_make_c (l : Launch) (E : tx_E) (σ : tx_St) (x1 : Int32) (t : tx_St) (hT : fx_Fitting_make σ x1 = some t) : tx_MX l E y_Fitting_make mi_Fitting_make (none, t) [.ref (E.1 15), .int x1] σ := by
  refine tx_MX_of (by decide) rfl (Nat.le_of_ble_eq_true rfl) ?_
  show gx l E mi_Fitting_make (none, t) σ [(0, .ref (E.1 15)), (1, .int x1)] 0 []
  unfold fx_Fitting_make at hT
  refine gx_aload_n (pc := 0) 0 d_Fitting_make_0 rfl rfl ?_
  refine gx_aload_n (pc := 1) 0 d_Fitting_make_1 rfl rfl ?_
  refine gx_getR (pc := 2) 1 fl_Fitting_24 d_Fitting_make_2 (rfl) (by decide) rfl ?_
  refine gx_iload_n (pc := 5) 1 d_Fitting_make_5 rfl rfl ?_
  obtain ⟨r2, σ1, cσ1, hT⟩ := tx_ci_some hT
  refine gx_callV (pc := 6) (As := [.int x1]) (rest := [.ref (E.1 15)]) cm_Plan_isClass lk_Fitting_138 (fx_Plan_isClass_c l E σ x1 _ cσ1) (rfl) (by decide) rfl rfl tx_fi_Fitting_make_Plan_isClass (Nat.le_of_ble_eq_true rfl) d_Fitting_make_6 ?_
  change gx l E mi_Fitting_make _ σ1 [(0, .ref (E.1 15)), (1, .int x1)] 9 [.int r2, .ref (E.1 15)]
  obtain ⟨σ3, cσ3, hT⟩ := tx_cv_some hT
  refine gx_callV (pc := 9) (As := [.int r2]) (rest := []) cm_Fitting_demand lk_Fitting_131 (fx_Fitting_demand_c l E σ1 r2 _ cσ3) (rfl) (by decide) rfl rfl tx_fi_Fitting_make_Fitting_demand (Nat.le_of_ble_eq_true rfl) d_Fitting_make_9 ?_
  change gx l E mi_Fitting_make _ σ3 [(0, .ref (E.1 15)), (1, .int x1)] 12 []
  refine gx_aload_n (pc := 12) 0 d_Fitting_make_12 rfl rfl ?_
  refine gx_getI (pc := 13) (σ3 15 8) fl_Fitting_39 d_Fitting_make_13 (rfl) (by decide) rfl rfl ?_
  refine gx_if_ne (pc := 16) 20 d_Fitting_make_16 rfl (fun h4 => ?_) (fun h4 => ?_)
  · have hT := tx_ifn h4 hT
    refine gx_aload_n (pc := 20) 0 d_Fitting_make_20 rfl rfl ?_
    refine gx_getR (pc := 21) 1 fl_Fitting_24 d_Fitting_make_21 (rfl) (by decide) rfl ?_
    refine gx_getI (pc := 24) (σ3 1 1) fl_Fitting_147 d_Fitting_make_24 (rfl) (by decide) rfl rfl ?_
    refine gx_iconst (pc := 27) (1 : Int32) d_Fitting_make_27 (by decide) ?_
    refine gx_isub (pc := 28) d_Fitting_make_28 ?_
    refine gx_istore_n (pc := 29) [(2, .int ((σ3 1 1) - (1 : Int32))), (0, .ref (E.1 15)), (1, .int x1)] d_Fitting_make_29 rfl (Nat.le_of_ble_eq_true rfl) rfl ?_
    refine gx_sub [1, 2, 0] rfl ?_
    exact fx_Fitting_make_b30_w  tx_fu σ3 x1 ((σ3 1 1) - (1 : Int32)) _ hT
  · have hT := tx_ifp h4 hT
    cases hT
    exact gx_vret (pc := 19) d_Fitting_make_19 rfl rfl
theorem d_Plan_isField_0 : decode c_Plan_isField 0 = .ok (.iload_n 1, 1) := by decide +kernel
theorem d_Plan_isField_1 : decode c_Plan_isField 1 = .ok (.ifCond .lt (15), 3) := by decide +kernel
theorem d_Plan_isField_4 : decode c_Plan_isField 4 = .ok (.iload_n 1, 1) := by decide +kernel
theorem d_Plan_isField_5 : decode c_Plan_isField 5 = .ok (.aload_n 0, 1) := by decide +kernel
theorem d_Plan_isField_6 : decode c_Plan_isField 6 = .ok (.getfield 55, 3) := by decide +kernel
theorem d_Plan_isField_9 : decode c_Plan_isField 9 = .ok (.if_icmp .ge (7), 3) := by decide +kernel
theorem d_Plan_isField_12 : decode c_Plan_isField 12 = .ok (.iconst (1), 1) := by decide +kernel
theorem d_Plan_isField_13 : decode c_Plan_isField 13 = .ok (.goto (4), 3) := by decide +kernel
theorem d_Plan_isField_16 : decode c_Plan_isField 16 = .ok (.iconst (0), 1) := by decide +kernel
theorem d_Plan_isField_17 : decode c_Plan_isField 17 = .ok (.ireturn, 1) := by decide +kernel
def fx_Plan_isField_b17 (σ : tx_St) (s0 : Int32) : Option (Int32 × tx_St) := tx_rz s0 σ
def fx_Plan_isField_b16 (σ : tx_St) : Option (Int32 × tx_St) := fx_Plan_isField_b17  σ (0 : Int32)
def fx_Plan_isField (σ : tx_St) (x1 : Int32) : Option (Int32 × tx_St) := (if x1 < 0 then fx_Plan_isField_b16  σ else (if (σ 1 1) ≤ x1 then fx_Plan_isField_b16  σ else fx_Plan_isField_b17  σ (1 : Int32)))
set_option maxRecDepth 100000 in
set_option maxHeartbeats 4000000 in
theorem fx_Plan_isField_b17_w {l : Launch} {E : tx_E} (σ : tx_St) (s0 : Int32) (t : Int32 × tx_St) (hT : fx_Plan_isField_b17 σ s0 = some t) : gx l E mi_Plan_isField (some (.int t.1), t.2) σ [] 17 [.int s0] := by
  unfold fx_Plan_isField_b17 at hT
  obtain ⟨hz, hT⟩ := tx_rz_some hT
  cases hT
  exact gx_zret (pc := 17) d_Plan_isField_17 rfl hz rfl
set_option maxRecDepth 100000 in
set_option maxHeartbeats 4000000 in
theorem fx_Plan_isField_b16_w {l : Launch} {E : tx_E} (σ : tx_St) (t : Int32 × tx_St) (hT : fx_Plan_isField_b16 σ  = some t) : gx l E mi_Plan_isField (some (.int t.1), t.2) σ [] 16 [] := by
  unfold fx_Plan_isField_b16 at hT
  refine gx_iconst (pc := 16) (0 : Int32) d_Plan_isField_16 (by decide) ?_
  exact fx_Plan_isField_b17_w  σ (0 : Int32) _ hT
set_option maxRecDepth 100000 in
set_option maxHeartbeats 4000000 in
theorem fx_Plan_isField_c (l : Launch) (E : tx_E) (σ : tx_St) (x1 : Int32) (t : Int32 × tx_St) (hT : fx_Plan_isField σ x1 = some t) : tx_MX l E y_Plan_isField mi_Plan_isField (some (.int t.1), t.2) [.ref (E.1 1), .int x1] σ := by
  refine tx_MX_of (by decide) rfl (Nat.le_of_ble_eq_true rfl) ?_
  show gx l E mi_Plan_isField (some (.int t.1), t.2) σ [(0, .ref (E.1 1)), (1, .int x1)] 0 []
  unfold fx_Plan_isField at hT
  refine gx_iload_n (pc := 0) 1 d_Plan_isField_0 rfl rfl ?_
  refine gx_if_lt (pc := 1) 16 d_Plan_isField_1 rfl (fun h1 => ?_) (fun h1 => ?_)
  · have hT := tx_ifp h1 hT
    refine gx_sub [] rfl ?_
    exact fx_Plan_isField_b16_w  σ _ hT
  · have hT := tx_ifn h1 hT
    refine gx_iload_n (pc := 4) 1 d_Plan_isField_4 rfl rfl ?_
    refine gx_aload_n (pc := 5) 0 d_Plan_isField_5 rfl rfl ?_
    refine gx_getI (pc := 6) (σ 1 1) fl_Plan_55 d_Plan_isField_6 (rfl) (by decide) rfl rfl ?_
    refine gx_icmp_ge (pc := 9) 16 d_Plan_isField_9 rfl (fun h2 => ?_) (fun h2 => ?_)
    · have hT := tx_ifp h2 hT
      refine gx_sub [] rfl ?_
      exact fx_Plan_isField_b16_w  σ _ hT
    · have hT := tx_ifn h2 hT
      refine gx_iconst (pc := 12) (1 : Int32) d_Plan_isField_12 (by decide) ?_
      refine gx_goto (pc := 13) 17 d_Plan_isField_13 rfl ?_
      refine gx_sub [] rfl ?_
      exact fx_Plan_isField_b17_w  σ (1 : Int32) _ hT
theorem d_Fitting_useField_0 : decode c_Fitting_useField 0 = .ok (.aload_n 0, 1) := by decide +kernel
theorem d_Fitting_useField_1 : decode c_Fitting_useField 1 = .ok (.aload_n 0, 1) := by decide +kernel
theorem d_Fitting_useField_2 : decode c_Fitting_useField 2 = .ok (.getfield 24, 3) := by decide +kernel
theorem d_Fitting_useField_5 : decode c_Fitting_useField 5 = .ok (.iload_n 2, 1) := by decide +kernel
theorem d_Fitting_useField_6 : decode c_Fitting_useField 6 = .ok (.invokevirtual 156, 3) := by decide +kernel
theorem d_Fitting_useField_9 : decode c_Fitting_useField 9 = .ok (.ifCond .eq (18), 3) := by decide +kernel
theorem d_Fitting_useField_12 : decode c_Fitting_useField 12 = .ok (.aload_n 0, 1) := by decide +kernel
theorem d_Fitting_useField_13 : decode c_Fitting_useField 13 = .ok (.getfield 24, 3) := by decide +kernel
theorem d_Fitting_useField_16 : decode c_Fitting_useField 16 = .ok (.iload_n 2, 1) := by decide +kernel
theorem d_Fitting_useField_17 : decode c_Fitting_useField 17 = .ok (.invokevirtual 159, 3) := by decide +kernel
theorem d_Fitting_useField_20 : decode c_Fitting_useField 20 = .ok (.ifCond .ne (7), 3) := by decide +kernel
theorem d_Fitting_useField_23 : decode c_Fitting_useField 23 = .ok (.iconst (1), 1) := by decide +kernel
theorem d_Fitting_useField_24 : decode c_Fitting_useField 24 = .ok (.goto (4), 3) := by decide +kernel
theorem d_Fitting_useField_27 : decode c_Fitting_useField 27 = .ok (.iconst (0), 1) := by decide +kernel
theorem d_Fitting_useField_28 : decode c_Fitting_useField 28 = .ok (.invokevirtual 131, 3) := by decide +kernel
theorem d_Fitting_useField_31 : decode c_Fitting_useField 31 = .ok (.aload_n 0, 1) := by decide +kernel
theorem d_Fitting_useField_32 : decode c_Fitting_useField 32 = .ok (.getfield 39, 3) := by decide +kernel
theorem d_Fitting_useField_35 : decode c_Fitting_useField 35 = .ok (.ifCond .ne (4), 3) := by decide +kernel
theorem d_Fitting_useField_38 : decode c_Fitting_useField 38 = .ok (.return_, 1) := by decide +kernel
theorem d_Fitting_useField_39 : decode c_Fitting_useField 39 = .ok (.iload_n 1, 1) := by decide +kernel
theorem d_Fitting_useField_40 : decode c_Fitting_useField 40 = .ok (.bipush (9), 2) := by decide +kernel
theorem d_Fitting_useField_42 : decode c_Fitting_useField 42 = .ok (.if_icmp .ne (16), 3) := by decide +kernel
theorem d_Fitting_useField_45 : decode c_Fitting_useField 45 = .ok (.aload_n 0, 1) := by decide +kernel
theorem d_Fitting_useField_46 : decode c_Fitting_useField 46 = .ok (.aload_n 0, 1) := by decide +kernel
theorem d_Fitting_useField_47 : decode c_Fitting_useField 47 = .ok (.getfield 24, 3) := by decide +kernel
theorem d_Fitting_useField_50 : decode c_Fitting_useField 50 = .ok (.getfield 153, 3) := by decide +kernel
theorem d_Fitting_useField_53 : decode c_Fitting_useField 53 = .ok (.iload_n 2, 1) := by decide +kernel
theorem d_Fitting_useField_54 : decode c_Fitting_useField 54 = .ok (.iaload, 1) := by decide +kernel
theorem d_Fitting_useField_55 : decode c_Fitting_useField 55 = .ok (.invokevirtual 110, 3) := by decide +kernel
theorem d_Fitting_useField_58 : decode c_Fitting_useField 58 = .ok (.aload_n 0, 1) := by decide +kernel
theorem d_Fitting_useField_59 : decode c_Fitting_useField 59 = .ok (.iconst (2), 1) := by decide +kernel
theorem d_Fitting_useField_60 : decode c_Fitting_useField 60 = .ok (.aload_n 0, 1) := by decide +kernel
theorem d_Fitting_useField_61 : decode c_Fitting_useField 61 = .ok (.getfield 24, 3) := by decide +kernel
theorem d_Fitting_useField_64 : decode c_Fitting_useField 64 = .ok (.getfield 162, 3) := by decide +kernel
theorem d_Fitting_useField_67 : decode c_Fitting_useField 67 = .ok (.iload_n 2, 1) := by decide +kernel
theorem d_Fitting_useField_68 : decode c_Fitting_useField 68 = .ok (.iaload, 1) := by decide +kernel
theorem d_Fitting_useField_69 : decode c_Fitting_useField 69 = .ok (.iadd, 1) := by decide +kernel
theorem d_Fitting_useField_70 : decode c_Fitting_useField 70 = .ok (.invokevirtual 110, 3) := by decide +kernel
theorem d_Fitting_useField_73 : decode c_Fitting_useField 73 = .ok (.iload_n 1, 1) := by decide +kernel
theorem d_Fitting_useField_74 : decode c_Fitting_useField 74 = .ok (.bipush (8), 2) := by decide +kernel
theorem d_Fitting_useField_76 : decode c_Fitting_useField 76 = .ok (.if_icmp .ne (16), 3) := by decide +kernel
theorem d_Fitting_useField_79 : decode c_Fitting_useField 79 = .ok (.aload_n 0, 1) := by decide +kernel
theorem d_Fitting_useField_80 : decode c_Fitting_useField 80 = .ok (.aload_n 0, 1) := by decide +kernel
theorem d_Fitting_useField_81 : decode c_Fitting_useField 81 = .ok (.getfield 24, 3) := by decide +kernel
theorem d_Fitting_useField_84 : decode c_Fitting_useField 84 = .ok (.getfield 153, 3) := by decide +kernel
theorem d_Fitting_useField_87 : decode c_Fitting_useField 87 = .ok (.iload_n 2, 1) := by decide +kernel
theorem d_Fitting_useField_88 : decode c_Fitting_useField 88 = .ok (.iaload, 1) := by decide +kernel
theorem d_Fitting_useField_89 : decode c_Fitting_useField 89 = .ok (.invokevirtual 101, 3) := by decide +kernel
theorem d_Fitting_useField_92 : decode c_Fitting_useField 92 = .ok (.return_, 1) := by decide +kernel
def fx_Fitting_useField_b92 (σ : tx_St) : Option tx_St := some σ
def fx_Fitting_useField_b58 (σ : tx_St) (x1 : Int32) (x2 : Int32) : Option tx_St := tx_rd σ 4 12 x2 fun v12 => tx_cv (fx_Fitting_take σ ((2 : Int32) + v12)) fun σ13 => (if x1 = (8 : Int32) then tx_rd σ13 6 12 x2 fun v15 => tx_cv (fx_Fitting_put σ13 v15) fun σ16 => fx_Fitting_useField_b92  σ16 else fx_Fitting_useField_b92  σ13)
def fx_Fitting_useField_b28 (σ : tx_St) (x1 : Int32) (x2 : Int32) (s0 : Int32) : Option tx_St := tx_cv (fx_Fitting_demand σ s0) fun σ7 => (if (σ7 15 8) = 0 then some σ7 else (if x1 = (9 : Int32) then tx_rd σ7 6 12 x2 fun v10 => tx_cv (fx_Fitting_take σ7 v10) fun σ11 => fx_Fitting_useField_b58  σ11 x1 x2 else fx_Fitting_useField_b58  σ7 x1 x2))
def fx_Fitting_useField_b27 (σ : tx_St) (x1 : Int32) (x2 : Int32) : Option tx_St := fx_Fitting_useField_b28  σ x1 x2 (0 : Int32)
def fx_Fitting_useField (σ : tx_St) (x1 : Int32) (x2 : Int32) : Option tx_St := tx_ci (fx_Plan_isField σ x2) fun r2 σ1 => (if r2 = 0 then fx_Fitting_useField_b27  σ1 x1 x2 else tx_ci (fx_Plan_isStaticField σ1 x2) fun r5 σ4 => (if r5 = 0 then fx_Fitting_useField_b28  σ4 x1 x2 (1 : Int32) else fx_Fitting_useField_b27  σ4 x1 x2))
set_option maxRecDepth 100000 in
set_option maxHeartbeats 4000000 in
theorem fx_Fitting_useField_b92_w {l : Launch} {E : tx_E} (σ : tx_St) (t : tx_St) (hT : fx_Fitting_useField_b92 σ  = some t) : gx l E mi_Fitting_useField (none, t) σ [] 92 [] := by
  unfold fx_Fitting_useField_b92 at hT
  cases hT
  exact gx_vret (pc := 92) d_Fitting_useField_92 rfl rfl
set_option maxRecDepth 100000 in
set_option maxHeartbeats 4000000 in
theorem fx_Fitting_useField_b58_w {l : Launch} {E : tx_E} (σ : tx_St) (x1 : Int32) (x2 : Int32) (t : tx_St) (hT : fx_Fitting_useField_b58 σ x1 x2 = some t) : gx l E mi_Fitting_useField (none, t) σ [(0, .ref (E.1 15)), (1, .int x1), (2, .int x2)] 58 [] := by
  unfold fx_Fitting_useField_b58 at hT
  refine gx_aload_n (pc := 58) 0 d_Fitting_useField_58 rfl rfl ?_
  refine gx_iconst (pc := 59) (2 : Int32) d_Fitting_useField_59 (by decide) ?_
  refine gx_aload_n (pc := 60) 0 d_Fitting_useField_60 rfl rfl ?_
  refine gx_getR (pc := 61) 1 fl_Fitting_24 d_Fitting_useField_61 (rfl) (by decide) rfl ?_
  refine gx_getR (pc := 64) 4 fl_Fitting_162 d_Fitting_useField_64 (rfl) (by decide) rfl ?_
  refine gx_iload_n (pc := 67) 2 d_Fitting_useField_67 rfl rfl ?_
  obtain ⟨v12, gv12, iv12, hT⟩ := tx_rd_some hT
  refine gx_iald (pc := 68) v12 d_Fitting_useField_68 (rfl) iv12 gv12 ?_
  refine gx_iadd (pc := 69) d_Fitting_useField_69 ?_
  obtain ⟨σ13, cσ13, hT⟩ := tx_cv_some hT
  refine gx_callV (pc := 70) (As := [.int ((2 : Int32) + v12)]) (rest := []) cm_Fitting_take lk_Fitting_110 (fx_Fitting_take_c l E σ ((2 : Int32) + v12) _ cσ13) (rfl) (by decide) rfl rfl tx_fi_Fitting_useField_Fitting_take (Nat.le_of_ble_eq_true rfl) d_Fitting_useField_70 ?_
  change gx l E mi_Fitting_useField _ σ13 [(0, .ref (E.1 15)), (1, .int x1), (2, .int x2)] 73 []
  refine gx_iload_n (pc := 73) 1 d_Fitting_useField_73 rfl rfl ?_
  refine gx_bipush (pc := 74) (8 : Int32) d_Fitting_useField_74 (by decide) ?_
  refine gx_icmp_ne (pc := 76) 92 d_Fitting_useField_76 rfl (fun h14 => ?_) (fun h14 => ?_)
  · have hT := tx_ifn h14 hT
    refine gx_sub [] rfl ?_
    exact fx_Fitting_useField_b92_w  σ13 _ hT
  · have hT := tx_ifp h14 hT
    refine gx_aload_n (pc := 79) 0 d_Fitting_useField_79 rfl rfl ?_
    refine gx_aload_n (pc := 80) 0 d_Fitting_useField_80 rfl rfl ?_
    refine gx_getR (pc := 81) 1 fl_Fitting_24 d_Fitting_useField_81 (rfl) (by decide) rfl ?_
    refine gx_getR (pc := 84) 6 fl_Fitting_153 d_Fitting_useField_84 (rfl) (by decide) rfl ?_
    refine gx_iload_n (pc := 87) 2 d_Fitting_useField_87 rfl rfl ?_
    obtain ⟨v15, gv15, iv15, hT⟩ := tx_rd_some hT
    refine gx_iald (pc := 88) v15 d_Fitting_useField_88 (rfl) iv15 gv15 ?_
    obtain ⟨σ16, cσ16, hT⟩ := tx_cv_some hT
    refine gx_callV (pc := 89) (As := [.int v15]) (rest := []) cm_Fitting_put lk_Fitting_101 (fx_Fitting_put_c l E σ13 v15 _ cσ16) (rfl) (by decide) rfl rfl tx_fi_Fitting_useField_Fitting_put (Nat.le_of_ble_eq_true rfl) d_Fitting_useField_89 ?_
    change gx l E mi_Fitting_useField _ σ16 [(0, .ref (E.1 15)), (1, .int x1), (2, .int x2)] 92 []
    refine gx_sub [] rfl ?_
    exact fx_Fitting_useField_b92_w  σ16 _ hT
set_option maxRecDepth 100000 in
set_option maxHeartbeats 4000000 in
theorem fx_Fitting_useField_b28_w {l : Launch} {E : tx_E} (σ : tx_St) (x1 : Int32) (x2 : Int32) (s0 : Int32) (t : tx_St) (hT : fx_Fitting_useField_b28 σ x1 x2 s0 = some t) : gx l E mi_Fitting_useField (none, t) σ [(0, .ref (E.1 15)), (1, .int x1), (2, .int x2)] 28 [.int s0, .ref (E.1 15)] := by
  unfold fx_Fitting_useField_b28 at hT
  obtain ⟨σ7, cσ7, hT⟩ := tx_cv_some hT
  refine gx_callV (pc := 28) (As := [.int s0]) (rest := []) cm_Fitting_demand lk_Fitting_131 (fx_Fitting_demand_c l E σ s0 _ cσ7) (rfl) (by decide) rfl rfl tx_fi_Fitting_useField_Fitting_demand (Nat.le_of_ble_eq_true rfl) d_Fitting_useField_28 ?_
  change gx l E mi_Fitting_useField _ σ7 [(0, .ref (E.1 15)), (1, .int x1), (2, .int x2)] 31 []
  refine gx_aload_n (pc := 31) 0 d_Fitting_useField_31 rfl rfl ?_
  refine gx_getI (pc := 32) (σ7 15 8) fl_Fitting_39 d_Fitting_useField_32 (rfl) (by decide) rfl rfl ?_
  refine gx_if_ne (pc := 35) 39 d_Fitting_useField_35 rfl (fun h8 => ?_) (fun h8 => ?_)
  · have hT := tx_ifn h8 hT
    refine gx_iload_n (pc := 39) 1 d_Fitting_useField_39 rfl rfl ?_
    refine gx_bipush (pc := 40) (9 : Int32) d_Fitting_useField_40 (by decide) ?_
    refine gx_icmp_ne (pc := 42) 58 d_Fitting_useField_42 rfl (fun h9 => ?_) (fun h9 => ?_)
    · have hT := tx_ifn h9 hT
      exact fx_Fitting_useField_b58_w  σ7 x1 x2 _ hT
    · have hT := tx_ifp h9 hT
      refine gx_aload_n (pc := 45) 0 d_Fitting_useField_45 rfl rfl ?_
      refine gx_aload_n (pc := 46) 0 d_Fitting_useField_46 rfl rfl ?_
      refine gx_getR (pc := 47) 1 fl_Fitting_24 d_Fitting_useField_47 (rfl) (by decide) rfl ?_
      refine gx_getR (pc := 50) 6 fl_Fitting_153 d_Fitting_useField_50 (rfl) (by decide) rfl ?_
      refine gx_iload_n (pc := 53) 2 d_Fitting_useField_53 rfl rfl ?_
      obtain ⟨v10, gv10, iv10, hT⟩ := tx_rd_some hT
      refine gx_iald (pc := 54) v10 d_Fitting_useField_54 (rfl) iv10 gv10 ?_
      obtain ⟨σ11, cσ11, hT⟩ := tx_cv_some hT
      refine gx_callV (pc := 55) (As := [.int v10]) (rest := []) cm_Fitting_take lk_Fitting_110 (fx_Fitting_take_c l E σ7 v10 _ cσ11) (rfl) (by decide) rfl rfl tx_fi_Fitting_useField_Fitting_take (Nat.le_of_ble_eq_true rfl) d_Fitting_useField_55 ?_
      change gx l E mi_Fitting_useField _ σ11 [(0, .ref (E.1 15)), (1, .int x1), (2, .int x2)] 58 []
      exact fx_Fitting_useField_b58_w  σ11 x1 x2 _ hT
  · have hT := tx_ifp h8 hT
    cases hT
    exact gx_vret (pc := 38) d_Fitting_useField_38 rfl rfl
set_option maxRecDepth 100000 in
set_option maxHeartbeats 4000000 in
theorem fx_Fitting_useField_b27_w {l : Launch} {E : tx_E} (σ : tx_St) (x1 : Int32) (x2 : Int32) (t : tx_St) (hT : fx_Fitting_useField_b27 σ x1 x2 = some t) : gx l E mi_Fitting_useField (none, t) σ [(0, .ref (E.1 15)), (1, .int x1), (2, .int x2)] 27 [.ref (E.1 15)] := by
  unfold fx_Fitting_useField_b27 at hT
  refine gx_iconst (pc := 27) (0 : Int32) d_Fitting_useField_27 (by decide) ?_
  exact fx_Fitting_useField_b28_w  σ x1 x2 (0 : Int32) _ hT
set_option maxRecDepth 100000 in
set_option maxHeartbeats 4000000 in
theorem fx_Fitting_useField_c (l : Launch) (E : tx_E) (σ : tx_St) (x1 : Int32) (x2 : Int32) (t : tx_St) (hT : fx_Fitting_useField σ x1 x2 = some t) : tx_MX l E y_Fitting_useField mi_Fitting_useField (none, t) [.ref (E.1 15), .int x1, .int x2] σ := by
  refine tx_MX_of (by decide) rfl (Nat.le_of_ble_eq_true rfl) ?_
  show gx l E mi_Fitting_useField (none, t) σ [(0, .ref (E.1 15)), (1, .int x1), (2, .int x2)] 0 []
  unfold fx_Fitting_useField at hT
  refine gx_aload_n (pc := 0) 0 d_Fitting_useField_0 rfl rfl ?_
  refine gx_aload_n (pc := 1) 0 d_Fitting_useField_1 rfl rfl ?_
  refine gx_getR (pc := 2) 1 fl_Fitting_24 d_Fitting_useField_2 (rfl) (by decide) rfl ?_
  refine gx_iload_n (pc := 5) 2 d_Fitting_useField_5 rfl rfl ?_
  obtain ⟨r2, σ1, cσ1, hT⟩ := tx_ci_some hT
  refine gx_callV (pc := 6) (As := [.int x2]) (rest := [.ref (E.1 15)]) cm_Plan_isField lk_Fitting_156 (fx_Plan_isField_c l E σ x2 _ cσ1) (rfl) (by decide) rfl rfl tx_fi_Fitting_useField_Plan_isField (Nat.le_of_ble_eq_true rfl) d_Fitting_useField_6 ?_
  change gx l E mi_Fitting_useField _ σ1 [(0, .ref (E.1 15)), (1, .int x1), (2, .int x2)] 9 [.int r2, .ref (E.1 15)]
  refine gx_if_eq (pc := 9) 27 d_Fitting_useField_9 rfl (fun h3 => ?_) (fun h3 => ?_)
  · have hT := tx_ifp h3 hT
    exact fx_Fitting_useField_b27_w  σ1 x1 x2 _ hT
  · have hT := tx_ifn h3 hT
    refine gx_aload_n (pc := 12) 0 d_Fitting_useField_12 rfl rfl ?_
    refine gx_getR (pc := 13) 1 fl_Fitting_24 d_Fitting_useField_13 (rfl) (by decide) rfl ?_
    refine gx_iload_n (pc := 16) 2 d_Fitting_useField_16 rfl rfl ?_
    obtain ⟨r5, σ4, cσ4, hT⟩ := tx_ci_some hT
    refine gx_callV (pc := 17) (As := [.int x2]) (rest := [.ref (E.1 15)]) cm_Plan_isStaticField lk_Fitting_159 (fx_Plan_isStaticField_c l E σ1 x2 _ cσ4) (rfl) (by decide) rfl rfl tx_fi_Fitting_useField_Plan_isStaticField (Nat.le_of_ble_eq_true rfl) d_Fitting_useField_17 ?_
    change gx l E mi_Fitting_useField _ σ4 [(0, .ref (E.1 15)), (1, .int x1), (2, .int x2)] 20 [.int r5, .ref (E.1 15)]
    refine gx_if_ne (pc := 20) 27 d_Fitting_useField_20 rfl (fun h6 => ?_) (fun h6 => ?_)
    · have hT := tx_ifn h6 hT
      exact fx_Fitting_useField_b27_w  σ4 x1 x2 _ hT
    · have hT := tx_ifp h6 hT
      refine gx_iconst (pc := 23) (1 : Int32) d_Fitting_useField_23 (by decide) ?_
      refine gx_goto (pc := 24) 28 d_Fitting_useField_24 rfl ?_
      exact fx_Fitting_useField_b28_w  σ4 x1 x2 (1 : Int32) _ hT
