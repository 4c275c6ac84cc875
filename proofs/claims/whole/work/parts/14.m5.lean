theorem d_Fitting_codeFits_0 : decode c_Fitting_codeFits 0 = .ok (.aload_n 0, 1) := by decide +kernel
theorem d_Fitting_codeFits_1 : decode c_Fitting_codeFits 1 = .ok (.iload_n 1, 1) := by decide +kernel
theorem d_Fitting_codeFits_2 : decode c_Fitting_codeFits 2 = .ok (.invokevirtual 28, 3) := by decide +kernel
theorem d_Fitting_codeFits_5 : decode c_Fitting_codeFits 5 = .ok (.aload_n 0, 1) := by decide +kernel
theorem d_Fitting_codeFits_6 : decode c_Fitting_codeFits 6 = .ok (.iconst (0), 1) := by decide +kernel
theorem d_Fitting_codeFits_7 : decode c_Fitting_codeFits 7 = .ok (.invokevirtual 32, 3) := by decide +kernel
theorem d_Fitting_codeFits_10 : decode c_Fitting_codeFits 10 = .ok (.iconst (0), 1) := by decide +kernel
theorem d_Fitting_codeFits_11 : decode c_Fitting_codeFits 11 = .ok (.istore_n 2, 1) := by decide +kernel
theorem d_Fitting_codeFits_12 : decode c_Fitting_codeFits 12 = .ok (.iload_n 2, 1) := by decide +kernel
theorem d_Fitting_codeFits_13 : decode c_Fitting_codeFits 13 = .ok (.bipush (12), 2) := by decide +kernel
theorem d_Fitting_codeFits_15 : decode c_Fitting_codeFits 15 = .ok (.if_icmp .ge (102), 3) := by decide +kernel
theorem d_Fitting_codeFits_18 : decode c_Fitting_codeFits 18 = .ok (.iload_n 2, 1) := by decide +kernel
theorem d_Fitting_codeFits_19 : decode c_Fitting_codeFits 19 = .ok (.aload_n 0, 1) := by decide +kernel
theorem d_Fitting_codeFits_20 : decode c_Fitting_codeFits 20 = .ok (.getfield 35, 3) := by decide +kernel
theorem d_Fitting_codeFits_23 : decode c_Fitting_codeFits 23 = .ok (.if_icmp .ge (94), 3) := by decide +kernel
theorem d_Fitting_codeFits_26 : decode c_Fitting_codeFits 26 = .ok (.aload_n 0, 1) := by decide +kernel
theorem d_Fitting_codeFits_27 : decode c_Fitting_codeFits 27 = .ok (.getfield 39, 3) := by decide +kernel
theorem d_Fitting_codeFits_30 : decode c_Fitting_codeFits 30 = .ok (.ifCond .eq (87), 3) := by decide +kernel
theorem d_Fitting_codeFits_33 : decode c_Fitting_codeFits 33 = .ok (.aload_n 0, 1) := by decide +kernel
theorem d_Fitting_codeFits_34 : decode c_Fitting_codeFits 34 = .ok (.getfield 21, 3) := by decide +kernel
theorem d_Fitting_codeFits_37 : decode c_Fitting_codeFits 37 = .ok (.iload_n 2, 1) := by decide +kernel
theorem d_Fitting_codeFits_38 : decode c_Fitting_codeFits 38 = .ok (.iaload, 1) := by decide +kernel
theorem d_Fitting_codeFits_39 : decode c_Fitting_codeFits 39 = .ok (.istore_n 3, 1) := by decide +kernel
theorem d_Fitting_codeFits_40 : decode c_Fitting_codeFits 40 = .ok (.aload_n 0, 1) := by decide +kernel
theorem d_Fitting_codeFits_41 : decode c_Fitting_codeFits 41 = .ok (.getfield 43, 3) := by decide +kernel
theorem d_Fitting_codeFits_44 : decode c_Fitting_codeFits 44 = .ok (.bipush (12), 2) := by decide +kernel
theorem d_Fitting_codeFits_46 : decode c_Fitting_codeFits 46 = .ok (.imul, 1) := by decide +kernel
theorem d_Fitting_codeFits_47 : decode c_Fitting_codeFits 47 = .ok (.iload_n 3, 1) := by decide +kernel
theorem d_Fitting_codeFits_48 : decode c_Fitting_codeFits 48 = .ok (.iadd, 1) := by decide +kernel
theorem d_Fitting_codeFits_49 : decode c_Fitting_codeFits 49 = .ok (.istore 4, 2) := by decide +kernel
theorem d_Fitting_codeFits_51 : decode c_Fitting_codeFits 51 = .ok (.aload_n 0, 1) := by decide +kernel
theorem d_Fitting_codeFits_52 : decode c_Fitting_codeFits 52 = .ok (.aload_n 0, 1) := by decide +kernel
theorem d_Fitting_codeFits_53 : decode c_Fitting_codeFits 53 = .ok (.getfield 9, 3) := by decide +kernel
theorem d_Fitting_codeFits_56 : decode c_Fitting_codeFits 56 = .ok (.iload 4, 2) := by decide +kernel
theorem d_Fitting_codeFits_58 : decode c_Fitting_codeFits 58 = .ok (.iaload, 1) := by decide +kernel
theorem d_Fitting_codeFits_59 : decode c_Fitting_codeFits 59 = .ok (.invokevirtual 46, 3) := by decide +kernel
theorem d_Fitting_codeFits_62 : decode c_Fitting_codeFits 62 = .ok (.aload_n 0, 1) := by decide +kernel
theorem d_Fitting_codeFits_63 : decode c_Fitting_codeFits 63 = .ok (.aload_n 0, 1) := by decide +kernel
theorem d_Fitting_codeFits_64 : decode c_Fitting_codeFits 64 = .ok (.getfield 24, 3) := by decide +kernel
theorem d_Fitting_codeFits_67 : decode c_Fitting_codeFits 67 = .ok (.getfield 49, 3) := by decide +kernel
theorem d_Fitting_codeFits_70 : decode c_Fitting_codeFits 70 = .ok (.iload 4, 2) := by decide +kernel
theorem d_Fitting_codeFits_72 : decode c_Fitting_codeFits 72 = .ok (.iaload, 1) := by decide +kernel
theorem d_Fitting_codeFits_73 : decode c_Fitting_codeFits 73 = .ok (.aload_n 0, 1) := by decide +kernel
theorem d_Fitting_codeFits_74 : decode c_Fitting_codeFits 74 = .ok (.getfield 24, 3) := by decide +kernel
theorem d_Fitting_codeFits_77 : decode c_Fitting_codeFits 77 = .ok (.getfield 54, 3) := by decide +kernel
theorem d_Fitting_codeFits_80 : decode c_Fitting_codeFits 80 = .ok (.iload 4, 2) := by decide +kernel
theorem d_Fitting_codeFits_82 : decode c_Fitting_codeFits 82 = .ok (.iaload, 1) := by decide +kernel
theorem d_Fitting_codeFits_83 : decode c_Fitting_codeFits 83 = .ok (.invokevirtual 57, 3) := by decide +kernel
theorem d_Fitting_codeFits_86 : decode c_Fitting_codeFits 86 = .ok (.aload_n 0, 1) := by decide +kernel
theorem d_Fitting_codeFits_87 : decode c_Fitting_codeFits 87 = .ok (.iload_n 3, 1) := by decide +kernel
theorem d_Fitting_codeFits_88 : decode c_Fitting_codeFits 88 = .ok (.aload_n 0, 1) := by decide +kernel
theorem d_Fitting_codeFits_89 : decode c_Fitting_codeFits 89 = .ok (.getfield 24, 3) := by decide +kernel
theorem d_Fitting_codeFits_92 : decode c_Fitting_codeFits 92 = .ok (.getfield 49, 3) := by decide +kernel
theorem d_Fitting_codeFits_95 : decode c_Fitting_codeFits 95 = .ok (.iload 4, 2) := by decide +kernel
theorem d_Fitting_codeFits_97 : decode c_Fitting_codeFits 97 = .ok (.iaload, 1) := by decide +kernel
theorem d_Fitting_codeFits_98 : decode c_Fitting_codeFits 98 = .ok (.aload_n 0, 1) := by decide +kernel
theorem d_Fitting_codeFits_99 : decode c_Fitting_codeFits 99 = .ok (.getfield 24, 3) := by decide +kernel
theorem d_Fitting_codeFits_102 : decode c_Fitting_codeFits 102 = .ok (.getfield 54, 3) := by decide +kernel
theorem d_Fitting_codeFits_105 : decode c_Fitting_codeFits 105 = .ok (.iload 4, 2) := by decide +kernel
theorem d_Fitting_codeFits_107 : decode c_Fitting_codeFits 107 = .ok (.iaload, 1) := by decide +kernel
theorem d_Fitting_codeFits_108 : decode c_Fitting_codeFits 108 = .ok (.invokevirtual 61, 3) := by decide +kernel
theorem d_Fitting_codeFits_111 : decode c_Fitting_codeFits 111 = .ok (.iinc 2 (1), 3) := by decide +kernel
theorem d_Fitting_codeFits_114 : decode c_Fitting_codeFits 114 = .ok (.goto (-102), 3) := by decide +kernel
theorem d_Fitting_codeFits_117 : decode c_Fitting_codeFits 117 = .ok (.aload_n 0, 1) := by decide +kernel
theorem d_Fitting_codeFits_118 : decode c_Fitting_codeFits 118 = .ok (.getfield 39, 3) := by decide +kernel
theorem d_Fitting_codeFits_121 : decode c_Fitting_codeFits 121 = .ok (.ifCond .eq (26), 3) := by decide +kernel
theorem d_Fitting_codeFits_124 : decode c_Fitting_codeFits 124 = .ok (.aload_n 0, 1) := by decide +kernel
theorem d_Fitting_codeFits_125 : decode c_Fitting_codeFits 125 = .ok (.getfield 35, 3) := by decide +kernel
theorem d_Fitting_codeFits_128 : decode c_Fitting_codeFits 128 = .ok (.aload_n 0, 1) := by decide +kernel
theorem d_Fitting_codeFits_129 : decode c_Fitting_codeFits 129 = .ok (.getfield 24, 3) := by decide +kernel
theorem d_Fitting_codeFits_132 : decode c_Fitting_codeFits 132 = .ok (.getfield 65, 3) := by decide +kernel
theorem d_Fitting_codeFits_135 : decode c_Fitting_codeFits 135 = .ok (.aload_n 0, 1) := by decide +kernel
theorem d_Fitting_codeFits_136 : decode c_Fitting_codeFits 136 = .ok (.getfield 43, 3) := by decide +kernel
theorem d_Fitting_codeFits_139 : decode c_Fitting_codeFits 139 = .ok (.iaload, 1) := by decide +kernel
theorem d_Fitting_codeFits_140 : decode c_Fitting_codeFits 140 = .ok (.if_icmp .ne (7), 3) := by decide +kernel
theorem d_Fitting_codeFits_143 : decode c_Fitting_codeFits 143 = .ok (.iconst (1), 1) := by decide +kernel
theorem d_Fitting_codeFits_144 : decode c_Fitting_codeFits 144 = .ok (.goto (4), 3) := by decide +kernel
theorem d_Fitting_codeFits_147 : decode c_Fitting_codeFits 147 = .ok (.iconst (0), 1) := by decide +kernel
theorem d_Fitting_codeFits_148 : decode c_Fitting_codeFits 148 = .ok (.ireturn, 1) := by decide +kernel
def fx_Fitting_codeFits_b148 (σ : tx_St) (s0 : Int32) : Option (Int32 × tx_St) := tx_rz s0 σ
def fx_Fitting_codeFits_b147 (σ : tx_St) : Option (Int32 × tx_St) := fx_Fitting_codeFits_b148  σ (0 : Int32)
def fx_Fitting_codeFits_b117 (σ : tx_St) : Option (Int32 × tx_St) := (if (σ 15 8) = 0 then fx_Fitting_codeFits_b147  σ else tx_rd σ 12 8 (σ 15 7) fun v16 => (if (σ 15 5) = v16 then fx_Fitting_codeFits_b148  σ (1 : Int32) else fx_Fitting_codeFits_b147  σ))
def fx_Fitting_codeFits_b12 : Nat → tx_St → Int32 → Option (Int32 × tx_St)
  | 0, _, _ => none
  | n + 1, σ, x2 => (if (12 : Int32) ≤ x2 then fx_Fitting_codeFits_b117  σ else (if (σ 15 5) ≤ x2 then fx_Fitting_codeFits_b117  σ else (if (σ 15 8) = 0 then fx_Fitting_codeFits_b117  σ else tx_rd σ 19 12 x2 fun v6 => tx_rd σ 16 96 (((σ 15 7) * (12 : Int32)) + v6) fun v7 => tx_cv (fx_Fitting_unpack σ v7) fun σ8 => tx_rd σ8 13 96 (((σ 15 7) * (12 : Int32)) + v6) fun v9 => tx_rd σ8 14 96 (((σ 15 7) * (12 : Int32)) + v6) fun v10 => tx_cv (fx_Fitting_apply σ8 v9 v10) fun σ11 => tx_rd σ11 13 96 (((σ 15 7) * (12 : Int32)) + v6) fun v12 => tx_rd σ11 14 96 (((σ 15 7) * (12 : Int32)) + v6) fun v13 => tx_cv (fx_Fitting_leave σ11 v6 v12 v13) fun σ14 => fx_Fitting_codeFits_b12 n σ14 (x2 + (1 : Int32)))))
def fx_Fitting_codeFits (σ : tx_St) (x1 : Int32) : Option (Int32 × tx_St) := tx_cv (fx_Fitting_begin σ x1) fun σ1 => tx_cv (fx_Fitting_arriveAt σ1 (0 : Int32)) fun σ2 => fx_Fitting_codeFits_b12  tx_fu σ2 (0 : Int32)
set_option maxRecDepth 100000 in
set_option maxHeartbeats 4000000 in
theorem fx_Fitting_codeFits_b148_w {l : Launch} {E : tx_E} (σ : tx_St) (s0 : Int32) (t : Int32 × tx_St) (hT : fx_Fitting_codeFits_b148 σ s0 = some t) : gx l E mi_Fitting_codeFits (some (.int t.1), t.2) σ [] 148 [.int s0] := by
  unfold fx_Fitting_codeFits_b148 at hT
  obtain ⟨hz, hT⟩ := tx_rz_some hT
  cases hT
  exact gx_zret (pc := 148) d_Fitting_codeFits_148 rfl hz rfl
set_option maxRecDepth 100000 in
set_option maxHeartbeats 4000000 in
theorem fx_Fitting_codeFits_b147_w {l : Launch} {E : tx_E} (σ : tx_St) (t : Int32 × tx_St) (hT : fx_Fitting_codeFits_b147 σ  = some t) : gx l E mi_Fitting_codeFits (some (.int t.1), t.2) σ [] 147 [] := by
  unfold fx_Fitting_codeFits_b147 at hT
  refine gx_iconst (pc := 147) (0 : Int32) d_Fitting_codeFits_147 (by decide) ?_
  exact fx_Fitting_codeFits_b148_w  σ (0 : Int32) _ hT
set_option maxRecDepth 100000 in
set_option maxHeartbeats 4000000 in
theorem fx_Fitting_codeFits_b117_w {l : Launch} {E : tx_E} (σ : tx_St) (t : Int32 × tx_St) (hT : fx_Fitting_codeFits_b117 σ  = some t) : gx l E mi_Fitting_codeFits (some (.int t.1), t.2) σ [(0, .ref (E.1 15))] 117 [] := by
  unfold fx_Fitting_codeFits_b117 at hT
  refine gx_aload_n (pc := 117) 0 d_Fitting_codeFits_117 rfl rfl ?_
  refine gx_getI (pc := 118) (σ 15 8) fl_Fitting_39 d_Fitting_codeFits_118 (rfl) (by decide) rfl rfl ?_
  refine gx_if_eq (pc := 121) 147 d_Fitting_codeFits_121 rfl (fun h15 => ?_) (fun h15 => ?_)
  · have hT := tx_ifp h15 hT
    refine gx_sub [] rfl ?_
    exact fx_Fitting_codeFits_b147_w  σ _ hT
  · have hT := tx_ifn h15 hT
    refine gx_aload_n (pc := 124) 0 d_Fitting_codeFits_124 rfl rfl ?_
    refine gx_getI (pc := 125) (σ 15 5) fl_Fitting_35 d_Fitting_codeFits_125 (rfl) (by decide) rfl rfl ?_
    refine gx_aload_n (pc := 128) 0 d_Fitting_codeFits_128 rfl rfl ?_
    refine gx_getR (pc := 129) 1 fl_Fitting_24 d_Fitting_codeFits_129 (rfl) (by decide) rfl ?_
    refine gx_getR (pc := 132) 12 fl_Fitting_65 d_Fitting_codeFits_132 (rfl) (by decide) rfl ?_
    refine gx_aload_n (pc := 135) 0 d_Fitting_codeFits_135 rfl rfl ?_
    refine gx_getI (pc := 136) (σ 15 7) fl_Fitting_43 d_Fitting_codeFits_136 (rfl) (by decide) rfl rfl ?_
    obtain ⟨v16, gv16, iv16, hT⟩ := tx_rd_some hT
    refine gx_iald (pc := 139) v16 d_Fitting_codeFits_139 (rfl) iv16 gv16 ?_
    refine gx_icmp_ne (pc := 140) 147 d_Fitting_codeFits_140 rfl (fun h17 => ?_) (fun h17 => ?_)
    · have hT := tx_ifn h17 hT
      refine gx_sub [] rfl ?_
      exact fx_Fitting_codeFits_b147_w  σ _ hT
    · have hT := tx_ifp h17 hT
      refine gx_iconst (pc := 143) (1 : Int32) d_Fitting_codeFits_143 (by decide) ?_
      refine gx_goto (pc := 144) 148 d_Fitting_codeFits_144 rfl ?_
      refine gx_sub [] rfl ?_
      exact fx_Fitting_codeFits_b148_w  σ (1 : Int32) _ hT
set_option maxRecDepth 100000 in
set_option maxHeartbeats 4000000 in
theorem fx_Fitting_codeFits_b12_w {l : Launch} {E : tx_E} : ∀ (n : Nat) (σ : tx_St) (x2 : Int32) (t : Int32 × tx_St), fx_Fitting_codeFits_b12 n σ x2 = some t → gx l E mi_Fitting_codeFits (some (.int t.1), t.2) σ [(0, .ref (E.1 15)), (2, .int x2)] 12 [] := by
  intro n
  induction n with
  | zero => intro σ x2 t hT; cases hT
  | succ n ih =>
    intro σ x2 t hT
    rw [fx_Fitting_codeFits_b12] at hT
    refine gx_iload_n (pc := 12) 1 d_Fitting_codeFits_12 rfl rfl ?_
    refine gx_bipush (pc := 13) (12 : Int32) d_Fitting_codeFits_13 (by decide) ?_
    refine gx_icmp_ge (pc := 15) 117 d_Fitting_codeFits_15 rfl (fun h3 => ?_) (fun h3 => ?_)
    · have hT := tx_ifp h3 hT
      refine gx_sub [0] rfl ?_
      exact fx_Fitting_codeFits_b117_w  σ _ hT
    · have hT := tx_ifn h3 hT
      refine gx_iload_n (pc := 18) 1 d_Fitting_codeFits_18 rfl rfl ?_
      refine gx_aload_n (pc := 19) 0 d_Fitting_codeFits_19 rfl rfl ?_
      refine gx_getI (pc := 20) (σ 15 5) fl_Fitting_35 d_Fitting_codeFits_20 (rfl) (by decide) rfl rfl ?_
      refine gx_icmp_ge (pc := 23) 117 d_Fitting_codeFits_23 rfl (fun h4 => ?_) (fun h4 => ?_)
      · have hT := tx_ifp h4 hT
        refine gx_sub [0] rfl ?_
        exact fx_Fitting_codeFits_b117_w  σ _ hT
      · have hT := tx_ifn h4 hT
        refine gx_aload_n (pc := 26) 0 d_Fitting_codeFits_26 rfl rfl ?_
        refine gx_getI (pc := 27) (σ 15 8) fl_Fitting_39 d_Fitting_codeFits_27 (rfl) (by decide) rfl rfl ?_
        refine gx_if_eq (pc := 30) 117 d_Fitting_codeFits_30 rfl (fun h5 => ?_) (fun h5 => ?_)
        · have hT := tx_ifp h5 hT
          refine gx_sub [0] rfl ?_
          exact fx_Fitting_codeFits_b117_w  σ _ hT
        · have hT := tx_ifn h5 hT
          refine gx_aload_n (pc := 33) 0 d_Fitting_codeFits_33 rfl rfl ?_
          refine gx_getR (pc := 34) 19 fl_Fitting_21 d_Fitting_codeFits_34 (rfl) (by decide) rfl ?_
          refine gx_iload_n (pc := 37) 1 d_Fitting_codeFits_37 rfl rfl ?_
          obtain ⟨v6, gv6, iv6, hT⟩ := tx_rd_some hT
          refine gx_iald (pc := 38) v6 d_Fitting_codeFits_38 (rfl) iv6 gv6 ?_
          refine gx_istore_n (pc := 39) [(3, .int v6), (0, .ref (E.1 15)), (2, .int x2)] d_Fitting_codeFits_39 rfl (Nat.le_of_ble_eq_true rfl) rfl ?_
          refine gx_aload_n (pc := 40) 1 d_Fitting_codeFits_40 rfl rfl ?_
          refine gx_getI (pc := 41) (σ 15 7) fl_Fitting_43 d_Fitting_codeFits_41 (rfl) (by decide) rfl rfl ?_
          refine gx_bipush (pc := 44) (12 : Int32) d_Fitting_codeFits_44 (by decide) ?_
          refine gx_imul (pc := 46) d_Fitting_codeFits_46 ?_
          refine gx_iload_n (pc := 47) 0 d_Fitting_codeFits_47 rfl rfl ?_
          refine gx_iadd (pc := 48) d_Fitting_codeFits_48 ?_
          refine gx_istore (pc := 49) [(4, .int (((σ 15 7) * (12 : Int32)) + v6)), (3, .int v6), (0, .ref (E.1 15)), (2, .int x2)] d_Fitting_codeFits_49 (Nat.le_of_ble_eq_true rfl) rfl ?_
          refine gx_aload_n (pc := 51) 2 d_Fitting_codeFits_51 rfl rfl ?_
          refine gx_aload_n (pc := 52) 2 d_Fitting_codeFits_52 rfl rfl ?_
          refine gx_getR (pc := 53) 16 fl_Fitting_9 d_Fitting_codeFits_53 (rfl) (by decide) rfl ?_
          refine gx_iload (pc := 56) 0 d_Fitting_codeFits_56 rfl ?_
          obtain ⟨v7, gv7, iv7, hT⟩ := tx_rd_some hT
          refine gx_iald (pc := 58) v7 d_Fitting_codeFits_58 (rfl) iv7 gv7 ?_
          obtain ⟨σ8, cσ8, hT⟩ := tx_cv_some hT
          refine gx_callV (pc := 59) (As := [.int v7]) (rest := []) cm_Fitting_unpack lk_Fitting_46 (fx_Fitting_unpack_c l E σ v7 _ cσ8) (rfl) (by decide) rfl rfl tx_fi_Fitting_codeFits_Fitting_unpack (Nat.le_of_ble_eq_true rfl) d_Fitting_codeFits_59 ?_
          change gx l E mi_Fitting_codeFits _ σ8 [(4, .int (((σ 15 7) * (12 : Int32)) + v6)), (3, .int v6), (0, .ref (E.1 15)), (2, .int x2)] 62 []
          refine gx_aload_n (pc := 62) 2 d_Fitting_codeFits_62 rfl rfl ?_
          refine gx_aload_n (pc := 63) 2 d_Fitting_codeFits_63 rfl rfl ?_
          refine gx_getR (pc := 64) 1 fl_Fitting_24 d_Fitting_codeFits_64 (rfl) (by decide) rfl ?_
          refine gx_getR (pc := 67) 13 fl_Fitting_49 d_Fitting_codeFits_67 (rfl) (by decide) rfl ?_
          refine gx_iload (pc := 70) 0 d_Fitting_codeFits_70 rfl ?_
          obtain ⟨v9, gv9, iv9, hT⟩ := tx_rd_some hT
          refine gx_iald (pc := 72) v9 d_Fitting_codeFits_72 (rfl) iv9 gv9 ?_
          refine gx_aload_n (pc := 73) 2 d_Fitting_codeFits_73 rfl rfl ?_
          refine gx_getR (pc := 74) 1 fl_Fitting_24 d_Fitting_codeFits_74 (rfl) (by decide) rfl ?_
          refine gx_getR (pc := 77) 14 fl_Fitting_54 d_Fitting_codeFits_77 (rfl) (by decide) rfl ?_
          refine gx_iload (pc := 80) 0 d_Fitting_codeFits_80 rfl ?_
          obtain ⟨v10, gv10, iv10, hT⟩ := tx_rd_some hT
          refine gx_iald (pc := 82) v10 d_Fitting_codeFits_82 (rfl) iv10 gv10 ?_
          obtain ⟨σ11, cσ11, hT⟩ := tx_cv_some hT
          refine gx_callV (pc := 83) (As := [.int v9, .int v10]) (rest := []) cm_Fitting_apply lk_Fitting_57 (fx_Fitting_apply_c l E σ8 v9 v10 _ cσ11) (rfl) (by decide) rfl rfl tx_fi_Fitting_codeFits_Fitting_apply (Nat.le_of_ble_eq_true rfl) d_Fitting_codeFits_83 ?_
          change gx l E mi_Fitting_codeFits _ σ11 [(4, .int (((σ 15 7) * (12 : Int32)) + v6)), (3, .int v6), (0, .ref (E.1 15)), (2, .int x2)] 86 []
          refine gx_aload_n (pc := 86) 2 d_Fitting_codeFits_86 rfl rfl ?_
          refine gx_iload_n (pc := 87) 1 d_Fitting_codeFits_87 rfl rfl ?_
          refine gx_aload_n (pc := 88) 2 d_Fitting_codeFits_88 rfl rfl ?_
          refine gx_getR (pc := 89) 1 fl_Fitting_24 d_Fitting_codeFits_89 (rfl) (by decide) rfl ?_
          refine gx_getR (pc := 92) 13 fl_Fitting_49 d_Fitting_codeFits_92 (rfl) (by decide) rfl ?_
          refine gx_iload (pc := 95) 0 d_Fitting_codeFits_95 rfl ?_
          obtain ⟨v12, gv12, iv12, hT⟩ := tx_rd_some hT
          refine gx_iald (pc := 97) v12 d_Fitting_codeFits_97 (rfl) iv12 gv12 ?_
          refine gx_aload_n (pc := 98) 2 d_Fitting_codeFits_98 rfl rfl ?_
          refine gx_getR (pc := 99) 1 fl_Fitting_24 d_Fitting_codeFits_99 (rfl) (by decide) rfl ?_
          refine gx_getR (pc := 102) 14 fl_Fitting_54 d_Fitting_codeFits_102 (rfl) (by decide) rfl ?_
          refine gx_iload (pc := 105) 0 d_Fitting_codeFits_105 rfl ?_
          obtain ⟨v13, gv13, iv13, hT⟩ := tx_rd_some hT
          refine gx_iald (pc := 107) v13 d_Fitting_codeFits_107 (rfl) iv13 gv13 ?_
          obtain ⟨σ14, cσ14, hT⟩ := tx_cv_some hT
          refine gx_callV (pc := 108) (As := [.int v6, .int v12, .int v13]) (rest := []) cm_Fitting_leave lk_Fitting_61 (fx_Fitting_leave_c l E σ11 v6 v12 v13 _ cσ14) (rfl) (by decide) rfl rfl tx_fi_Fitting_codeFits_Fitting_leave (Nat.le_of_ble_eq_true rfl) d_Fitting_codeFits_108 ?_
          change gx l E mi_Fitting_codeFits _ σ14 [(4, .int (((σ 15 7) * (12 : Int32)) + v6)), (3, .int v6), (0, .ref (E.1 15)), (2, .int x2)] 111 []
          refine gx_iinc (pc := 111) (x2 + (1 : Int32)) 3 [(2, .int (x2 + (1 : Int32))), (4, .int (((σ 15 7) * (12 : Int32)) + v6)), (3, .int v6), (0, .ref (E.1 15))] d_Fitting_codeFits_111 rfl (tx_inc (by decide)) (Nat.le_of_ble_eq_true rfl) rfl ?_
          refine gx_goto (pc := 114) 12 d_Fitting_codeFits_114 rfl ?_
          refine gx_sub [3, 0] rfl ?_
          exact ih σ14 (x2 + (1 : Int32)) _ hT
set_option maxRecDepth 100000 in
set_option maxHeartbeats 4000000 in
theorem fx_Fitting_codeFits_c (l : Launch) (E : tx_E) (σ : tx_St) (x1 : Int32) (t : Int32 × tx_St) (hT : fx_Fitting_codeFits σ x1 = some t) : tx_MX l E y_Fitting_codeFits mi_Fitting_codeFits (some (.int t.1), t.2) [.ref (E.1 15), .int x1] σ := by
  refine tx_MX_of (by decide) rfl (Nat.le_of_ble_eq_true rfl) ?_
  show gx l E mi_Fitting_codeFits (some (.int t.1), t.2) σ [(0, .ref (E.1 15)), (1, .int x1)] 0 []
  unfold fx_Fitting_codeFits at hT
  refine gx_aload_n (pc := 0) 0 d_Fitting_codeFits_0 rfl rfl ?_
  refine gx_iload_n (pc := 1) 1 d_Fitting_codeFits_1 rfl rfl ?_
  obtain ⟨σ1, cσ1, hT⟩ := tx_cv_some hT
  refine gx_callV (pc := 2) (As := [.int x1]) (rest := []) cm_Fitting_begin lk_Fitting_28 (fx_Fitting_begin_c l E σ x1 _ cσ1) (rfl) (by decide) rfl rfl tx_fi_Fitting_codeFits_Fitting_begin (Nat.le_of_ble_eq_true rfl) d_Fitting_codeFits_2 ?_
  change gx l E mi_Fitting_codeFits _ σ1 [(0, .ref (E.1 15)), (1, .int x1)] 5 []
  refine gx_aload_n (pc := 5) 0 d_Fitting_codeFits_5 rfl rfl ?_
  refine gx_iconst (pc := 6) (0 : Int32) d_Fitting_codeFits_6 (by decide) ?_
  obtain ⟨σ2, cσ2, hT⟩ := tx_cv_some hT
  refine gx_callV (pc := 7) (As := [.int (0 : Int32)]) (rest := []) cm_Fitting_arriveAt lk_Fitting_32 (fx_Fitting_arriveAt_c l E σ1 (0 : Int32) _ cσ2) (rfl) (by decide) rfl rfl tx_fi_Fitting_codeFits_Fitting_arriveAt (Nat.le_of_ble_eq_true rfl) d_Fitting_codeFits_7 ?_
  change gx l E mi_Fitting_codeFits _ σ2 [(0, .ref (E.1 15)), (1, .int x1)] 10 []
  refine gx_iconst (pc := 10) (0 : Int32) d_Fitting_codeFits_10 (by decide) ?_
  refine gx_istore_n (pc := 11) [(2, .int (0 : Int32)), (0, .ref (E.1 15)), (1, .int x1)] d_Fitting_codeFits_11 rfl (Nat.le_of_ble_eq_true rfl) rfl ?_
  refine gx_sub [1, 0] rfl ?_
  exact fx_Fitting_codeFits_b12_w  tx_fu σ2 (0 : Int32) _ hT
theorem d_Fitting_comparesImmutable_0 : decode c_Fitting_comparesImmutable 0 = .ok (.aload_n 0, 1) := by decide +kernel
theorem d_Fitting_comparesImmutable_1 : decode c_Fitting_comparesImmutable 1 = .ok (.aload_n 0, 1) := by decide +kernel
theorem d_Fitting_comparesImmutable_2 : decode c_Fitting_comparesImmutable 2 = .ok (.getfield 9, 3) := by decide +kernel
theorem d_Fitting_comparesImmutable_5 : decode c_Fitting_comparesImmutable 5 = .ok (.iload_n 1, 1) := by decide +kernel
theorem d_Fitting_comparesImmutable_6 : decode c_Fitting_comparesImmutable 6 = .ok (.bipush (12), 2) := by decide +kernel
theorem d_Fitting_comparesImmutable_8 : decode c_Fitting_comparesImmutable 8 = .ok (.imul, 1) := by decide +kernel
theorem d_Fitting_comparesImmutable_9 : decode c_Fitting_comparesImmutable 9 = .ok (.iload_n 2, 1) := by decide +kernel
theorem d_Fitting_comparesImmutable_10 : decode c_Fitting_comparesImmutable 10 = .ok (.iadd, 1) := by decide +kernel
theorem d_Fitting_comparesImmutable_11 : decode c_Fitting_comparesImmutable 11 = .ok (.iaload, 1) := by decide +kernel
theorem d_Fitting_comparesImmutable_12 : decode c_Fitting_comparesImmutable 12 = .ok (.invokevirtual 46, 3) := by decide +kernel
theorem d_Fitting_comparesImmutable_15 : decode c_Fitting_comparesImmutable 15 = .ok (.aload_n 0, 1) := by decide +kernel
theorem d_Fitting_comparesImmutable_16 : decode c_Fitting_comparesImmutable 16 = .ok (.getfield 68, 3) := by decide +kernel
theorem d_Fitting_comparesImmutable_19 : decode c_Fitting_comparesImmutable 19 = .ok (.iconst (2), 1) := by decide +kernel
theorem d_Fitting_comparesImmutable_20 : decode c_Fitting_comparesImmutable 20 = .ok (.if_icmp .lt (49), 3) := by decide +kernel
theorem d_Fitting_comparesImmutable_23 : decode c_Fitting_comparesImmutable 23 = .ok (.aload_n 0, 1) := by decide +kernel
theorem d_Fitting_comparesImmutable_24 : decode c_Fitting_comparesImmutable 24 = .ok (.getfield 24, 3) := by decide +kernel
theorem d_Fitting_comparesImmutable_27 : decode c_Fitting_comparesImmutable 27 = .ok (.aload_n 0, 1) := by decide +kernel
theorem d_Fitting_comparesImmutable_28 : decode c_Fitting_comparesImmutable 28 = .ok (.getfield 15, 3) := by decide +kernel
theorem d_Fitting_comparesImmutable_31 : decode c_Fitting_comparesImmutable 31 = .ok (.aload_n 0, 1) := by decide +kernel
theorem d_Fitting_comparesImmutable_32 : decode c_Fitting_comparesImmutable 32 = .ok (.getfield 68, 3) := by decide +kernel
theorem d_Fitting_comparesImmutable_35 : decode c_Fitting_comparesImmutable 35 = .ok (.iconst (1), 1) := by decide +kernel
theorem d_Fitting_comparesImmutable_36 : decode c_Fitting_comparesImmutable 36 = .ok (.isub, 1) := by decide +kernel
theorem d_Fitting_comparesImmutable_37 : decode c_Fitting_comparesImmutable 37 = .ok (.iaload, 1) := by decide +kernel
theorem d_Fitting_comparesImmutable_38 : decode c_Fitting_comparesImmutable 38 = .ok (.invokevirtual 71, 3) := by decide +kernel
theorem d_Fitting_comparesImmutable_41 : decode c_Fitting_comparesImmutable 41 = .ok (.ifCond .ne (24), 3) := by decide +kernel
theorem d_Fitting_comparesImmutable_44 : decode c_Fitting_comparesImmutable 44 = .ok (.aload_n 0, 1) := by decide +kernel
theorem d_Fitting_comparesImmutable_45 : decode c_Fitting_comparesImmutable 45 = .ok (.getfield 24, 3) := by decide +kernel
theorem d_Fitting_comparesImmutable_48 : decode c_Fitting_comparesImmutable 48 = .ok (.aload_n 0, 1) := by decide +kernel
theorem d_Fitting_comparesImmutable_49 : decode c_Fitting_comparesImmutable 49 = .ok (.getfield 15, 3) := by decide +kernel
theorem d_Fitting_comparesImmutable_52 : decode c_Fitting_comparesImmutable 52 = .ok (.aload_n 0, 1) := by decide +kernel
theorem d_Fitting_comparesImmutable_53 : decode c_Fitting_comparesImmutable 53 = .ok (.getfield 68, 3) := by decide +kernel
theorem d_Fitting_comparesImmutable_56 : decode c_Fitting_comparesImmutable 56 = .ok (.iconst (2), 1) := by decide +kernel
theorem d_Fitting_comparesImmutable_57 : decode c_Fitting_comparesImmutable 57 = .ok (.isub, 1) := by decide +kernel
theorem d_Fitting_comparesImmutable_58 : decode c_Fitting_comparesImmutable 58 = .ok (.iaload, 1) := by decide +kernel
theorem d_Fitting_comparesImmutable_59 : decode c_Fitting_comparesImmutable 59 = .ok (.invokevirtual 71, 3) := by decide +kernel
theorem d_Fitting_comparesImmutable_62 : decode c_Fitting_comparesImmutable 62 = .ok (.ifCond .eq (7), 3) := by decide +kernel
theorem d_Fitting_comparesImmutable_65 : decode c_Fitting_comparesImmutable 65 = .ok (.iconst (1), 1) := by decide +kernel
theorem d_Fitting_comparesImmutable_66 : decode c_Fitting_comparesImmutable 66 = .ok (.goto (4), 3) := by decide +kernel
theorem d_Fitting_comparesImmutable_69 : decode c_Fitting_comparesImmutable 69 = .ok (.iconst (0), 1) := by decide +kernel
theorem d_Fitting_comparesImmutable_70 : decode c_Fitting_comparesImmutable 70 = .ok (.ireturn, 1) := by decide +kernel
def fx_Fitting_comparesImmutable_b70 (σ : tx_St) (s0 : Int32) : Option (Int32 × tx_St) := tx_rz s0 σ
def fx_Fitting_comparesImmutable_b69 (σ : tx_St) : Option (Int32 × tx_St) := fx_Fitting_comparesImmutable_b70  σ (0 : Int32)
def fx_Fitting_comparesImmutable_b65 (σ : tx_St) : Option (Int32 × tx_St) := fx_Fitting_comparesImmutable_b70  σ (1 : Int32)
def fx_Fitting_comparesImmutable (σ : tx_St) (x1 : Int32) (x2 : Int32) : Option (Int32 × tx_St) := tx_rd σ 16 96 ((x1 * (12 : Int32)) + x2) fun v1 => tx_cv (fx_Fitting_unpack σ v1) fun σ2 => (if (σ2 15 6) < (2 : Int32) then fx_Fitting_comparesImmutable_b69  σ2 else tx_rd σ2 17 4 ((σ2 15 6) - (1 : Int32)) fun v4 => tx_ci (fx_Plan_isImmutable σ2 v4) fun r6 σ5 => (if r6 = 0 then tx_rd σ5 17 4 ((σ5 15 6) - (2 : Int32)) fun v8 => tx_ci (fx_Plan_isImmutable σ5 v8) fun r10 σ9 => (if r10 = 0 then fx_Fitting_comparesImmutable_b69  σ9 else fx_Fitting_comparesImmutable_b65  σ9) else fx_Fitting_comparesImmutable_b65  σ5))
set_option maxRecDepth 100000 in
set_option maxHeartbeats 4000000 in
theorem fx_Fitting_comparesImmutable_b70_w {l : Launch} {E : tx_E} (σ : tx_St) (s0 : Int32) (t : Int32 × tx_St) (hT : fx_Fitting_comparesImmutable_b70 σ s0 = some t) : gx l E mi_Fitting_comparesImmutable (some (.int t.1), t.2) σ [] 70 [.int s0] := by
  unfold fx_Fitting_comparesImmutable_b70 at hT
  obtain ⟨hz, hT⟩ := tx_rz_some hT
  cases hT
  exact gx_zret (pc := 70) d_Fitting_comparesImmutable_70 rfl hz rfl
set_option maxRecDepth 100000 in
set_option maxHeartbeats 4000000 in
theorem fx_Fitting_comparesImmutable_b69_w {l : Launch} {E : tx_E} (σ : tx_St) (t : Int32 × tx_St) (hT : fx_Fitting_comparesImmutable_b69 σ  = some t) : gx l E mi_Fitting_comparesImmutable (some (.int t.1), t.2) σ [] 69 [] := by
  unfold fx_Fitting_comparesImmutable_b69 at hT
  refine gx_iconst (pc := 69) (0 : Int32) d_Fitting_comparesImmutable_69 (by decide) ?_
  exact fx_Fitting_comparesImmutable_b70_w  σ (0 : Int32) _ hT
set_option maxRecDepth 100000 in
set_option maxHeartbeats 4000000 in
theorem fx_Fitting_comparesImmutable_b65_w {l : Launch} {E : tx_E} (σ : tx_St) (t : Int32 × tx_St) (hT : fx_Fitting_comparesImmutable_b65 σ  = some t) : gx l E mi_Fitting_comparesImmutable (some (.int t.1), t.2) σ [] 65 [] := by
  unfold fx_Fitting_comparesImmutable_b65 at hT
  refine gx_iconst (pc := 65) (1 : Int32) d_Fitting_comparesImmutable_65 (by decide) ?_
  refine gx_goto (pc := 66) 70 d_Fitting_comparesImmutable_66 rfl ?_
  exact fx_Fitting_comparesImmutable_b70_w  σ (1 : Int32) _ hT
set_option maxRecDepth 100000 in
set_option maxHeartbeats 4000000 in
theorem fx_Fitting_comparesImmutable_c (l : Launch) (E : tx_E) (σ : tx_St) (x1 : Int32) (x2 : Int32) (t : Int32 × tx_St) (hT : fx_Fitting_comparesImmutable σ x1 x2 = some t) : tx_MX l E y_Fitting_comparesImmutable mi_Fitting_comparesImmutable (some (.int t.1), t.2) [.ref (E.1 15), .int x1, .int x2] σ := by
  refine tx_MX_of (by decide) rfl (Nat.le_of_ble_eq_true rfl) ?_
  show gx l E mi_Fitting_comparesImmutable (some (.int t.1), t.2) σ [(0, .ref (E.1 15)), (1, .int x1), (2, .int x2)] 0 []
  unfold fx_Fitting_comparesImmutable at hT
  refine gx_aload_n (pc := 0) 0 d_Fitting_comparesImmutable_0 rfl rfl ?_
  refine gx_aload_n (pc := 1) 0 d_Fitting_comparesImmutable_1 rfl rfl ?_
  refine gx_getR (pc := 2) 16 fl_Fitting_9 d_Fitting_comparesImmutable_2 (rfl) (by decide) rfl ?_
  refine gx_iload_n (pc := 5) 1 d_Fitting_comparesImmutable_5 rfl rfl ?_
  refine gx_bipush (pc := 6) (12 : Int32) d_Fitting_comparesImmutable_6 (by decide) ?_
  refine gx_imul (pc := 8) d_Fitting_comparesImmutable_8 ?_
  refine gx_iload_n (pc := 9) 2 d_Fitting_comparesImmutable_9 rfl rfl ?_
  refine gx_iadd (pc := 10) d_Fitting_comparesImmutable_10 ?_
  obtain ⟨v1, gv1, iv1, hT⟩ := tx_rd_some hT
  refine gx_iald (pc := 11) v1 d_Fitting_comparesImmutable_11 (rfl) iv1 gv1 ?_
  obtain ⟨σ2, cσ2, hT⟩ := tx_cv_some hT
  refine gx_callV (pc := 12) (As := [.int v1]) (rest := []) cm_Fitting_unpack lk_Fitting_46 (fx_Fitting_unpack_c l E σ v1 _ cσ2) (rfl) (by decide) rfl rfl tx_fi_Fitting_comparesImmutable_Fitting_unpack (Nat.le_of_ble_eq_true rfl) d_Fitting_comparesImmutable_12 ?_
  change gx l E mi_Fitting_comparesImmutable _ σ2 [(0, .ref (E.1 15)), (1, .int x1), (2, .int x2)] 15 []
  refine gx_aload_n (pc := 15) 0 d_Fitting_comparesImmutable_15 rfl rfl ?_
  refine gx_getI (pc := 16) (σ2 15 6) fl_Fitting_68 d_Fitting_comparesImmutable_16 (rfl) (by decide) rfl rfl ?_
  refine gx_iconst (pc := 19) (2 : Int32) d_Fitting_comparesImmutable_19 (by decide) ?_
  refine gx_icmp_lt (pc := 20) 69 d_Fitting_comparesImmutable_20 rfl (fun h3 => ?_) (fun h3 => ?_)
  · have hT := tx_ifp h3 hT
    refine gx_sub [] rfl ?_
    exact fx_Fitting_comparesImmutable_b69_w  σ2 _ hT
  · have hT := tx_ifn h3 hT
    refine gx_aload_n (pc := 23) 0 d_Fitting_comparesImmutable_23 rfl rfl ?_
    refine gx_getR (pc := 24) 1 fl_Fitting_24 d_Fitting_comparesImmutable_24 (rfl) (by decide) rfl ?_
    refine gx_aload_n (pc := 27) 0 d_Fitting_comparesImmutable_27 rfl rfl ?_
    refine gx_getR (pc := 28) 17 fl_Fitting_15 d_Fitting_comparesImmutable_28 (rfl) (by decide) rfl ?_
    refine gx_aload_n (pc := 31) 0 d_Fitting_comparesImmutable_31 rfl rfl ?_
    refine gx_getI (pc := 32) (σ2 15 6) fl_Fitting_68 d_Fitting_comparesImmutable_32 (rfl) (by decide) rfl rfl ?_
    refine gx_iconst (pc := 35) (1 : Int32) d_Fitting_comparesImmutable_35 (by decide) ?_
    refine gx_isub (pc := 36) d_Fitting_comparesImmutable_36 ?_
    obtain ⟨v4, gv4, iv4, hT⟩ := tx_rd_some hT
    refine gx_iald (pc := 37) v4 d_Fitting_comparesImmutable_37 (rfl) iv4 gv4 ?_
    obtain ⟨r6, σ5, cσ5, hT⟩ := tx_ci_some hT
    refine gx_callV (pc := 38) (As := [.int v4]) (rest := []) cm_Plan_isImmutable lk_Fitting_71 (fx_Plan_isImmutable_c l E σ2 v4 _ cσ5) (rfl) (by decide) rfl rfl tx_fi_Fitting_comparesImmutable_Plan_isImmutable (Nat.le_of_ble_eq_true rfl) d_Fitting_comparesImmutable_38 ?_
    change gx l E mi_Fitting_comparesImmutable _ σ5 [(0, .ref (E.1 15)), (1, .int x1), (2, .int x2)] 41 [.int r6]
    refine gx_if_ne (pc := 41) 65 d_Fitting_comparesImmutable_41 rfl (fun h7 => ?_) (fun h7 => ?_)
    · have hT := tx_ifn h7 hT
      refine gx_sub [] rfl ?_
      exact fx_Fitting_comparesImmutable_b65_w  σ5 _ hT
    · have hT := tx_ifp h7 hT
      refine gx_aload_n (pc := 44) 0 d_Fitting_comparesImmutable_44 rfl rfl ?_
      refine gx_getR (pc := 45) 1 fl_Fitting_24 d_Fitting_comparesImmutable_45 (rfl) (by decide) rfl ?_
      refine gx_aload_n (pc := 48) 0 d_Fitting_comparesImmutable_48 rfl rfl ?_
      refine gx_getR (pc := 49) 17 fl_Fitting_15 d_Fitting_comparesImmutable_49 (rfl) (by decide) rfl ?_
      refine gx_aload_n (pc := 52) 0 d_Fitting_comparesImmutable_52 rfl rfl ?_
      refine gx_getI (pc := 53) (σ5 15 6) fl_Fitting_68 d_Fitting_comparesImmutable_53 (rfl) (by decide) rfl rfl ?_
      refine gx_iconst (pc := 56) (2 : Int32) d_Fitting_comparesImmutable_56 (by decide) ?_
      refine gx_isub (pc := 57) d_Fitting_comparesImmutable_57 ?_
      obtain ⟨v8, gv8, iv8, hT⟩ := tx_rd_some hT
      refine gx_iald (pc := 58) v8 d_Fitting_comparesImmutable_58 (rfl) iv8 gv8 ?_
      obtain ⟨r10, σ9, cσ9, hT⟩ := tx_ci_some hT
      refine gx_callV (pc := 59) (As := [.int v8]) (rest := []) cm_Plan_isImmutable lk_Fitting_71 (fx_Plan_isImmutable_c l E σ5 v8 _ cσ9) (rfl) (by decide) rfl rfl tx_fi_Fitting_comparesImmutable_Plan_isImmutable (Nat.le_of_ble_eq_true rfl) d_Fitting_comparesImmutable_59 ?_
      change gx l E mi_Fitting_comparesImmutable _ σ9 [(0, .ref (E.1 15)), (1, .int x1), (2, .int x2)] 62 [.int r10]
      refine gx_if_eq (pc := 62) 69 d_Fitting_comparesImmutable_62 rfl (fun h11 => ?_) (fun h11 => ?_)
      · have hT := tx_ifp h11 hT
        refine gx_sub [] rfl ?_
        exact fx_Fitting_comparesImmutable_b69_w  σ9 _ hT
      · have hT := tx_ifn h11 hT
        refine gx_sub [] rfl ?_
        exact fx_Fitting_comparesImmutable_b65_w  σ9 _ hT
theorem d_Rules_breaks_0 : decode c_Rules_breaks 0 = .ok (.aload_n 0, 1) := by decide +kernel
theorem d_Rules_breaks_1 : decode c_Rules_breaks 1 = .ok (.getfield 9, 3) := by decide +kernel
theorem d_Rules_breaks_4 : decode c_Rules_breaks 4 = .ok (.getfield 94, 3) := by decide +kernel
theorem d_Rules_breaks_7 : decode c_Rules_breaks 7 = .ok (.iload_n 2, 1) := by decide +kernel
theorem d_Rules_breaks_8 : decode c_Rules_breaks 8 = .ok (.bipush (12), 2) := by decide +kernel
theorem d_Rules_breaks_10 : decode c_Rules_breaks 10 = .ok (.imul, 1) := by decide +kernel
theorem d_Rules_breaks_11 : decode c_Rules_breaks 11 = .ok (.iload_n 3, 1) := by decide +kernel
theorem d_Rules_breaks_12 : decode c_Rules_breaks 12 = .ok (.iadd, 1) := by decide +kernel
theorem d_Rules_breaks_13 : decode c_Rules_breaks 13 = .ok (.iaload, 1) := by decide +kernel
theorem d_Rules_breaks_14 : decode c_Rules_breaks 14 = .ok (.istore 4, 2) := by decide +kernel
theorem d_Rules_breaks_16 : decode c_Rules_breaks 16 = .ok (.aload_n 0, 1) := by decide +kernel
theorem d_Rules_breaks_17 : decode c_Rules_breaks 17 = .ok (.getfield 9, 3) := by decide +kernel
theorem d_Rules_breaks_20 : decode c_Rules_breaks 20 = .ok (.getfield 97, 3) := by decide +kernel
theorem d_Rules_breaks_23 : decode c_Rules_breaks 23 = .ok (.iload_n 2, 1) := by decide +kernel
theorem d_Rules_breaks_24 : decode c_Rules_breaks 24 = .ok (.bipush (12), 2) := by decide +kernel
theorem d_Rules_breaks_26 : decode c_Rules_breaks 26 = .ok (.imul, 1) := by decide +kernel
theorem d_Rules_breaks_27 : decode c_Rules_breaks 27 = .ok (.iload_n 3, 1) := by decide +kernel
theorem d_Rules_breaks_28 : decode c_Rules_breaks 28 = .ok (.iadd, 1) := by decide +kernel
theorem d_Rules_breaks_29 : decode c_Rules_breaks 29 = .ok (.iaload, 1) := by decide +kernel
theorem d_Rules_breaks_30 : decode c_Rules_breaks 30 = .ok (.istore 5, 2) := by decide +kernel
theorem d_Rules_breaks_32 : decode c_Rules_breaks 32 = .ok (.iload_n 1, 1) := by decide +kernel
theorem d_Rules_breaks_33 : decode c_Rules_breaks 33 = .ok (.iconst (5), 1) := by decide +kernel
theorem d_Rules_breaks_34 : decode c_Rules_breaks 34 = .ok (.if_icmp .ne (28), 3) := by decide +kernel
theorem d_Rules_breaks_37 : decode c_Rules_breaks 37 = .ok (.iload 4, 2) := by decide +kernel
theorem d_Rules_breaks_39 : decode c_Rules_breaks 39 = .ok (.bipush (18), 2) := by decide +kernel
theorem d_Rules_breaks_41 : decode c_Rules_breaks 41 = .ok (.if_icmp .ne (19), 3) := by decide +kernel
theorem d_Rules_breaks_44 : decode c_Rules_breaks 44 = .ok (.iload 5, 2) := by decide +kernel
theorem d_Rules_breaks_46 : decode c_Rules_breaks 46 = .ok (.iconst (2), 1) := by decide +kernel
theorem d_Rules_breaks_47 : decode c_Rules_breaks 47 = .ok (.if_icmp .eq (9), 3) := by decide +kernel
theorem d_Rules_breaks_50 : decode c_Rules_breaks 50 = .ok (.iload 5, 2) := by decide +kernel
theorem d_Rules_breaks_52 : decode c_Rules_breaks 52 = .ok (.iconst (3), 1) := by decide +kernel
theorem d_Rules_breaks_53 : decode c_Rules_breaks 53 = .ok (.if_icmp .ne (7), 3) := by decide +kernel
theorem d_Rules_breaks_56 : decode c_Rules_breaks 56 = .ok (.iconst (1), 1) := by decide +kernel
theorem d_Rules_breaks_57 : decode c_Rules_breaks 57 = .ok (.goto (4), 3) := by decide +kernel
theorem d_Rules_breaks_60 : decode c_Rules_breaks 60 = .ok (.iconst (0), 1) := by decide +kernel
theorem d_Rules_breaks_61 : decode c_Rules_breaks 61 = .ok (.ireturn, 1) := by decide +kernel
theorem d_Rules_breaks_62 : decode c_Rules_breaks 62 = .ok (.iload_n 1, 1) := by decide +kernel
theorem d_Rules_breaks_63 : decode c_Rules_breaks 63 = .ok (.bipush (6), 2) := by decide +kernel
theorem d_Rules_breaks_65 : decode c_Rules_breaks 65 = .ok (.if_icmp .ne (35), 3) := by decide +kernel
theorem d_Rules_breaks_68 : decode c_Rules_breaks 68 = .ok (.iload 4, 2) := by decide +kernel
theorem d_Rules_breaks_70 : decode c_Rules_breaks 70 = .ok (.bipush (9), 2) := by decide +kernel
theorem d_Rules_breaks_72 : decode c_Rules_breaks 72 = .ok (.if_icmp .eq (10), 3) := by decide +kernel
theorem d_Rules_breaks_75 : decode c_Rules_breaks 75 = .ok (.iload 4, 2) := by decide +kernel
theorem d_Rules_breaks_77 : decode c_Rules_breaks 77 = .ok (.bipush (11), 2) := by decide +kernel
theorem d_Rules_breaks_79 : decode c_Rules_breaks 79 = .ok (.if_icmp .ne (19), 3) := by decide +kernel
theorem d_Rules_breaks_82 : decode c_Rules_breaks 82 = .ok (.aload_n 0, 1) := by decide +kernel
theorem d_Rules_breaks_83 : decode c_Rules_breaks 83 = .ok (.getfield 9, 3) := by decide +kernel
theorem d_Rules_breaks_86 : decode c_Rules_breaks 86 = .ok (.iload 5, 2) := by decide +kernel
theorem d_Rules_breaks_88 : decode c_Rules_breaks 88 = .ok (.invokevirtual 54, 3) := by decide +kernel
theorem d_Rules_breaks_91 : decode c_Rules_breaks 91 = .ok (.ifCond .eq (7), 3) := by decide +kernel
theorem d_Rules_breaks_94 : decode c_Rules_breaks 94 = .ok (.iconst (1), 1) := by decide +kernel
theorem d_Rules_breaks_95 : decode c_Rules_breaks 95 = .ok (.goto (4), 3) := by decide +kernel
theorem d_Rules_breaks_98 : decode c_Rules_breaks 98 = .ok (.iconst (0), 1) := by decide +kernel
theorem d_Rules_breaks_99 : decode c_Rules_breaks 99 = .ok (.ireturn, 1) := by decide +kernel
theorem d_Rules_breaks_100 : decode c_Rules_breaks 100 = .ok (.iload 4, 2) := by decide +kernel
theorem d_Rules_breaks_102 : decode c_Rules_breaks 102 = .ok (.bipush (16), 2) := by decide +kernel
theorem d_Rules_breaks_104 : decode c_Rules_breaks 104 = .ok (.if_icmp .ne (19), 3) := by decide +kernel
theorem d_Rules_breaks_107 : decode c_Rules_breaks 107 = .ok (.aload_n 0, 1) := by decide +kernel
theorem d_Rules_breaks_108 : decode c_Rules_breaks 108 = .ok (.getfield 15, 3) := by decide +kernel
theorem d_Rules_breaks_111 : decode c_Rules_breaks 111 = .ok (.iload_n 2, 1) := by decide +kernel
theorem d_Rules_breaks_112 : decode c_Rules_breaks 112 = .ok (.iload_n 3, 1) := by decide +kernel
theorem d_Rules_breaks_113 : decode c_Rules_breaks 113 = .ok (.invokevirtual 100, 3) := by decide +kernel
theorem d_Rules_breaks_116 : decode c_Rules_breaks 116 = .ok (.ifCond .eq (7), 3) := by decide +kernel
theorem d_Rules_breaks_119 : decode c_Rules_breaks 119 = .ok (.iconst (1), 1) := by decide +kernel
theorem d_Rules_breaks_120 : decode c_Rules_breaks 120 = .ok (.goto (4), 3) := by decide +kernel
theorem d_Rules_breaks_123 : decode c_Rules_breaks 123 = .ok (.iconst (0), 1) := by decide +kernel
theorem d_Rules_breaks_124 : decode c_Rules_breaks 124 = .ok (.ireturn, 1) := by decide +kernel
def fx_Rules_breaks_b124 (σ : tx_St) (s0 : Int32) : Option (Int32 × tx_St) := tx_rz s0 σ
def fx_Rules_breaks_b123 (σ : tx_St) : Option (Int32 × tx_St) := fx_Rules_breaks_b124  σ (0 : Int32)
def fx_Rules_breaks_b99 (σ : tx_St) (s0 : Int32) : Option (Int32 × tx_St) := tx_rz s0 σ
def fx_Rules_breaks_b98 (σ : tx_St) : Option (Int32 × tx_St) := fx_Rules_breaks_b99  σ (0 : Int32)
def fx_Rules_breaks_b82 (σ : tx_St) (x5 : Int32) : Option (Int32 × tx_St) := tx_ci (fx_Plan_isFinalField σ x5) fun r15 σ14 => (if r15 = 0 then fx_Rules_breaks_b98  σ14 else fx_Rules_breaks_b99  σ14 (1 : Int32))
def fx_Rules_breaks_b61 (σ : tx_St) (s0 : Int32) : Option (Int32 × tx_St) := tx_rz s0 σ
def fx_Rules_breaks_b60 (σ : tx_St) : Option (Int32 × tx_St) := fx_Rules_breaks_b61  σ (0 : Int32)
def fx_Rules_breaks_b56 (σ : tx_St) : Option (Int32 × tx_St) := fx_Rules_breaks_b61  σ (1 : Int32)
def fx_Rules_breaks (σ : tx_St) (x1 : Int32) (x2 : Int32) (x3 : Int32) : Option (Int32 × tx_St) := tx_rd σ 13 96 ((x2 * (12 : Int32)) + x3) fun v1 => tx_rd σ 14 96 ((x2 * (12 : Int32)) + x3) fun v2 => (if x1 = (5 : Int32) then (if v1 = (18 : Int32) then (if v2 = (2 : Int32) then fx_Rules_breaks_b56  σ else (if v2 = (3 : Int32) then fx_Rules_breaks_b56  σ else fx_Rules_breaks_b60  σ)) else fx_Rules_breaks_b60  σ) else (if x1 = (6 : Int32) then (if v1 = (9 : Int32) then fx_Rules_breaks_b82  σ v2 else (if v1 = (11 : Int32) then fx_Rules_breaks_b82  σ v2 else fx_Rules_breaks_b98  σ)) else (if v1 = (16 : Int32) then tx_ci (fx_Fitting_comparesImmutable σ x2 x3) fun r7 σ6 => (if r7 = 0 then fx_Rules_breaks_b123  σ6 else fx_Rules_breaks_b124  σ6 (1 : Int32)) else fx_Rules_breaks_b123  σ)))
set_option maxRecDepth 100000 in
set_option maxHeartbeats 4000000 in
theorem fx_Rules_breaks_b124_w {l : Launch} {E : tx_E} (σ : tx_St) (s0 : Int32) (t : Int32 × tx_St) (hT : fx_Rules_breaks_b124 σ s0 = some t) : gx l E mi_Rules_breaks (some (.int t.1), t.2) σ [] 124 [.int s0] := by
  unfold fx_Rules_breaks_b124 at hT
  obtain ⟨hz, hT⟩ := tx_rz_some hT
  cases hT
  exact gx_zret (pc := 124) d_Rules_breaks_124 rfl hz rfl
set_option maxRecDepth 100000 in
set_option maxHeartbeats 4000000 in
theorem fx_Rules_breaks_b123_w {l : Launch} {E : tx_E} (σ : tx_St) (t : Int32 × tx_St) (hT : fx_Rules_breaks_b123 σ  = some t) : gx l E mi_Rules_breaks (some (.int t.1), t.2) σ [] 123 [] := by
  unfold fx_Rules_breaks_b123 at hT
  refine gx_iconst (pc := 123) (0 : Int32) d_Rules_breaks_123 (by decide) ?_
  exact fx_Rules_breaks_b124_w  σ (0 : Int32) _ hT
set_option maxRecDepth 100000 in
set_option maxHeartbeats 4000000 in
theorem fx_Rules_breaks_b99_w {l : Launch} {E : tx_E} (σ : tx_St) (s0 : Int32) (t : Int32 × tx_St) (hT : fx_Rules_breaks_b99 σ s0 = some t) : gx l E mi_Rules_breaks (some (.int t.1), t.2) σ [] 99 [.int s0] := by
  unfold fx_Rules_breaks_b99 at hT
  obtain ⟨hz, hT⟩ := tx_rz_some hT
  cases hT
  exact gx_zret (pc := 99) d_Rules_breaks_99 rfl hz rfl
set_option maxRecDepth 100000 in
set_option maxHeartbeats 4000000 in
theorem fx_Rules_breaks_b98_w {l : Launch} {E : tx_E} (σ : tx_St) (t : Int32 × tx_St) (hT : fx_Rules_breaks_b98 σ  = some t) : gx l E mi_Rules_breaks (some (.int t.1), t.2) σ [] 98 [] := by
  unfold fx_Rules_breaks_b98 at hT
  refine gx_iconst (pc := 98) (0 : Int32) d_Rules_breaks_98 (by decide) ?_
  exact fx_Rules_breaks_b99_w  σ (0 : Int32) _ hT
set_option maxRecDepth 100000 in
set_option maxHeartbeats 4000000 in
theorem fx_Rules_breaks_b82_w {l : Launch} {E : tx_E} (σ : tx_St) (x5 : Int32) (t : Int32 × tx_St) (hT : fx_Rules_breaks_b82 σ x5 = some t) : gx l E mi_Rules_breaks (some (.int t.1), t.2) σ [(0, .ref (E.1 20)), (5, .int x5)] 82 [] := by
  unfold fx_Rules_breaks_b82 at hT
  refine gx_aload_n (pc := 82) 0 d_Rules_breaks_82 rfl rfl ?_
  refine gx_getR (pc := 83) 1 fl_Rules_9 d_Rules_breaks_83 (rfl) (by decide) rfl ?_
  refine gx_iload (pc := 86) 1 d_Rules_breaks_86 rfl ?_
  obtain ⟨r15, σ14, cσ14, hT⟩ := tx_ci_some hT
  refine gx_callV (pc := 88) (As := [.int x5]) (rest := []) cm_Plan_isFinalField lk_Rules_54 (fx_Plan_isFinalField_c l E σ x5 _ cσ14) (rfl) (by decide) rfl rfl tx_fi_Rules_breaks_Plan_isFinalField (Nat.le_of_ble_eq_true rfl) d_Rules_breaks_88 ?_
  change gx l E mi_Rules_breaks _ σ14 [(0, .ref (E.1 20)), (5, .int x5)] 91 [.int r15]
  refine gx_if_eq (pc := 91) 98 d_Rules_breaks_91 rfl (fun h16 => ?_) (fun h16 => ?_)
  · have hT := tx_ifp h16 hT
    refine gx_sub [] rfl ?_
    exact fx_Rules_breaks_b98_w  σ14 _ hT
  · have hT := tx_ifn h16 hT
    refine gx_iconst (pc := 94) (1 : Int32) d_Rules_breaks_94 (by decide) ?_
    refine gx_goto (pc := 95) 99 d_Rules_breaks_95 rfl ?_
    refine gx_sub [] rfl ?_
    exact fx_Rules_breaks_b99_w  σ14 (1 : Int32) _ hT
set_option maxRecDepth 100000 in
set_option maxHeartbeats 4000000 in
theorem fx_Rules_breaks_b61_w {l : Launch} {E : tx_E} (σ : tx_St) (s0 : Int32) (t : Int32 × tx_St) (hT : fx_Rules_breaks_b61 σ s0 = some t) : gx l E mi_Rules_breaks (some (.int t.1), t.2) σ [] 61 [.int s0] := by
  unfold fx_Rules_breaks_b61 at hT
  obtain ⟨hz, hT⟩ := tx_rz_some hT
  cases hT
  exact gx_zret (pc := 61) d_Rules_breaks_61 rfl hz rfl
set_option maxRecDepth 100000 in
set_option maxHeartbeats 4000000 in
theorem fx_Rules_breaks_b60_w {l : Launch} {E : tx_E} (σ : tx_St) (t : Int32 × tx_St) (hT : fx_Rules_breaks_b60 σ  = some t) : gx l E mi_Rules_breaks (some (.int t.1), t.2) σ [] 60 [] := by
  unfold fx_Rules_breaks_b60 at hT
  refine gx_iconst (pc := 60) (0 : Int32) d_Rules_breaks_60 (by decide) ?_
  exact fx_Rules_breaks_b61_w  σ (0 : Int32) _ hT
set_option maxRecDepth 100000 in
set_option maxHeartbeats 4000000 in
theorem fx_Rules_breaks_b56_w {l : Launch} {E : tx_E} (σ : tx_St) (t : Int32 × tx_St) (hT : fx_Rules_breaks_b56 σ  = some t) : gx l E mi_Rules_breaks (some (.int t.1), t.2) σ [] 56 [] := by
  unfold fx_Rules_breaks_b56 at hT
  refine gx_iconst (pc := 56) (1 : Int32) d_Rules_breaks_56 (by decide) ?_
  refine gx_goto (pc := 57) 61 d_Rules_breaks_57 rfl ?_
  exact fx_Rules_breaks_b61_w  σ (1 : Int32) _ hT
set_option maxRecDepth 100000 in
set_option maxHeartbeats 4000000 in
theorem fx_Rules_breaks_c (l : Launch) (E : tx_E) (σ : tx_St) (x1 : Int32) (x2 : Int32) (x3 : Int32) (t : Int32 × tx_St) (hT : fx_Rules_breaks σ x1 x2 x3 = some t) : tx_MX l E y_Rules_breaks mi_Rules_breaks (some (.int t.1), t.2) [.ref (E.1 20), .int x1, .int x2, .int x3] σ := by
  refine tx_MX_of (by decide) rfl (Nat.le_of_ble_eq_true rfl) ?_
  show gx l E mi_Rules_breaks (some (.int t.1), t.2) σ [(0, .ref (E.1 20)), (1, .int x1), (2, .int x2), (3, .int x3)] 0 []
  unfold fx_Rules_breaks at hT
  refine gx_aload_n (pc := 0) 0 d_Rules_breaks_0 rfl rfl ?_
  refine gx_getR (pc := 1) 1 fl_Rules_9 d_Rules_breaks_1 (rfl) (by decide) rfl ?_
  refine gx_getR (pc := 4) 13 fl_Rules_94 d_Rules_breaks_4 (rfl) (by decide) rfl ?_
  refine gx_iload_n (pc := 7) 2 d_Rules_breaks_7 rfl rfl ?_
  refine gx_bipush (pc := 8) (12 : Int32) d_Rules_breaks_8 (by decide) ?_
  refine gx_imul (pc := 10) d_Rules_breaks_10 ?_
  refine gx_iload_n (pc := 11) 3 d_Rules_breaks_11 rfl rfl ?_
  refine gx_iadd (pc := 12) d_Rules_breaks_12 ?_
  obtain ⟨v1, gv1, iv1, hT⟩ := tx_rd_some hT
  refine gx_iald (pc := 13) v1 d_Rules_breaks_13 (rfl) iv1 gv1 ?_
  refine gx_istore (pc := 14) [(4, .int v1), (0, .ref (E.1 20)), (1, .int x1), (2, .int x2), (3, .int x3)] d_Rules_breaks_14 (Nat.le_of_ble_eq_true rfl) rfl ?_
  refine gx_aload_n (pc := 16) 1 d_Rules_breaks_16 rfl rfl ?_
  refine gx_getR (pc := 17) 1 fl_Rules_9 d_Rules_breaks_17 (rfl) (by decide) rfl ?_
  refine gx_getR (pc := 20) 14 fl_Rules_97 d_Rules_breaks_20 (rfl) (by decide) rfl ?_
  refine gx_iload_n (pc := 23) 3 d_Rules_breaks_23 rfl rfl ?_
  refine gx_bipush (pc := 24) (12 : Int32) d_Rules_breaks_24 (by decide) ?_
  refine gx_imul (pc := 26) d_Rules_breaks_26 ?_
  refine gx_iload_n (pc := 27) 4 d_Rules_breaks_27 rfl rfl ?_
  refine gx_iadd (pc := 28) d_Rules_breaks_28 ?_
  obtain ⟨v2, gv2, iv2, hT⟩ := tx_rd_some hT
  refine gx_iald (pc := 29) v2 d_Rules_breaks_29 (rfl) iv2 gv2 ?_
  refine gx_istore (pc := 30) [(5, .int v2), (4, .int v1), (0, .ref (E.1 20)), (1, .int x1), (2, .int x2), (3, .int x3)] d_Rules_breaks_30 (Nat.le_of_ble_eq_true rfl) rfl ?_
  refine gx_iload_n (pc := 32) 3 d_Rules_breaks_32 rfl rfl ?_
  refine gx_iconst (pc := 33) (5 : Int32) d_Rules_breaks_33 (by decide) ?_
  refine gx_icmp_ne (pc := 34) 62 d_Rules_breaks_34 rfl (fun h3 => ?_) (fun h3 => ?_)
  · have hT := tx_ifn h3 hT
    refine gx_iload_n (pc := 62) 3 d_Rules_breaks_62 rfl rfl ?_
    refine gx_bipush (pc := 63) (6 : Int32) d_Rules_breaks_63 (by decide) ?_
    refine gx_icmp_ne (pc := 65) 100 d_Rules_breaks_65 rfl (fun h4 => ?_) (fun h4 => ?_)
    · have hT := tx_ifn h4 hT
      refine gx_iload (pc := 100) 1 d_Rules_breaks_100 rfl ?_
      refine gx_bipush (pc := 102) (16 : Int32) d_Rules_breaks_102 (by decide) ?_
      refine gx_icmp_ne (pc := 104) 123 d_Rules_breaks_104 rfl (fun h5 => ?_) (fun h5 => ?_)
      · have hT := tx_ifn h5 hT
        refine gx_sub [] rfl ?_
        exact fx_Rules_breaks_b123_w  σ _ hT
      · have hT := tx_ifp h5 hT
        refine gx_aload_n (pc := 107) 2 d_Rules_breaks_107 rfl rfl ?_
        refine gx_getR (pc := 108) 15 fl_Rules_15 d_Rules_breaks_108 (rfl) (by decide) rfl ?_
        refine gx_iload_n (pc := 111) 4 d_Rules_breaks_111 rfl rfl ?_
        refine gx_iload_n (pc := 112) 5 d_Rules_breaks_112 rfl rfl ?_
        obtain ⟨r7, σ6, cσ6, hT⟩ := tx_ci_some hT
        refine gx_callV (pc := 113) (As := [.int x2, .int x3]) (rest := []) cm_Fitting_comparesImmutable lk_Rules_100 (fx_Fitting_comparesImmutable_c l E σ x2 x3 _ cσ6) (rfl) (by decide) rfl rfl tx_fi_Rules_breaks_Fitting_comparesImmutable (Nat.le_of_ble_eq_true rfl) d_Rules_breaks_113 ?_
        change gx l E mi_Rules_breaks _ σ6 [(5, .int v2), (4, .int v1), (0, .ref (E.1 20)), (1, .int x1), (2, .int x2), (3, .int x3)] 116 [.int r7]
        refine gx_if_eq (pc := 116) 123 d_Rules_breaks_116 rfl (fun h8 => ?_) (fun h8 => ?_)
        · have hT := tx_ifp h8 hT
          refine gx_sub [] rfl ?_
          exact fx_Rules_breaks_b123_w  σ6 _ hT
        · have hT := tx_ifn h8 hT
          refine gx_iconst (pc := 119) (1 : Int32) d_Rules_breaks_119 (by decide) ?_
          refine gx_goto (pc := 120) 124 d_Rules_breaks_120 rfl ?_
          refine gx_sub [] rfl ?_
          exact fx_Rules_breaks_b124_w  σ6 (1 : Int32) _ hT
    · have hT := tx_ifp h4 hT
      refine gx_iload (pc := 68) 1 d_Rules_breaks_68 rfl ?_
      refine gx_bipush (pc := 70) (9 : Int32) d_Rules_breaks_70 (by decide) ?_
      refine gx_icmp_eq (pc := 72) 82 d_Rules_breaks_72 rfl (fun h9 => ?_) (fun h9 => ?_)
      · have hT := tx_ifp h9 hT
        refine gx_sub [2, 0] rfl ?_
        exact fx_Rules_breaks_b82_w  σ v2 _ hT
      · have hT := tx_ifn h9 hT
        refine gx_iload (pc := 75) 1 d_Rules_breaks_75 rfl ?_
        refine gx_bipush (pc := 77) (11 : Int32) d_Rules_breaks_77 (by decide) ?_
        refine gx_icmp_ne (pc := 79) 98 d_Rules_breaks_79 rfl (fun h10 => ?_) (fun h10 => ?_)
        · have hT := tx_ifn h10 hT
          refine gx_sub [] rfl ?_
          exact fx_Rules_breaks_b98_w  σ _ hT
        · have hT := tx_ifp h10 hT
          refine gx_sub [2, 0] rfl ?_
          exact fx_Rules_breaks_b82_w  σ v2 _ hT
  · have hT := tx_ifp h3 hT
    refine gx_iload (pc := 37) 1 d_Rules_breaks_37 rfl ?_
    refine gx_bipush (pc := 39) (18 : Int32) d_Rules_breaks_39 (by decide) ?_
    refine gx_icmp_ne (pc := 41) 60 d_Rules_breaks_41 rfl (fun h11 => ?_) (fun h11 => ?_)
    · have hT := tx_ifn h11 hT
      refine gx_sub [] rfl ?_
      exact fx_Rules_breaks_b60_w  σ _ hT
    · have hT := tx_ifp h11 hT
      refine gx_iload (pc := 44) 0 d_Rules_breaks_44 rfl ?_
      refine gx_iconst (pc := 46) (2 : Int32) d_Rules_breaks_46 (by decide) ?_
      refine gx_icmp_eq (pc := 47) 56 d_Rules_breaks_47 rfl (fun h12 => ?_) (fun h12 => ?_)
      · have hT := tx_ifp h12 hT
        refine gx_sub [] rfl ?_
        exact fx_Rules_breaks_b56_w  σ _ hT
      · have hT := tx_ifn h12 hT
        refine gx_iload (pc := 50) 0 d_Rules_breaks_50 rfl ?_
        refine gx_iconst (pc := 52) (3 : Int32) d_Rules_breaks_52 (by decide) ?_
        refine gx_icmp_ne (pc := 53) 60 d_Rules_breaks_53 rfl (fun h13 => ?_) (fun h13 => ?_)
        · have hT := tx_ifn h13 hT
          refine gx_sub [] rfl ?_
          exact fx_Rules_breaks_b60_w  σ _ hT
        · have hT := tx_ifp h13 hT
          refine gx_sub [] rfl ?_
          exact fx_Rules_breaks_b56_w  σ _ hT
theorem d_Rules_firstBreach_0 : decode c_Rules_firstBreach 0 = .ok (.iconst (0), 1) := by decide +kernel
theorem d_Rules_firstBreach_1 : decode c_Rules_firstBreach 1 = .ok (.istore_n 2, 1) := by decide +kernel
theorem d_Rules_firstBreach_2 : decode c_Rules_firstBreach 2 = .ok (.iload_n 1, 1) := by decide +kernel
theorem d_Rules_firstBreach_3 : decode c_Rules_firstBreach 3 = .ok (.iconst (2), 1) := by decide +kernel
theorem d_Rules_firstBreach_4 : decode c_Rules_firstBreach 4 = .ok (.if_icmp .gt (46), 3) := by decide +kernel
theorem d_Rules_firstBreach_7 : decode c_Rules_firstBreach 7 = .ok (.iload_n 2, 1) := by decide +kernel
theorem d_Rules_firstBreach_8 : decode c_Rules_firstBreach 8 = .ok (.aload_n 0, 1) := by decide +kernel
theorem d_Rules_firstBreach_9 : decode c_Rules_firstBreach 9 = .ok (.getfield 9, 3) := by decide +kernel
theorem d_Rules_firstBreach_12 : decode c_Rules_firstBreach 12 = .ok (.getfield 19, 3) := by decide +kernel
theorem d_Rules_firstBreach_15 : decode c_Rules_firstBreach 15 = .ok (.if_icmp .ge (35), 3) := by decide +kernel
theorem d_Rules_firstBreach_18 : decode c_Rules_firstBreach 18 = .ok (.iload_n 1, 1) := by decide +kernel
theorem d_Rules_firstBreach_19 : decode c_Rules_firstBreach 19 = .ok (.iconst (1), 1) := by decide +kernel
theorem d_Rules_firstBreach_20 : decode c_Rules_firstBreach 20 = .ok (.if_icmp .ne (14), 3) := by decide +kernel
theorem d_Rules_firstBreach_23 : decode c_Rules_firstBreach 23 = .ok (.aload_n 0, 1) := by decide +kernel
theorem d_Rules_firstBreach_24 : decode c_Rules_firstBreach 24 = .ok (.iload_n 2, 1) := by decide +kernel
theorem d_Rules_firstBreach_25 : decode c_Rules_firstBreach 25 = .ok (.invokevirtual 25, 3) := by decide +kernel
theorem d_Rules_firstBreach_28 : decode c_Rules_firstBreach 28 = .ok (.ifCond .eq (16), 3) := by decide +kernel
theorem d_Rules_firstBreach_31 : decode c_Rules_firstBreach 31 = .ok (.goto (11), 3) := by decide +kernel
theorem d_Rules_firstBreach_34 : decode c_Rules_firstBreach 34 = .ok (.aload_n 0, 1) := by decide +kernel
theorem d_Rules_firstBreach_35 : decode c_Rules_firstBreach 35 = .ok (.iload_n 2, 1) := by decide +kernel
theorem d_Rules_firstBreach_36 : decode c_Rules_firstBreach 36 = .ok (.invokevirtual 29, 3) := by decide +kernel
theorem d_Rules_firstBreach_39 : decode c_Rules_firstBreach 39 = .ok (.ifCond .eq (5), 3) := by decide +kernel
theorem d_Rules_firstBreach_42 : decode c_Rules_firstBreach 42 = .ok (.iload_n 2, 1) := by decide +kernel
theorem d_Rules_firstBreach_43 : decode c_Rules_firstBreach 43 = .ok (.ireturn, 1) := by decide +kernel
theorem d_Rules_firstBreach_44 : decode c_Rules_firstBreach 44 = .ok (.iinc 2 (1), 3) := by decide +kernel
theorem d_Rules_firstBreach_47 : decode c_Rules_firstBreach 47 = .ok (.goto (-45), 3) := by decide +kernel
theorem d_Rules_firstBreach_50 : decode c_Rules_firstBreach 50 = .ok (.iconst (0), 1) := by decide +kernel
theorem d_Rules_firstBreach_51 : decode c_Rules_firstBreach 51 = .ok (.istore_n 2, 1) := by decide +kernel
theorem d_Rules_firstBreach_52 : decode c_Rules_firstBreach 52 = .ok (.iload_n 1, 1) := by decide +kernel
theorem d_Rules_firstBreach_53 : decode c_Rules_firstBreach 53 = .ok (.iconst (2), 1) := by decide +kernel
theorem d_Rules_firstBreach_54 : decode c_Rules_firstBreach 54 = .ok (.if_icmp .le (96), 3) := by decide +kernel
theorem d_Rules_firstBreach_57 : decode c_Rules_firstBreach 57 = .ok (.iload_n 2, 1) := by decide +kernel
theorem d_Rules_firstBreach_58 : decode c_Rules_firstBreach 58 = .ok (.aload_n 0, 1) := by decide +kernel
theorem d_Rules_firstBreach_59 : decode c_Rules_firstBreach 59 = .ok (.getfield 9, 3) := by decide +kernel
theorem d_Rules_firstBreach_62 : decode c_Rules_firstBreach 62 = .ok (.getfield 32, 3) := by decide +kernel
theorem d_Rules_firstBreach_65 : decode c_Rules_firstBreach 65 = .ok (.if_icmp .ge (85), 3) := by decide +kernel
theorem d_Rules_firstBreach_68 : decode c_Rules_firstBreach 68 = .ok (.iload_n 1, 1) := by decide +kernel
theorem d_Rules_firstBreach_69 : decode c_Rules_firstBreach 69 = .ok (.iconst (3), 1) := by decide +kernel
theorem d_Rules_firstBreach_70 : decode c_Rules_firstBreach 70 = .ok (.if_icmp .ne (13), 3) := by decide +kernel
theorem d_Rules_firstBreach_73 : decode c_Rules_firstBreach 73 = .ok (.aload_n 0, 1) := by decide +kernel
theorem d_Rules_firstBreach_74 : decode c_Rules_firstBreach 74 = .ok (.iload_n 2, 1) := by decide +kernel
theorem d_Rules_firstBreach_75 : decode c_Rules_firstBreach 75 = .ok (.invokevirtual 35, 3) := by decide +kernel
theorem d_Rules_firstBreach_78 : decode c_Rules_firstBreach 78 = .ok (.ifCond .eq (5), 3) := by decide +kernel
theorem d_Rules_firstBreach_81 : decode c_Rules_firstBreach 81 = .ok (.iload_n 2, 1) := by decide +kernel
theorem d_Rules_firstBreach_82 : decode c_Rules_firstBreach 82 = .ok (.ireturn, 1) := by decide +kernel
theorem d_Rules_firstBreach_83 : decode c_Rules_firstBreach 83 = .ok (.iload_n 1, 1) := by decide +kernel
theorem d_Rules_firstBreach_84 : decode c_Rules_firstBreach 84 = .ok (.iconst (4), 1) := by decide +kernel
theorem d_Rules_firstBreach_85 : decode c_Rules_firstBreach 85 = .ok (.if_icmp .ne (16), 3) := by decide +kernel
theorem d_Rules_firstBreach_88 : decode c_Rules_firstBreach 88 = .ok (.aload_n 0, 1) := by decide +kernel
theorem d_Rules_firstBreach_89 : decode c_Rules_firstBreach 89 = .ok (.getfield 15, 3) := by decide +kernel
theorem d_Rules_firstBreach_92 : decode c_Rules_firstBreach 92 = .ok (.iload_n 2, 1) := by decide +kernel
theorem d_Rules_firstBreach_93 : decode c_Rules_firstBreach 93 = .ok (.invokevirtual 38, 3) := by decide +kernel
theorem d_Rules_firstBreach_96 : decode c_Rules_firstBreach 96 = .ok (.ifCond .ne (5), 3) := by decide +kernel
theorem d_Rules_firstBreach_99 : decode c_Rules_firstBreach 99 = .ok (.iload_n 2, 1) := by decide +kernel
theorem d_Rules_firstBreach_100 : decode c_Rules_firstBreach 100 = .ok (.ireturn, 1) := by decide +kernel
theorem d_Rules_firstBreach_101 : decode c_Rules_firstBreach 101 = .ok (.iconst (0), 1) := by decide +kernel
theorem d_Rules_firstBreach_102 : decode c_Rules_firstBreach 102 = .ok (.istore_n 3, 1) := by decide +kernel
theorem d_Rules_firstBreach_103 : decode c_Rules_firstBreach 103 = .ok (.iload_n 1, 1) := by decide +kernel
theorem d_Rules_firstBreach_104 : decode c_Rules_firstBreach 104 = .ok (.iconst (4), 1) := by decide +kernel
theorem d_Rules_firstBreach_105 : decode c_Rules_firstBreach 105 = .ok (.if_icmp .le (39), 3) := by decide +kernel
theorem d_Rules_firstBreach_108 : decode c_Rules_firstBreach 108 = .ok (.iload_n 3, 1) := by decide +kernel
theorem d_Rules_firstBreach_109 : decode c_Rules_firstBreach 109 = .ok (.aload_n 0, 1) := by decide +kernel
theorem d_Rules_firstBreach_110 : decode c_Rules_firstBreach 110 = .ok (.getfield 9, 3) := by decide +kernel
theorem d_Rules_firstBreach_113 : decode c_Rules_firstBreach 113 = .ok (.getfield 43, 3) := by decide +kernel
theorem d_Rules_firstBreach_116 : decode c_Rules_firstBreach 116 = .ok (.iload_n 2, 1) := by decide +kernel
theorem d_Rules_firstBreach_117 : decode c_Rules_firstBreach 117 = .ok (.iaload, 1) := by decide +kernel
theorem d_Rules_firstBreach_118 : decode c_Rules_firstBreach 118 = .ok (.if_icmp .ge (26), 3) := by decide +kernel
theorem d_Rules_firstBreach_121 : decode c_Rules_firstBreach 121 = .ok (.aload_n 0, 1) := by decide +kernel
theorem d_Rules_firstBreach_122 : decode c_Rules_firstBreach 122 = .ok (.iload_n 1, 1) := by decide +kernel
theorem d_Rules_firstBreach_123 : decode c_Rules_firstBreach 123 = .ok (.iload_n 2, 1) := by decide +kernel
theorem d_Rules_firstBreach_124 : decode c_Rules_firstBreach 124 = .ok (.iload_n 3, 1) := by decide +kernel
theorem d_Rules_firstBreach_125 : decode c_Rules_firstBreach 125 = .ok (.invokevirtual 47, 3) := by decide +kernel
theorem d_Rules_firstBreach_128 : decode c_Rules_firstBreach 128 = .ok (.ifCond .eq (10), 3) := by decide +kernel
theorem d_Rules_firstBreach_131 : decode c_Rules_firstBreach 131 = .ok (.bipush (16), 2) := by decide +kernel
theorem d_Rules_firstBreach_133 : decode c_Rules_firstBreach 133 = .ok (.iload_n 2, 1) := by decide +kernel
theorem d_Rules_firstBreach_134 : decode c_Rules_firstBreach 134 = .ok (.imul, 1) := by decide +kernel
theorem d_Rules_firstBreach_135 : decode c_Rules_firstBreach 135 = .ok (.iload_n 3, 1) := by decide +kernel
theorem d_Rules_firstBreach_136 : decode c_Rules_firstBreach 136 = .ok (.iadd, 1) := by decide +kernel
theorem d_Rules_firstBreach_137 : decode c_Rules_firstBreach 137 = .ok (.ireturn, 1) := by decide +kernel
theorem d_Rules_firstBreach_138 : decode c_Rules_firstBreach 138 = .ok (.iinc 3 (1), 3) := by decide +kernel
theorem d_Rules_firstBreach_141 : decode c_Rules_firstBreach 141 = .ok (.goto (-38), 3) := by decide +kernel
theorem d_Rules_firstBreach_144 : decode c_Rules_firstBreach 144 = .ok (.iinc 2 (1), 3) := by decide +kernel
theorem d_Rules_firstBreach_147 : decode c_Rules_firstBreach 147 = .ok (.goto (-95), 3) := by decide +kernel
theorem d_Rules_firstBreach_150 : decode c_Rules_firstBreach 150 = .ok (.iconst (-1), 1) := by decide +kernel
theorem d_Rules_firstBreach_151 : decode c_Rules_firstBreach 151 = .ok (.ireturn, 1) := by decide +kernel
def fx_Rules_firstBreach_b150 (σ : tx_St) : Option (Int32 × tx_St) := some ((-1 : Int32), σ)
def fx_Rules_firstBreach_b144 (k52 : tx_St → Int32 → Int32 → Option (Int32 × tx_St)) (σ : tx_St) (x1 : Int32) (x2 : Int32) : Option (Int32 × tx_St) := k52 σ x1 (x2 + (1 : Int32))
def fx_Rules_firstBreach_b103 (k52 : tx_St → Int32 → Int32 → Option (Int32 × tx_St)) : Nat → tx_St → Int32 → Int32 → Int32 → Option (Int32 × tx_St)
  | 0, _, _, _, _ => none
  | n + 1, σ, x1, x2, x3 => (if x1 ≤ (4 : Int32) then fx_Rules_firstBreach_b144 (k52) σ x1 x2 else tx_rd σ 12 8 x2 fun v21 => (if v21 ≤ x3 then fx_Rules_firstBreach_b144 (k52) σ x1 x2 else tx_ci (fx_Rules_breaks σ x1 x2 x3) fun r24 σ23 => (if r24 = 0 then fx_Rules_firstBreach_b103 k52 n σ23 x1 x2 (x3 + (1 : Int32)) else some ((((16 : Int32) * x2) + x3), σ23))))
def fx_Rules_firstBreach_b101 (k52 : tx_St → Int32 → Int32 → Option (Int32 × tx_St)) (σ : tx_St) (x1 : Int32) (x2 : Int32) : Option (Int32 × tx_St) := fx_Rules_firstBreach_b103 (k52) tx_fu σ x1 x2 (0 : Int32)
def fx_Rules_firstBreach_b83 (k52 : tx_St → Int32 → Int32 → Option (Int32 × tx_St)) (σ : tx_St) (x1 : Int32) (x2 : Int32) : Option (Int32 × tx_St) := (if x1 = (4 : Int32) then tx_ci (fx_Fitting_codeFits σ x2) fun r18 σ17 => (if r18 = 0 then some (x2, σ17) else fx_Rules_firstBreach_b101 (k52) σ17 x1 x2) else fx_Rules_firstBreach_b101 (k52) σ x1 x2)
def fx_Rules_firstBreach_b52 : Nat → tx_St → Int32 → Int32 → Option (Int32 × tx_St)
  | 0, _, _, _ => none
  | n + 1, σ, x1, x2 => (if x1 ≤ (2 : Int32) then fx_Rules_firstBreach_b150  σ else (if (σ 1 2) ≤ x2 then fx_Rules_firstBreach_b150  σ else (if x1 = (3 : Int32) then tx_ci (fx_Rules_overridesBadly σ x2) fun r14 σ13 => (if r14 = 0 then fx_Rules_firstBreach_b83 (fx_Rules_firstBreach_b52 n) σ13 x1 x2 else some (x2, σ13)) else fx_Rules_firstBreach_b83 (fx_Rules_firstBreach_b52 n) σ x1 x2)))
def fx_Rules_firstBreach_b50 (σ : tx_St) (x1 : Int32) : Option (Int32 × tx_St) := fx_Rules_firstBreach_b52  tx_fu σ x1 (0 : Int32)
def fx_Rules_firstBreach_b44 (k2 : tx_St → Int32 → Int32 → Option (Int32 × tx_St)) (σ : tx_St) (x1 : Int32) (x2 : Int32) : Option (Int32 × tx_St) := k2 σ x1 (x2 + (1 : Int32))
def fx_Rules_firstBreach_b42 (σ : tx_St) (x2 : Int32) : Option (Int32 × tx_St) := some (x2, σ)
def fx_Rules_firstBreach_b2 : Nat → tx_St → Int32 → Int32 → Option (Int32 × tx_St)
  | 0, _, _, _ => none
  | n + 1, σ, x1, x2 => (if (2 : Int32) < x1 then fx_Rules_firstBreach_b50  σ x1 else (if (σ 1 1) ≤ x2 then fx_Rules_firstBreach_b50  σ x1 else (if x1 = (1 : Int32) then tx_ci (fx_Rules_changesForAll σ x2) fun r8 σ7 => (if r8 = 0 then fx_Rules_firstBreach_b44 (fx_Rules_firstBreach_b2 n) σ7 x1 x2 else fx_Rules_firstBreach_b42  σ7 x2) else tx_ci (fx_Rules_changesImmutable σ x2) fun r5 σ4 => (if r5 = 0 then fx_Rules_firstBreach_b44 (fx_Rules_firstBreach_b2 n) σ4 x1 x2 else fx_Rules_firstBreach_b42  σ4 x2))))
def fx_Rules_firstBreach (σ : tx_St) (x1 : Int32) : Option (Int32 × tx_St) := fx_Rules_firstBreach_b2  tx_fu σ x1 (0 : Int32)
set_option maxRecDepth 100000 in
set_option maxHeartbeats 4000000 in
theorem fx_Rules_firstBreach_b150_w {l : Launch} {E : tx_E} (σ : tx_St) (t : Int32 × tx_St) (hT : fx_Rules_firstBreach_b150 σ  = some t) : gx l E mi_Rules_firstBreach (some (.int t.1), t.2) σ [] 150 [] := by
  unfold fx_Rules_firstBreach_b150 at hT
  refine gx_iconst (pc := 150) (-1 : Int32) d_Rules_firstBreach_150 (by decide) ?_
  cases hT
  exact gx_iret (pc := 151) d_Rules_firstBreach_151 rfl rfl
set_option maxRecDepth 100000 in
set_option maxHeartbeats 4000000 in
theorem fx_Rules_firstBreach_b144_w {l : Launch} {E : tx_E} (k52 : tx_St → Int32 → Int32 → Option (Int32 × tx_St)) (j52 : ∀ (σ : tx_St) (x1 : Int32) (x2 : Int32) (t : Int32 × tx_St), k52 σ x1 x2 = some t → gx l E mi_Rules_firstBreach (some (.int t.1), t.2) σ [(0, .ref (E.1 20)), (1, .int x1), (2, .int x2)] 52 []) (σ : tx_St) (x1 : Int32) (x2 : Int32) (t : Int32 × tx_St) (hT : fx_Rules_firstBreach_b144 k52 σ x1 x2 = some t) : gx l E mi_Rules_firstBreach (some (.int t.1), t.2) σ [(0, .ref (E.1 20)), (1, .int x1), (2, .int x2)] 144 [] := by
  unfold fx_Rules_firstBreach_b144 at hT
  refine gx_iinc (pc := 144) (x2 + (1 : Int32)) 2 [(2, .int (x2 + (1 : Int32))), (0, .ref (E.1 20)), (1, .int x1)] d_Rules_firstBreach_144 rfl (tx_inc (by decide)) (Nat.le_of_ble_eq_true rfl) rfl ?_
  refine gx_goto (pc := 147) 52 d_Rules_firstBreach_147 rfl ?_
  refine gx_sub [1, 2, 0] rfl ?_
  exact j52 σ x1 (x2 + (1 : Int32)) _ hT
set_option maxRecDepth 100000 in
set_option maxHeartbeats 4000000 in
theorem fx_Rules_firstBreach_b103_w {l : Launch} {E : tx_E} (k52 : tx_St → Int32 → Int32 → Option (Int32 × tx_St)) (j52 : ∀ (σ : tx_St) (x1 : Int32) (x2 : Int32) (t : Int32 × tx_St), k52 σ x1 x2 = some t → gx l E mi_Rules_firstBreach (some (.int t.1), t.2) σ [(0, .ref (E.1 20)), (1, .int x1), (2, .int x2)] 52 []) : ∀ (n : Nat) (σ : tx_St) (x1 : Int32) (x2 : Int32) (x3 : Int32) (t : Int32 × tx_St), fx_Rules_firstBreach_b103 k52 n σ x1 x2 x3 = some t → gx l E mi_Rules_firstBreach (some (.int t.1), t.2) σ [(0, .ref (E.1 20)), (1, .int x1), (2, .int x2), (3, .int x3)] 103 [] := by
  intro n
  induction n with
  | zero => intro σ x1 x2 x3 t hT; cases hT
  | succ n ih =>
    intro σ x1 x2 x3 t hT
    rw [fx_Rules_firstBreach_b103] at hT
    refine gx_iload_n (pc := 103) 1 d_Rules_firstBreach_103 rfl rfl ?_
    refine gx_iconst (pc := 104) (4 : Int32) d_Rules_firstBreach_104 (by decide) ?_
    refine gx_icmp_le (pc := 105) 144 d_Rules_firstBreach_105 rfl (fun h20 => ?_) (fun h20 => ?_)
    · have hT := tx_ifp h20 hT
      refine gx_sub [0, 1, 2] rfl ?_
      exact fx_Rules_firstBreach_b144_w (k52) (j52) σ x1 x2 _ hT
    · have hT := tx_ifn h20 hT
      refine gx_iload_n (pc := 108) 3 d_Rules_firstBreach_108 rfl rfl ?_
      refine gx_aload_n (pc := 109) 0 d_Rules_firstBreach_109 rfl rfl ?_
      refine gx_getR (pc := 110) 1 fl_Rules_9 d_Rules_firstBreach_110 (rfl) (by decide) rfl ?_
      refine gx_getR (pc := 113) 12 fl_Rules_43 d_Rules_firstBreach_113 (rfl) (by decide) rfl ?_
      refine gx_iload_n (pc := 116) 2 d_Rules_firstBreach_116 rfl rfl ?_
      obtain ⟨v21, gv21, iv21, hT⟩ := tx_rd_some hT
      refine gx_iald (pc := 117) v21 d_Rules_firstBreach_117 (rfl) iv21 gv21 ?_
      refine gx_icmp_ge (pc := 118) 144 d_Rules_firstBreach_118 rfl (fun h22 => ?_) (fun h22 => ?_)
      · have hT := tx_ifp h22 hT
        refine gx_sub [0, 1, 2] rfl ?_
        exact fx_Rules_firstBreach_b144_w (k52) (j52) σ x1 x2 _ hT
      · have hT := tx_ifn h22 hT
        refine gx_aload_n (pc := 121) 0 d_Rules_firstBreach_121 rfl rfl ?_
        refine gx_iload_n (pc := 122) 1 d_Rules_firstBreach_122 rfl rfl ?_
        refine gx_iload_n (pc := 123) 2 d_Rules_firstBreach_123 rfl rfl ?_
        refine gx_iload_n (pc := 124) 3 d_Rules_firstBreach_124 rfl rfl ?_
        obtain ⟨r24, σ23, cσ23, hT⟩ := tx_ci_some hT
        refine gx_callV (pc := 125) (As := [.int x1, .int x2, .int x3]) (rest := []) cm_Rules_breaks lk_Rules_47 (fx_Rules_breaks_c l E σ x1 x2 x3 _ cσ23) (rfl) (by decide) rfl rfl tx_fi_Rules_firstBreach_Rules_breaks (Nat.le_of_ble_eq_true rfl) d_Rules_firstBreach_125 ?_
        change gx l E mi_Rules_firstBreach _ σ23 [(0, .ref (E.1 20)), (1, .int x1), (2, .int x2), (3, .int x3)] 128 [.int r24]
        refine gx_if_eq (pc := 128) 138 d_Rules_firstBreach_128 rfl (fun h25 => ?_) (fun h25 => ?_)
        · have hT := tx_ifp h25 hT
          refine gx_iinc (pc := 138) (x3 + (1 : Int32)) 3 [(3, .int (x3 + (1 : Int32))), (0, .ref (E.1 20)), (1, .int x1), (2, .int x2)] d_Rules_firstBreach_138 rfl (tx_inc (by decide)) (Nat.le_of_ble_eq_true rfl) rfl ?_
          refine gx_goto (pc := 141) 103 d_Rules_firstBreach_141 rfl ?_
          refine gx_sub [1, 2, 3, 0] rfl ?_
          exact ih σ23 x1 x2 (x3 + (1 : Int32)) _ hT
        · have hT := tx_ifn h25 hT
          refine gx_bipush (pc := 131) (16 : Int32) d_Rules_firstBreach_131 (by decide) ?_
          refine gx_iload_n (pc := 133) 2 d_Rules_firstBreach_133 rfl rfl ?_
          refine gx_imul (pc := 134) d_Rules_firstBreach_134 ?_
          refine gx_iload_n (pc := 135) 3 d_Rules_firstBreach_135 rfl rfl ?_
          refine gx_iadd (pc := 136) d_Rules_firstBreach_136 ?_
          cases hT
          exact gx_iret (pc := 137) d_Rules_firstBreach_137 rfl rfl
set_option maxRecDepth 100000 in
set_option maxHeartbeats 4000000 in
theorem fx_Rules_firstBreach_b101_w {l : Launch} {E : tx_E} (k52 : tx_St → Int32 → Int32 → Option (Int32 × tx_St)) (j52 : ∀ (σ : tx_St) (x1 : Int32) (x2 : Int32) (t : Int32 × tx_St), k52 σ x1 x2 = some t → gx l E mi_Rules_firstBreach (some (.int t.1), t.2) σ [(0, .ref (E.1 20)), (1, .int x1), (2, .int x2)] 52 []) (σ : tx_St) (x1 : Int32) (x2 : Int32) (t : Int32 × tx_St) (hT : fx_Rules_firstBreach_b101 k52 σ x1 x2 = some t) : gx l E mi_Rules_firstBreach (some (.int t.1), t.2) σ [(0, .ref (E.1 20)), (1, .int x1), (2, .int x2)] 101 [] := by
  unfold fx_Rules_firstBreach_b101 at hT
  refine gx_iconst (pc := 101) (0 : Int32) d_Rules_firstBreach_101 (by decide) ?_
  refine gx_istore_n (pc := 102) [(3, .int (0 : Int32)), (0, .ref (E.1 20)), (1, .int x1), (2, .int x2)] d_Rules_firstBreach_102 rfl (Nat.le_of_ble_eq_true rfl) rfl ?_
  refine gx_sub [1, 2, 3, 0] rfl ?_
  exact fx_Rules_firstBreach_b103_w (k52) (j52) tx_fu σ x1 x2 (0 : Int32) _ hT
set_option maxRecDepth 100000 in
set_option maxHeartbeats 4000000 in
theorem fx_Rules_firstBreach_b83_w {l : Launch} {E : tx_E} (k52 : tx_St → Int32 → Int32 → Option (Int32 × tx_St)) (j52 : ∀ (σ : tx_St) (x1 : Int32) (x2 : Int32) (t : Int32 × tx_St), k52 σ x1 x2 = some t → gx l E mi_Rules_firstBreach (some (.int t.1), t.2) σ [(0, .ref (E.1 20)), (1, .int x1), (2, .int x2)] 52 []) (σ : tx_St) (x1 : Int32) (x2 : Int32) (t : Int32 × tx_St) (hT : fx_Rules_firstBreach_b83 k52 σ x1 x2 = some t) : gx l E mi_Rules_firstBreach (some (.int t.1), t.2) σ [(0, .ref (E.1 20)), (1, .int x1), (2, .int x2)] 83 [] := by
  unfold fx_Rules_firstBreach_b83 at hT
  refine gx_iload_n (pc := 83) 1 d_Rules_firstBreach_83 rfl rfl ?_
  refine gx_iconst (pc := 84) (4 : Int32) d_Rules_firstBreach_84 (by decide) ?_
  refine gx_icmp_ne (pc := 85) 101 d_Rules_firstBreach_85 rfl (fun h16 => ?_) (fun h16 => ?_)
  · have hT := tx_ifn h16 hT
    exact fx_Rules_firstBreach_b101_w (k52) (j52) σ x1 x2 _ hT
  · have hT := tx_ifp h16 hT
    refine gx_aload_n (pc := 88) 0 d_Rules_firstBreach_88 rfl rfl ?_
    refine gx_getR (pc := 89) 15 fl_Rules_15 d_Rules_firstBreach_89 (rfl) (by decide) rfl ?_
    refine gx_iload_n (pc := 92) 2 d_Rules_firstBreach_92 rfl rfl ?_
    obtain ⟨r18, σ17, cσ17, hT⟩ := tx_ci_some hT
    refine gx_callV (pc := 93) (As := [.int x2]) (rest := []) cm_Fitting_codeFits lk_Rules_38 (fx_Fitting_codeFits_c l E σ x2 _ cσ17) (rfl) (by decide) rfl rfl tx_fi_Rules_firstBreach_Fitting_codeFits (Nat.le_of_ble_eq_true rfl) d_Rules_firstBreach_93 ?_
    change gx l E mi_Rules_firstBreach _ σ17 [(0, .ref (E.1 20)), (1, .int x1), (2, .int x2)] 96 [.int r18]
    refine gx_if_ne (pc := 96) 101 d_Rules_firstBreach_96 rfl (fun h19 => ?_) (fun h19 => ?_)
    · have hT := tx_ifn h19 hT
      exact fx_Rules_firstBreach_b101_w (k52) (j52) σ17 x1 x2 _ hT
    · have hT := tx_ifp h19 hT
      refine gx_iload_n (pc := 99) 2 d_Rules_firstBreach_99 rfl rfl ?_
      cases hT
      exact gx_iret (pc := 100) d_Rules_firstBreach_100 rfl rfl
set_option maxRecDepth 100000 in
set_option maxHeartbeats 4000000 in
theorem fx_Rules_firstBreach_b52_w {l : Launch} {E : tx_E} : ∀ (n : Nat) (σ : tx_St) (x1 : Int32) (x2 : Int32) (t : Int32 × tx_St), fx_Rules_firstBreach_b52 n σ x1 x2 = some t → gx l E mi_Rules_firstBreach (some (.int t.1), t.2) σ [(0, .ref (E.1 20)), (1, .int x1), (2, .int x2)] 52 [] := by
  intro n
  induction n with
  | zero => intro σ x1 x2 t hT; cases hT
  | succ n ih =>
    intro σ x1 x2 t hT
    rw [fx_Rules_firstBreach_b52] at hT
    refine gx_iload_n (pc := 52) 1 d_Rules_firstBreach_52 rfl rfl ?_
    refine gx_iconst (pc := 53) (2 : Int32) d_Rules_firstBreach_53 (by decide) ?_
    refine gx_icmp_le (pc := 54) 150 d_Rules_firstBreach_54 rfl (fun h10 => ?_) (fun h10 => ?_)
    · have hT := tx_ifp h10 hT
      refine gx_sub [] rfl ?_
      exact fx_Rules_firstBreach_b150_w  σ _ hT
    · have hT := tx_ifn h10 hT
      refine gx_iload_n (pc := 57) 2 d_Rules_firstBreach_57 rfl rfl ?_
      refine gx_aload_n (pc := 58) 0 d_Rules_firstBreach_58 rfl rfl ?_
      refine gx_getR (pc := 59) 1 fl_Rules_9 d_Rules_firstBreach_59 (rfl) (by decide) rfl ?_
      refine gx_getI (pc := 62) (σ 1 2) fl_Rules_32 d_Rules_firstBreach_62 (rfl) (by decide) rfl rfl ?_
      refine gx_icmp_ge (pc := 65) 150 d_Rules_firstBreach_65 rfl (fun h11 => ?_) (fun h11 => ?_)
      · have hT := tx_ifp h11 hT
        refine gx_sub [] rfl ?_
        exact fx_Rules_firstBreach_b150_w  σ _ hT
      · have hT := tx_ifn h11 hT
        refine gx_iload_n (pc := 68) 1 d_Rules_firstBreach_68 rfl rfl ?_
        refine gx_iconst (pc := 69) (3 : Int32) d_Rules_firstBreach_69 (by decide) ?_
        refine gx_icmp_ne (pc := 70) 83 d_Rules_firstBreach_70 rfl (fun h12 => ?_) (fun h12 => ?_)
        · have hT := tx_ifn h12 hT
          exact fx_Rules_firstBreach_b83_w (fx_Rules_firstBreach_b52 n) (ih) σ x1 x2 _ hT
        · have hT := tx_ifp h12 hT
          refine gx_aload_n (pc := 73) 0 d_Rules_firstBreach_73 rfl rfl ?_
          refine gx_iload_n (pc := 74) 2 d_Rules_firstBreach_74 rfl rfl ?_
          obtain ⟨r14, σ13, cσ13, hT⟩ := tx_ci_some hT
          refine gx_callV (pc := 75) (As := [.int x2]) (rest := []) cm_Rules_overridesBadly lk_Rules_35 (fx_Rules_overridesBadly_c l E σ x2 _ cσ13) (rfl) (by decide) rfl rfl tx_fi_Rules_firstBreach_Rules_overridesBadly (Nat.le_of_ble_eq_true rfl) d_Rules_firstBreach_75 ?_
          change gx l E mi_Rules_firstBreach _ σ13 [(0, .ref (E.1 20)), (1, .int x1), (2, .int x2)] 78 [.int r14]
          refine gx_if_eq (pc := 78) 83 d_Rules_firstBreach_78 rfl (fun h15 => ?_) (fun h15 => ?_)
          · have hT := tx_ifp h15 hT
            exact fx_Rules_firstBreach_b83_w (fx_Rules_firstBreach_b52 n) (ih) σ13 x1 x2 _ hT
          · have hT := tx_ifn h15 hT
            refine gx_iload_n (pc := 81) 2 d_Rules_firstBreach_81 rfl rfl ?_
            cases hT
            exact gx_iret (pc := 82) d_Rules_firstBreach_82 rfl rfl
set_option maxRecDepth 100000 in
set_option maxHeartbeats 4000000 in
theorem fx_Rules_firstBreach_b50_w {l : Launch} {E : tx_E} (σ : tx_St) (x1 : Int32) (t : Int32 × tx_St) (hT : fx_Rules_firstBreach_b50 σ x1 = some t) : gx l E mi_Rules_firstBreach (some (.int t.1), t.2) σ [(0, .ref (E.1 20)), (1, .int x1)] 50 [] := by
  unfold fx_Rules_firstBreach_b50 at hT
  refine gx_iconst (pc := 50) (0 : Int32) d_Rules_firstBreach_50 (by decide) ?_
  refine gx_istore_n (pc := 51) [(2, .int (0 : Int32)), (0, .ref (E.1 20)), (1, .int x1)] d_Rules_firstBreach_51 rfl (Nat.le_of_ble_eq_true rfl) rfl ?_
  refine gx_sub [1, 2, 0] rfl ?_
  exact fx_Rules_firstBreach_b52_w  tx_fu σ x1 (0 : Int32) _ hT
set_option maxRecDepth 100000 in
set_option maxHeartbeats 4000000 in
theorem fx_Rules_firstBreach_b44_w {l : Launch} {E : tx_E} (k2 : tx_St → Int32 → Int32 → Option (Int32 × tx_St)) (j2 : ∀ (σ : tx_St) (x1 : Int32) (x2 : Int32) (t : Int32 × tx_St), k2 σ x1 x2 = some t → gx l E mi_Rules_firstBreach (some (.int t.1), t.2) σ [(0, .ref (E.1 20)), (1, .int x1), (2, .int x2)] 2 []) (σ : tx_St) (x1 : Int32) (x2 : Int32) (t : Int32 × tx_St) (hT : fx_Rules_firstBreach_b44 k2 σ x1 x2 = some t) : gx l E mi_Rules_firstBreach (some (.int t.1), t.2) σ [(0, .ref (E.1 20)), (1, .int x1), (2, .int x2)] 44 [] := by
  unfold fx_Rules_firstBreach_b44 at hT
  refine gx_iinc (pc := 44) (x2 + (1 : Int32)) 2 [(2, .int (x2 + (1 : Int32))), (0, .ref (E.1 20)), (1, .int x1)] d_Rules_firstBreach_44 rfl (tx_inc (by decide)) (Nat.le_of_ble_eq_true rfl) rfl ?_
  refine gx_goto (pc := 47) 2 d_Rules_firstBreach_47 rfl ?_
  refine gx_sub [1, 2, 0] rfl ?_
  exact j2 σ x1 (x2 + (1 : Int32)) _ hT
set_option maxRecDepth 100000 in
set_option maxHeartbeats 4000000 in
theorem fx_Rules_firstBreach_b42_w {l : Launch} {E : tx_E} (σ : tx_St) (x2 : Int32) (t : Int32 × tx_St) (hT : fx_Rules_firstBreach_b42 σ x2 = some t) : gx l E mi_Rules_firstBreach (some (.int t.1), t.2) σ [(2, .int x2)] 42 [] := by
  unfold fx_Rules_firstBreach_b42 at hT
  refine gx_iload_n (pc := 42) 0 d_Rules_firstBreach_42 rfl rfl ?_
  cases hT
  exact gx_iret (pc := 43) d_Rules_firstBreach_43 rfl rfl
set_option maxRecDepth 100000 in
set_option maxHeartbeats 4000000 in
theorem fx_Rules_firstBreach_b2_w {l : Launch} {E : tx_E} : ∀ (n : Nat) (σ : tx_St) (x1 : Int32) (x2 : Int32) (t : Int32 × tx_St), fx_Rules_firstBreach_b2 n σ x1 x2 = some t → gx l E mi_Rules_firstBreach (some (.int t.1), t.2) σ [(0, .ref (E.1 20)), (1, .int x1), (2, .int x2)] 2 [] := by
  intro n
  induction n with
  | zero => intro σ x1 x2 t hT; cases hT
  | succ n ih =>
    intro σ x1 x2 t hT
    rw [fx_Rules_firstBreach_b2] at hT
    refine gx_iload_n (pc := 2) 1 d_Rules_firstBreach_2 rfl rfl ?_
    refine gx_iconst (pc := 3) (2 : Int32) d_Rules_firstBreach_3 (by decide) ?_
    refine gx_icmp_gt (pc := 4) 50 d_Rules_firstBreach_4 rfl (fun h1 => ?_) (fun h1 => ?_)
    · have hT := tx_ifp h1 hT
      refine gx_sub [0, 1] rfl ?_
      exact fx_Rules_firstBreach_b50_w  σ x1 _ hT
    · have hT := tx_ifn h1 hT
      refine gx_iload_n (pc := 7) 2 d_Rules_firstBreach_7 rfl rfl ?_
      refine gx_aload_n (pc := 8) 0 d_Rules_firstBreach_8 rfl rfl ?_
      refine gx_getR (pc := 9) 1 fl_Rules_9 d_Rules_firstBreach_9 (rfl) (by decide) rfl ?_
      refine gx_getI (pc := 12) (σ 1 1) fl_Rules_19 d_Rules_firstBreach_12 (rfl) (by decide) rfl rfl ?_
      refine gx_icmp_ge (pc := 15) 50 d_Rules_firstBreach_15 rfl (fun h2 => ?_) (fun h2 => ?_)
      · have hT := tx_ifp h2 hT
        refine gx_sub [0, 1] rfl ?_
        exact fx_Rules_firstBreach_b50_w  σ x1 _ hT
      · have hT := tx_ifn h2 hT
        refine gx_iload_n (pc := 18) 1 d_Rules_firstBreach_18 rfl rfl ?_
        refine gx_iconst (pc := 19) (1 : Int32) d_Rules_firstBreach_19 (by decide) ?_
        refine gx_icmp_ne (pc := 20) 34 d_Rules_firstBreach_20 rfl (fun h3 => ?_) (fun h3 => ?_)
        · have hT := tx_ifn h3 hT
          refine gx_aload_n (pc := 34) 0 d_Rules_firstBreach_34 rfl rfl ?_
          refine gx_iload_n (pc := 35) 2 d_Rules_firstBreach_35 rfl rfl ?_
          obtain ⟨r5, σ4, cσ4, hT⟩ := tx_ci_some hT
          refine gx_callV (pc := 36) (As := [.int x2]) (rest := []) cm_Rules_changesImmutable lk_Rules_29 (fx_Rules_changesImmutable_c l E σ x2 _ cσ4) (rfl) (by decide) rfl rfl tx_fi_Rules_firstBreach_Rules_changesImmutable (Nat.le_of_ble_eq_true rfl) d_Rules_firstBreach_36 ?_
          change gx l E mi_Rules_firstBreach _ σ4 [(0, .ref (E.1 20)), (1, .int x1), (2, .int x2)] 39 [.int r5]
          refine gx_if_eq (pc := 39) 44 d_Rules_firstBreach_39 rfl (fun h6 => ?_) (fun h6 => ?_)
          · have hT := tx_ifp h6 hT
            exact fx_Rules_firstBreach_b44_w (fx_Rules_firstBreach_b2 n) (ih) σ4 x1 x2 _ hT
          · have hT := tx_ifn h6 hT
            refine gx_sub [2] rfl ?_
            exact fx_Rules_firstBreach_b42_w  σ4 x2 _ hT
        · have hT := tx_ifp h3 hT
          refine gx_aload_n (pc := 23) 0 d_Rules_firstBreach_23 rfl rfl ?_
          refine gx_iload_n (pc := 24) 2 d_Rules_firstBreach_24 rfl rfl ?_
          obtain ⟨r8, σ7, cσ7, hT⟩ := tx_ci_some hT
          refine gx_callV (pc := 25) (As := [.int x2]) (rest := []) cm_Rules_changesForAll lk_Rules_25 (fx_Rules_changesForAll_c l E σ x2 _ cσ7) (rfl) (by decide) rfl rfl tx_fi_Rules_firstBreach_Rules_changesForAll (Nat.le_of_ble_eq_true rfl) d_Rules_firstBreach_25 ?_
          change gx l E mi_Rules_firstBreach _ σ7 [(0, .ref (E.1 20)), (1, .int x1), (2, .int x2)] 28 [.int r8]
          refine gx_if_eq (pc := 28) 44 d_Rules_firstBreach_28 rfl (fun h9 => ?_) (fun h9 => ?_)
          · have hT := tx_ifp h9 hT
            exact fx_Rules_firstBreach_b44_w (fx_Rules_firstBreach_b2 n) (ih) σ7 x1 x2 _ hT
          · have hT := tx_ifn h9 hT
            refine gx_goto (pc := 31) 42 d_Rules_firstBreach_31 rfl ?_
            refine gx_sub [2] rfl ?_
            exact fx_Rules_firstBreach_b42_w  σ7 x2 _ hT
set_option maxRecDepth 100000 in
set_option maxHeartbeats 4000000 in
theorem fx_Rules_firstBreach_c (l : Launch) (E : tx_E) (σ : tx_St) (x1 : Int32) (t : Int32 × tx_St) (hT : fx_Rules_firstBreach σ x1 = some t) : tx_MX l E y_Rules_firstBreach mi_Rules_firstBreach (some (.int t.1), t.2) [.ref (E.1 20), .int x1] σ := by
  refine tx_MX_of (by decide) rfl (Nat.le_of_ble_eq_true rfl) ?_
  show gx l E mi_Rules_firstBreach (some (.int t.1), t.2) σ [(0, .ref (E.1 20)), (1, .int x1)] 0 []
  unfold fx_Rules_firstBreach at hT
  refine gx_iconst (pc := 0) (0 : Int32) d_Rules_firstBreach_0 (by decide) ?_
  refine gx_istore_n (pc := 1) [(2, .int (0 : Int32)), (0, .ref (E.1 20)), (1, .int x1)] d_Rules_firstBreach_1 rfl (Nat.le_of_ble_eq_true rfl) rfl ?_
  refine gx_sub [1, 2, 0] rfl ?_
  exact fx_Rules_firstBreach_b2_w  tx_fu σ x1 (0 : Int32) _ hT
theorem d_X_check_0 : decode c_X_check 0 = .ok (.aload_n 0, 1) := by decide +kernel
theorem d_X_check_1 : decode c_X_check 1 = .ok (.getfield 50, 3) := by decide +kernel
theorem d_X_check_4 : decode c_X_check 4 = .ok (.ifCond .eq (5), 3) := by decide +kernel
theorem d_X_check_7 : decode c_X_check 7 = .ok (.iconst (0), 1) := by decide +kernel
theorem d_X_check_8 : decode c_X_check 8 = .ok (.ireturn, 1) := by decide +kernel
theorem d_X_check_9 : decode c_X_check 9 = .ok (.iconst (1), 1) := by decide +kernel
theorem d_X_check_10 : decode c_X_check 10 = .ok (.istore_n 1, 1) := by decide +kernel
theorem d_X_check_11 : decode c_X_check 11 = .ok (.iload_n 1, 1) := by decide +kernel
theorem d_X_check_12 : decode c_X_check 12 = .ok (.bipush (7), 2) := by decide +kernel
theorem d_X_check_14 : decode c_X_check 14 = .ok (.if_icmp .gt (31), 3) := by decide +kernel
theorem d_X_check_17 : decode c_X_check 17 = .ok (.aload_n 0, 1) := by decide +kernel
theorem d_X_check_18 : decode c_X_check 18 = .ok (.getfield 30, 3) := by decide +kernel
theorem d_X_check_21 : decode c_X_check 21 = .ok (.iload_n 1, 1) := by decide +kernel
theorem d_X_check_22 : decode c_X_check 22 = .ok (.invokevirtual 102, 3) := by decide +kernel
theorem d_X_check_25 : decode c_X_check 25 = .ok (.istore_n 2, 1) := by decide +kernel
theorem d_X_check_26 : decode c_X_check 26 = .ok (.iload_n 2, 1) := by decide +kernel
theorem d_X_check_27 : decode c_X_check 27 = .ok (.iconst (-1), 1) := by decide +kernel
theorem d_X_check_28 : decode c_X_check 28 = .ok (.if_icmp .eq (11), 3) := by decide +kernel
theorem d_X_check_31 : decode c_X_check 31 = .ok (.sipush (1000), 3) := by decide +kernel
theorem d_X_check_34 : decode c_X_check 34 = .ok (.iload_n 1, 1) := by decide +kernel
theorem d_X_check_35 : decode c_X_check 35 = .ok (.imul, 1) := by decide +kernel
theorem d_X_check_36 : decode c_X_check 36 = .ok (.iload_n 2, 1) := by decide +kernel
theorem d_X_check_37 : decode c_X_check 37 = .ok (.iadd, 1) := by decide +kernel
theorem d_X_check_38 : decode c_X_check 38 = .ok (.ireturn, 1) := by decide +kernel
theorem d_X_check_39 : decode c_X_check 39 = .ok (.iinc 1 (1), 3) := by decide +kernel
theorem d_X_check_42 : decode c_X_check 42 = .ok (.goto (-31), 3) := by decide +kernel
theorem d_X_check_45 : decode c_X_check 45 = .ok (.aload_n 0, 1) := by decide +kernel
theorem d_X_check_46 : decode c_X_check 46 = .ok (.iconst (1), 1) := by decide +kernel
theorem d_X_check_47 : decode c_X_check 47 = .ok (.putfield 50, 3) := by decide +kernel
theorem d_X_check_50 : decode c_X_check 50 = .ok (.iconst (0), 1) := by decide +kernel
theorem d_X_check_51 : decode c_X_check 51 = .ok (.ireturn, 1) := by decide +kernel
def fx_X_check_b11 : Nat → tx_St → Int32 → Option (Int32 × tx_St)
  | 0, _, _ => none
  | n + 1, σ, x1 => (if (7 : Int32) < x1 then tx_pz σ 0 5 (1 : Int32) fun σ3 => some ((0 : Int32), σ3) else tx_ci (fx_Rules_firstBreach σ x1) fun r5 σ4 => (if r5 = (-1 : Int32) then fx_X_check_b11 n σ4 (x1 + (1 : Int32)) else some ((((1000 : Int32) * x1) + r5), σ4)))
def fx_X_check (σ : tx_St) : Option (Int32 × tx_St) := (if (σ 0 5) = 0 then fx_X_check_b11  tx_fu σ (1 : Int32) else some ((0 : Int32), σ))
set_option maxRecDepth 100000 in
set_option maxHeartbeats 4000000 in
theorem fx_X_check_b11_w {l : Launch} {E : tx_E} : ∀ (n : Nat) (σ : tx_St) (x1 : Int32) (t : Int32 × tx_St), fx_X_check_b11 n σ x1 = some t → gx l E mi_X_check (some (.int t.1), t.2) σ [(0, .ref (E.1 0)), (1, .int x1)] 11 [] := by
  intro n
  induction n with
  | zero => intro σ x1 t hT; cases hT
  | succ n ih =>
    intro σ x1 t hT
    rw [fx_X_check_b11] at hT
    refine gx_iload_n (pc := 11) 1 d_X_check_11 rfl rfl ?_
    refine gx_bipush (pc := 12) (7 : Int32) d_X_check_12 (by decide) ?_
    refine gx_icmp_gt (pc := 14) 45 d_X_check_14 rfl (fun h2 => ?_) (fun h2 => ?_)
    · have hT := tx_ifp h2 hT
      refine gx_aload_n (pc := 45) 0 d_X_check_45 rfl rfl ?_
      refine gx_iconst (pc := 46) (1 : Int32) d_X_check_46 (by decide) ?_
      obtain ⟨σ3, gσ3, bσ3, hT⟩ := tx_pz_some hT
      refine gx_putZ (pc := 47) fp_X_50 d_X_check_47 (rfl) (by decide) rfl bσ3 ?_
      rw [gσ3]
      refine gx_iconst (pc := 50) (0 : Int32) d_X_check_50 (by decide) ?_
      cases hT
      exact gx_iret (pc := 51) d_X_check_51 rfl rfl
    · have hT := tx_ifn h2 hT
      refine gx_aload_n (pc := 17) 0 d_X_check_17 rfl rfl ?_
      refine gx_getR (pc := 18) 20 fl_X_30 d_X_check_18 (rfl) (by decide) rfl ?_
      refine gx_iload_n (pc := 21) 1 d_X_check_21 rfl rfl ?_
      obtain ⟨r5, σ4, cσ4, hT⟩ := tx_ci_some hT
      refine gx_callV (pc := 22) (As := [.int x1]) (rest := []) cm_Rules_firstBreach lk_X_102 (fx_Rules_firstBreach_c l E σ x1 _ cσ4) (rfl) (by decide) rfl rfl tx_fi_X_check_Rules_firstBreach (Nat.le_of_ble_eq_true rfl) d_X_check_22 ?_
      change gx l E mi_X_check _ σ4 [(0, .ref (E.1 0)), (1, .int x1)] 25 [.int r5]
      refine gx_istore_n (pc := 25) [(2, .int r5), (0, .ref (E.1 0)), (1, .int x1)] d_X_check_25 rfl (Nat.le_of_ble_eq_true rfl) rfl ?_
      refine gx_iload_n (pc := 26) 0 d_X_check_26 rfl rfl ?_
      refine gx_iconst (pc := 27) (-1 : Int32) d_X_check_27 (by decide) ?_
      refine gx_icmp_eq (pc := 28) 39 d_X_check_28 rfl (fun h6 => ?_) (fun h6 => ?_)
      · have hT := tx_ifp h6 hT
        refine gx_iinc (pc := 39) (x1 + (1 : Int32)) 2 [(1, .int (x1 + (1 : Int32))), (2, .int r5), (0, .ref (E.1 0))] d_X_check_39 rfl (tx_inc (by decide)) (Nat.le_of_ble_eq_true rfl) rfl ?_
        refine gx_goto (pc := 42) 11 d_X_check_42 rfl ?_
        refine gx_sub [2, 0] rfl ?_
        exact ih σ4 (x1 + (1 : Int32)) _ hT
      · have hT := tx_ifn h6 hT
        refine gx_sipush (pc := 31) (1000 : Int32) d_X_check_31 (by decide) ?_
        refine gx_iload_n (pc := 34) 2 d_X_check_34 rfl rfl ?_
        refine gx_imul (pc := 35) d_X_check_35 ?_
        refine gx_iload_n (pc := 36) 0 d_X_check_36 rfl rfl ?_
        refine gx_iadd (pc := 37) d_X_check_37 ?_
        cases hT
        exact gx_iret (pc := 38) d_X_check_38 rfl rfl
set_option maxRecDepth 100000 in
set_option maxHeartbeats 4000000 in
theorem fx_X_check_c (l : Launch) (E : tx_E) (σ : tx_St) (t : Int32 × tx_St) (hT : fx_X_check σ  = some t) : tx_MX l E y_X_check mi_X_check (some (.int t.1), t.2) [.ref (E.1 0)] σ := by
  refine tx_MX_of (by decide) rfl (Nat.le_of_ble_eq_true rfl) ?_
  show gx l E mi_X_check (some (.int t.1), t.2) σ [(0, .ref (E.1 0))] 0 []
  unfold fx_X_check at hT
  refine gx_aload_n (pc := 0) 0 d_X_check_0 rfl rfl ?_
  refine gx_getI (pc := 1) (σ 0 5) fl_X_50 d_X_check_1 (rfl) (by decide) rfl rfl ?_
  refine gx_if_eq (pc := 4) 9 d_X_check_4 rfl (fun h1 => ?_) (fun h1 => ?_)
  · have hT := tx_ifp h1 hT
    refine gx_iconst (pc := 9) (1 : Int32) d_X_check_9 (by decide) ?_
    refine gx_istore_n (pc := 10) [(1, .int (1 : Int32)), (0, .ref (E.1 0))] d_X_check_10 rfl (Nat.le_of_ble_eq_true rfl) rfl ?_
    refine gx_sub [1, 0] rfl ?_
    exact fx_X_check_b11_w  tx_fu σ (1 : Int32) _ hT
  · have hT := tx_ifn h1 hT
    refine gx_iconst (pc := 7) (0 : Int32) d_X_check_7 (by decide) ?_
    cases hT
    exact gx_iret (pc := 8) d_X_check_8 rfl rfl
theorem d_Plan_forgetAll_0 : decode c_Plan_forgetAll 0 = .ok (.aload_n 0, 1) := by decide +kernel
theorem d_Plan_forgetAll_1 : decode c_Plan_forgetAll 1 = .ok (.iconst (0), 1) := by decide +kernel
theorem d_Plan_forgetAll_2 : decode c_Plan_forgetAll 2 = .ok (.putfield 51, 3) := by decide +kernel
theorem d_Plan_forgetAll_5 : decode c_Plan_forgetAll 5 = .ok (.aload_n 0, 1) := by decide +kernel
theorem d_Plan_forgetAll_6 : decode c_Plan_forgetAll 6 = .ok (.iconst (0), 1) := by decide +kernel
theorem d_Plan_forgetAll_7 : decode c_Plan_forgetAll 7 = .ok (.putfield 55, 3) := by decide +kernel
theorem d_Plan_forgetAll_10 : decode c_Plan_forgetAll 10 = .ok (.aload_n 0, 1) := by decide +kernel
theorem d_Plan_forgetAll_11 : decode c_Plan_forgetAll 11 = .ok (.iconst (0), 1) := by decide +kernel
theorem d_Plan_forgetAll_12 : decode c_Plan_forgetAll 12 = .ok (.putfield 58, 3) := by decide +kernel
theorem d_Plan_forgetAll_15 : decode c_Plan_forgetAll 15 = .ok (.return_, 1) := by decide +kernel
def fx_Plan_forgetAll (σ : tx_St) : Option tx_St := tx_pt σ 1 0 (0 : Int32) fun σ1 => tx_pt σ1 1 1 (0 : Int32) fun σ2 => tx_pt σ2 1 2 (0 : Int32) fun σ3 => some σ3
set_option maxRecDepth 100000 in
set_option maxHeartbeats 4000000 in
theorem fx_Plan_forgetAll_c (l : Launch) (E : tx_E) (σ : tx_St) (t : tx_St) (hT : fx_Plan_forgetAll σ  = some t) : tx_MX l E y_Plan_forgetAll mi_Plan_forgetAll (none, t) [.ref (E.1 1)] σ := by
  refine tx_MX_of (by decide) rfl (Nat.le_of_ble_eq_true rfl) ?_
  show gx l E mi_Plan_forgetAll (none, t) σ [(0, .ref (E.1 1))] 0 []
  unfold fx_Plan_forgetAll at hT
  refine gx_aload_n (pc := 0) 0 d_Plan_forgetAll_0 rfl rfl ?_
  refine gx_iconst (pc := 1) (0 : Int32) d_Plan_forgetAll_1 (by decide) ?_
  obtain ⟨σ1, gσ1, hT⟩ := tx_pt_some hT
  refine gx_putI (pc := 2) fp_Plan_51 d_Plan_forgetAll_2 (rfl) (by decide) rfl ?_
  rw [gσ1]
  refine gx_aload_n (pc := 5) 0 d_Plan_forgetAll_5 rfl rfl ?_
  refine gx_iconst (pc := 6) (0 : Int32) d_Plan_forgetAll_6 (by decide) ?_
  obtain ⟨σ2, gσ2, hT⟩ := tx_pt_some hT
  refine gx_putI (pc := 7) fp_Plan_55 d_Plan_forgetAll_7 (rfl) (by decide) rfl ?_
  rw [gσ2]
  refine gx_aload_n (pc := 10) 0 d_Plan_forgetAll_10 rfl rfl ?_
  refine gx_iconst (pc := 11) (0 : Int32) d_Plan_forgetAll_11 (by decide) ?_
  obtain ⟨σ3, gσ3, hT⟩ := tx_pt_some hT
  refine gx_putI (pc := 12) fp_Plan_58 d_Plan_forgetAll_12 (rfl) (by decide) rfl ?_
  rw [gσ3]
  cases hT
  exact gx_vret (pc := 15) d_Plan_forgetAll_15 rfl rfl
theorem d_Heap_forgetAll_0 : decode c_Heap_forgetAll 0 = .ok (.aload_n 0, 1) := by decide +kernel
theorem d_Heap_forgetAll_1 : decode c_Heap_forgetAll 1 = .ok (.iconst (0), 1) := by decide +kernel
theorem d_Heap_forgetAll_2 : decode c_Heap_forgetAll 2 = .ok (.putfield 21, 3) := by decide +kernel
theorem d_Heap_forgetAll_5 : decode c_Heap_forgetAll 5 = .ok (.aload_n 0, 1) := by decide +kernel
theorem d_Heap_forgetAll_6 : decode c_Heap_forgetAll 6 = .ok (.iconst (0), 1) := by decide +kernel
theorem d_Heap_forgetAll_7 : decode c_Heap_forgetAll 7 = .ok (.putfield 25, 3) := by decide +kernel
theorem d_Heap_forgetAll_10 : decode c_Heap_forgetAll 10 = .ok (.return_, 1) := by decide +kernel
def fx_Heap_forgetAll (σ : tx_St) : Option tx_St := tx_pt σ 21 3 (0 : Int32) fun σ1 => tx_pt σ1 21 4 (0 : Int32) fun σ2 => some σ2
set_option maxRecDepth 100000 in
set_option maxHeartbeats 4000000 in
theorem fx_Heap_forgetAll_c (l : Launch) (E : tx_E) (σ : tx_St) (t : tx_St) (hT : fx_Heap_forgetAll σ  = some t) : tx_MX l E y_Heap_forgetAll mi_Heap_forgetAll (none, t) [.ref (E.1 21)] σ := by
  refine tx_MX_of (by decide) rfl (Nat.le_of_ble_eq_true rfl) ?_
  show gx l E mi_Heap_forgetAll (none, t) σ [(0, .ref (E.1 21))] 0 []
  unfold fx_Heap_forgetAll at hT
  refine gx_aload_n (pc := 0) 0 d_Heap_forgetAll_0 rfl rfl ?_
  refine gx_iconst (pc := 1) (0 : Int32) d_Heap_forgetAll_1 (by decide) ?_
  obtain ⟨σ1, gσ1, hT⟩ := tx_pt_some hT
  refine gx_putI (pc := 2) fp_Heap_21 d_Heap_forgetAll_2 (rfl) (by decide) rfl ?_
  rw [gσ1]
  refine gx_aload_n (pc := 5) 0 d_Heap_forgetAll_5 rfl rfl ?_
  refine gx_iconst (pc := 6) (0 : Int32) d_Heap_forgetAll_6 (by decide) ?_
  obtain ⟨σ2, gσ2, hT⟩ := tx_pt_some hT
  refine gx_putI (pc := 7) fp_Heap_25 d_Heap_forgetAll_7 (rfl) (by decide) rfl ?_
  rw [gσ2]
  cases hT
  exact gx_vret (pc := 10) d_Heap_forgetAll_10 rfl rfl
theorem d_X_clear_0 : decode c_X_clear 0 = .ok (.aload_n 0, 1) := by decide +kernel
theorem d_X_clear_1 : decode c_X_clear 1 = .ok (.getfield 10, 3) := by decide +kernel
theorem d_X_clear_4 : decode c_X_clear 4 = .ok (.invokevirtual 106, 3) := by decide +kernel
theorem d_X_clear_7 : decode c_X_clear 7 = .ok (.aload_n 0, 1) := by decide +kernel
theorem d_X_clear_8 : decode c_X_clear 8 = .ok (.getfield 37, 3) := by decide +kernel
theorem d_X_clear_11 : decode c_X_clear 11 = .ok (.invokevirtual 109, 3) := by decide +kernel
theorem d_X_clear_14 : decode c_X_clear 14 = .ok (.aload_n 0, 1) := by decide +kernel
theorem d_X_clear_15 : decode c_X_clear 15 = .ok (.iconst (0), 1) := by decide +kernel
theorem d_X_clear_16 : decode c_X_clear 16 = .ok (.putfield 50, 3) := by decide +kernel
theorem d_X_clear_19 : decode c_X_clear 19 = .ok (.return_, 1) := by decide +kernel
def fx_X_clear (σ : tx_St) : Option tx_St := tx_cv (fx_Plan_forgetAll σ) fun σ1 => tx_cv (fx_Heap_forgetAll σ1) fun σ2 => tx_pz σ2 0 5 (0 : Int32) fun σ3 => some σ3
set_option maxRecDepth 100000 in
set_option maxHeartbeats 4000000 in
theorem fx_X_clear_c (l : Launch) (E : tx_E) (σ : tx_St) (t : tx_St) (hT : fx_X_clear σ  = some t) : tx_MX l E y_X_clear mi_X_clear (none, t) [.ref (E.1 0)] σ := by
  refine tx_MX_of (by decide) rfl (Nat.le_of_ble_eq_true rfl) ?_
  show gx l E mi_X_clear (none, t) σ [(0, .ref (E.1 0))] 0 []
  unfold fx_X_clear at hT
  refine gx_aload_n (pc := 0) 0 d_X_clear_0 rfl rfl ?_
  refine gx_getR (pc := 1) 1 fl_X_10 d_X_clear_1 (rfl) (by decide) rfl ?_
  obtain ⟨σ1, cσ1, hT⟩ := tx_cv_some hT
  refine gx_callV (pc := 4) (As := []) (rest := []) cm_Plan_forgetAll lk_X_106 (fx_Plan_forgetAll_c l E σ _ cσ1) (rfl) (by decide) rfl rfl tx_fi_X_clear_Plan_forgetAll (Nat.le_of_ble_eq_true rfl) d_X_clear_4 ?_
  change gx l E mi_X_clear _ σ1 [(0, .ref (E.1 0))] 7 []
  refine gx_aload_n (pc := 7) 0 d_X_clear_7 rfl rfl ?_
  refine gx_getR (pc := 8) 21 fl_X_37 d_X_clear_8 (rfl) (by decide) rfl ?_
  obtain ⟨σ2, cσ2, hT⟩ := tx_cv_some hT
  refine gx_callV (pc := 11) (As := []) (rest := []) cm_Heap_forgetAll lk_X_109 (fx_Heap_forgetAll_c l E σ1 _ cσ2) (rfl) (by decide) rfl rfl tx_fi_X_clear_Heap_forgetAll (Nat.le_of_ble_eq_true rfl) d_X_clear_11 ?_
  change gx l E mi_X_clear _ σ2 [(0, .ref (E.1 0))] 14 []
  refine gx_aload_n (pc := 14) 0 d_X_clear_14 rfl rfl ?_
  refine gx_iconst (pc := 15) (0 : Int32) d_X_clear_15 (by decide) ?_
  obtain ⟨σ3, gσ3, bσ3, hT⟩ := tx_pz_some hT
  refine gx_putZ (pc := 16) fp_X_50 d_X_clear_16 (rfl) (by decide) rfl bσ3 ?_
  rw [gσ3]
  cases hT
  exact gx_vret (pc := 19) d_X_clear_19 rfl rfl
theorem d_X_typesAt_0 : decode c_X_typesAt 0 = .ok (.aload_n 0, 1) := by decide +kernel
theorem d_X_typesAt_1 : decode c_X_typesAt 1 = .ok (.getfield 50, 3) := by decide +kernel
theorem d_X_typesAt_4 : decode c_X_typesAt 4 = .ok (.ifCond .eq (14), 3) := by decide +kernel
theorem d_X_typesAt_7 : decode c_X_typesAt 7 = .ok (.aload_n 0, 1) := by decide +kernel
theorem d_X_typesAt_8 : decode c_X_typesAt 8 = .ok (.getfield 10, 3) := by decide +kernel
theorem d_X_typesAt_11 : decode c_X_typesAt 11 = .ok (.iload_n 1, 1) := by decide +kernel
theorem d_X_typesAt_12 : decode c_X_typesAt 12 = .ok (.invokevirtual 92, 3) := by decide +kernel
theorem d_X_typesAt_15 : decode c_X_typesAt 15 = .ok (.ifCond .ne (5), 3) := by decide +kernel
theorem d_X_typesAt_18 : decode c_X_typesAt 18 = .ok (.iconst (-1), 1) := by decide +kernel
theorem d_X_typesAt_19 : decode c_X_typesAt 19 = .ok (.ireturn, 1) := by decide +kernel
theorem d_X_typesAt_20 : decode c_X_typesAt 20 = .ok (.aload_n 0, 1) := by decide +kernel
theorem d_X_typesAt_21 : decode c_X_typesAt 21 = .ok (.getfield 10, 3) := by decide +kernel
theorem d_X_typesAt_24 : decode c_X_typesAt 24 = .ok (.iload_n 1, 1) := by decide +kernel
theorem d_X_typesAt_25 : decode c_X_typesAt 25 = .ok (.iload_n 2, 1) := by decide +kernel
theorem d_X_typesAt_26 : decode c_X_typesAt 26 = .ok (.invokevirtual 110, 3) := by decide +kernel
theorem d_X_typesAt_29 : decode c_X_typesAt 29 = .ok (.ifCond .ne (5), 3) := by decide +kernel
theorem d_X_typesAt_32 : decode c_X_typesAt 32 = .ok (.iconst (-1), 1) := by decide +kernel
theorem d_X_typesAt_33 : decode c_X_typesAt 33 = .ok (.ireturn, 1) := by decide +kernel
theorem d_X_typesAt_34 : decode c_X_typesAt 34 = .ok (.aload_n 0, 1) := by decide +kernel
theorem d_X_typesAt_35 : decode c_X_typesAt 35 = .ok (.getfield 21, 3) := by decide +kernel
theorem d_X_typesAt_38 : decode c_X_typesAt 38 = .ok (.getfield 114, 3) := by decide +kernel
theorem d_X_typesAt_41 : decode c_X_typesAt 41 = .ok (.iload_n 1, 1) := by decide +kernel
theorem d_X_typesAt_42 : decode c_X_typesAt 42 = .ok (.bipush (12), 2) := by decide +kernel
theorem d_X_typesAt_44 : decode c_X_typesAt 44 = .ok (.imul, 1) := by decide +kernel
theorem d_X_typesAt_45 : decode c_X_typesAt 45 = .ok (.iload_n 2, 1) := by decide +kernel
theorem d_X_typesAt_46 : decode c_X_typesAt 46 = .ok (.iadd, 1) := by decide +kernel
theorem d_X_typesAt_47 : decode c_X_typesAt 47 = .ok (.iaload, 1) := by decide +kernel
theorem d_X_typesAt_48 : decode c_X_typesAt 48 = .ok (.ireturn, 1) := by decide +kernel
def fx_X_typesAt_b18 (σ : tx_St) : Option (Int32 × tx_St) := some ((-1 : Int32), σ)
def fx_X_typesAt (σ : tx_St) (x1 : Int32) (x2 : Int32) : Option (Int32 × tx_St) := (if (σ 0 5) = 0 then fx_X_typesAt_b18  σ else tx_ci (fx_Plan_isMethod σ x1) fun r3 σ2 => (if r3 = 0 then fx_X_typesAt_b18  σ2 else tx_ci (fx_Plan_isInstruction σ2 x1 x2) fun r6 σ5 => (if r6 = 0 then some ((-1 : Int32), σ5) else tx_rd σ5 16 96 ((x1 * (12 : Int32)) + x2) fun v8 => some (v8, σ5))))
set_option maxRecDepth 100000 in
set_option maxHeartbeats 4000000 in
theorem fx_X_typesAt_b18_w {l : Launch} {E : tx_E} (σ : tx_St) (t : Int32 × tx_St) (hT : fx_X_typesAt_b18 σ  = some t) : gx l E mi_X_typesAt (some (.int t.1), t.2) σ [] 18 [] := by
  unfold fx_X_typesAt_b18 at hT
  refine gx_iconst (pc := 18) (-1 : Int32) d_X_typesAt_18 (by decide) ?_
  cases hT
  exact gx_iret (pc := 19) d_X_typesAt_19 rfl rfl
set_option maxRecDepth 100000 in
set_option maxHeartbeats 4000000 in
theorem fx_X_typesAt_c (l : Launch) (E : tx_E) (σ : tx_St) (x1 : Int32) (x2 : Int32) (t : Int32 × tx_St) (hT : fx_X_typesAt σ x1 x2 = some t) : tx_MX l E y_X_typesAt mi_X_typesAt (some (.int t.1), t.2) [.ref (E.1 0), .int x1, .int x2] σ := by
  refine tx_MX_of (by decide) rfl (Nat.le_of_ble_eq_true rfl) ?_
  show gx l E mi_X_typesAt (some (.int t.1), t.2) σ [(0, .ref (E.1 0)), (1, .int x1), (2, .int x2)] 0 []
  unfold fx_X_typesAt at hT
  refine gx_aload_n (pc := 0) 0 d_X_typesAt_0 rfl rfl ?_
  refine gx_getI (pc := 1) (σ 0 5) fl_X_50 d_X_typesAt_1 (rfl) (by decide) rfl rfl ?_
  refine gx_if_eq (pc := 4) 18 d_X_typesAt_4 rfl (fun h1 => ?_) (fun h1 => ?_)
  · have hT := tx_ifp h1 hT
    refine gx_sub [] rfl ?_
    exact fx_X_typesAt_b18_w  σ _ hT
  · have hT := tx_ifn h1 hT
    refine gx_aload_n (pc := 7) 0 d_X_typesAt_7 rfl rfl ?_
    refine gx_getR (pc := 8) 1 fl_X_10 d_X_typesAt_8 (rfl) (by decide) rfl ?_
    refine gx_iload_n (pc := 11) 1 d_X_typesAt_11 rfl rfl ?_
    obtain ⟨r3, σ2, cσ2, hT⟩ := tx_ci_some hT
    refine gx_callV (pc := 12) (As := [.int x1]) (rest := []) cm_Plan_isMethod lk_X_92 (fx_Plan_isMethod_c l E σ x1 _ cσ2) (rfl) (by decide) rfl rfl tx_fi_X_typesAt_Plan_isMethod (Nat.le_of_ble_eq_true rfl) d_X_typesAt_12 ?_
    change gx l E mi_X_typesAt _ σ2 [(0, .ref (E.1 0)), (1, .int x1), (2, .int x2)] 15 [.int r3]
    refine gx_if_ne (pc := 15) 20 d_X_typesAt_15 rfl (fun h4 => ?_) (fun h4 => ?_)
    · have hT := tx_ifn h4 hT
      refine gx_aload_n (pc := 20) 0 d_X_typesAt_20 rfl rfl ?_
      refine gx_getR (pc := 21) 1 fl_X_10 d_X_typesAt_21 (rfl) (by decide) rfl ?_
      refine gx_iload_n (pc := 24) 1 d_X_typesAt_24 rfl rfl ?_
      refine gx_iload_n (pc := 25) 2 d_X_typesAt_25 rfl rfl ?_
      obtain ⟨r6, σ5, cσ5, hT⟩ := tx_ci_some hT
      refine gx_callV (pc := 26) (As := [.int x1, .int x2]) (rest := []) cm_Plan_isInstruction lk_X_110 (fx_Plan_isInstruction_c l E σ2 x1 x2 _ cσ5) (rfl) (by decide) rfl rfl tx_fi_X_typesAt_Plan_isInstruction (Nat.le_of_ble_eq_true rfl) d_X_typesAt_26 ?_
      change gx l E mi_X_typesAt _ σ5 [(0, .ref (E.1 0)), (1, .int x1), (2, .int x2)] 29 [.int r6]
      refine gx_if_ne (pc := 29) 34 d_X_typesAt_29 rfl (fun h7 => ?_) (fun h7 => ?_)
      · have hT := tx_ifn h7 hT
        refine gx_aload_n (pc := 34) 0 d_X_typesAt_34 rfl rfl ?_
        refine gx_getR (pc := 35) 15 fl_X_21 d_X_typesAt_35 (rfl) (by decide) rfl ?_
        refine gx_getR (pc := 38) 16 fl_X_114 d_X_typesAt_38 (rfl) (by decide) rfl ?_
        refine gx_iload_n (pc := 41) 1 d_X_typesAt_41 rfl rfl ?_
        refine gx_bipush (pc := 42) (12 : Int32) d_X_typesAt_42 (by decide) ?_
        refine gx_imul (pc := 44) d_X_typesAt_44 ?_
        refine gx_iload_n (pc := 45) 2 d_X_typesAt_45 rfl rfl ?_
        refine gx_iadd (pc := 46) d_X_typesAt_46 ?_
        obtain ⟨v8, gv8, iv8, hT⟩ := tx_rd_some hT
        refine gx_iald (pc := 47) v8 d_X_typesAt_47 (rfl) iv8 gv8 ?_
        cases hT
        exact gx_iret (pc := 48) d_X_typesAt_48 rfl rfl
      · have hT := tx_ifp h7 hT
        refine gx_iconst (pc := 32) (-1 : Int32) d_X_typesAt_32 (by decide) ?_
        cases hT
        exact gx_iret (pc := 33) d_X_typesAt_33 rfl rfl
    · have hT := tx_ifp h4 hT
      refine gx_sub [] rfl ?_
      exact fx_X_typesAt_b18_w  σ2 _ hT
theorem d_Heap_inHandle_0 : decode c_Heap_inHandle 0 = .ok (.iload_n 1, 1) := by decide +kernel
theorem d_Heap_inHandle_1 : decode c_Heap_inHandle 1 = .ok (.ifCond .lt (20), 3) := by decide +kernel
theorem d_Heap_inHandle_4 : decode c_Heap_inHandle 4 = .ok (.iload_n 1, 1) := by decide +kernel
theorem d_Heap_inHandle_5 : decode c_Heap_inHandle 5 = .ok (.aload_n 0, 1) := by decide +kernel
theorem d_Heap_inHandle_6 : decode c_Heap_inHandle 6 = .ok (.getfield 25, 3) := by decide +kernel
theorem d_Heap_inHandle_9 : decode c_Heap_inHandle 9 = .ok (.if_icmp .ge (12), 3) := by decide +kernel
theorem d_Heap_inHandle_12 : decode c_Heap_inHandle 12 = .ok (.aload_n 0, 1) := by decide +kernel
theorem d_Heap_inHandle_13 : decode c_Heap_inHandle 13 = .ok (.getfield 18, 3) := by decide +kernel
theorem d_Heap_inHandle_16 : decode c_Heap_inHandle 16 = .ok (.iload_n 1, 1) := by decide +kernel
theorem d_Heap_inHandle_17 : decode c_Heap_inHandle 17 = .ok (.iaload, 1) := by decide +kernel
theorem d_Heap_inHandle_18 : decode c_Heap_inHandle 18 = .ok (.goto (4), 3) := by decide +kernel
theorem d_Heap_inHandle_21 : decode c_Heap_inHandle 21 = .ok (.iconst (0), 1) := by decide +kernel
theorem d_Heap_inHandle_22 : decode c_Heap_inHandle 22 = .ok (.ireturn, 1) := by decide +kernel
def fx_Heap_inHandle_b22 (σ : tx_St) (s0 : Int32) : Option (Int32 × tx_St) := some (s0, σ)
def fx_Heap_inHandle_b21 (σ : tx_St) : Option (Int32 × tx_St) := fx_Heap_inHandle_b22  σ (0 : Int32)
def fx_Heap_inHandle (σ : tx_St) (x1 : Int32) : Option (Int32 × tx_St) := (if x1 < 0 then fx_Heap_inHandle_b21  σ else (if (σ 21 4) ≤ x1 then fx_Heap_inHandle_b21  σ else tx_rd σ 24 16 x1 fun v3 => fx_Heap_inHandle_b22  σ v3))
set_option maxRecDepth 100000 in
set_option maxHeartbeats 4000000 in
theorem fx_Heap_inHandle_b22_w {l : Launch} {E : tx_E} (σ : tx_St) (s0 : Int32) (t : Int32 × tx_St) (hT : fx_Heap_inHandle_b22 σ s0 = some t) : gx l E mi_Heap_inHandle (some (.int t.1), t.2) σ [] 22 [.int s0] := by
  unfold fx_Heap_inHandle_b22 at hT
  cases hT
  exact gx_iret (pc := 22) d_Heap_inHandle_22 rfl rfl
set_option maxRecDepth 100000 in
set_option maxHeartbeats 4000000 in
theorem fx_Heap_inHandle_b21_w {l : Launch} {E : tx_E} (σ : tx_St) (t : Int32 × tx_St) (hT : fx_Heap_inHandle_b21 σ  = some t) : gx l E mi_Heap_inHandle (some (.int t.1), t.2) σ [] 21 [] := by
  unfold fx_Heap_inHandle_b21 at hT
  refine gx_iconst (pc := 21) (0 : Int32) d_Heap_inHandle_21 (by decide) ?_
  exact fx_Heap_inHandle_b22_w  σ (0 : Int32) _ hT
set_option maxRecDepth 100000 in
set_option maxHeartbeats 4000000 in
theorem fx_Heap_inHandle_c (l : Launch) (E : tx_E) (σ : tx_St) (x1 : Int32) (t : Int32 × tx_St) (hT : fx_Heap_inHandle σ x1 = some t) : tx_MX l E y_Heap_inHandle mi_Heap_inHandle (some (.int t.1), t.2) [.ref (E.1 21), .int x1] σ := by
  refine tx_MX_of (by decide) rfl (Nat.le_of_ble_eq_true rfl) ?_
  show gx l E mi_Heap_inHandle (some (.int t.1), t.2) σ [(0, .ref (E.1 21)), (1, .int x1)] 0 []
  unfold fx_Heap_inHandle at hT
  refine gx_iload_n (pc := 0) 1 d_Heap_inHandle_0 rfl rfl ?_
  refine gx_if_lt (pc := 1) 21 d_Heap_inHandle_1 rfl (fun h1 => ?_) (fun h1 => ?_)
  · have hT := tx_ifp h1 hT
    refine gx_sub [] rfl ?_
    exact fx_Heap_inHandle_b21_w  σ _ hT
  · have hT := tx_ifn h1 hT
    refine gx_iload_n (pc := 4) 1 d_Heap_inHandle_4 rfl rfl ?_
    refine gx_aload_n (pc := 5) 0 d_Heap_inHandle_5 rfl rfl ?_
    refine gx_getI (pc := 6) (σ 21 4) fl_Heap_25 d_Heap_inHandle_6 (rfl) (by decide) rfl rfl ?_
    refine gx_icmp_ge (pc := 9) 21 d_Heap_inHandle_9 rfl (fun h2 => ?_) (fun h2 => ?_)
    · have hT := tx_ifp h2 hT
      refine gx_sub [] rfl ?_
      exact fx_Heap_inHandle_b21_w  σ _ hT
    · have hT := tx_ifn h2 hT
      refine gx_aload_n (pc := 12) 0 d_Heap_inHandle_12 rfl rfl ?_
      refine gx_getR (pc := 13) 24 fl_Heap_18 d_Heap_inHandle_13 (rfl) (by decide) rfl ?_
      refine gx_iload_n (pc := 16) 1 d_Heap_inHandle_16 rfl rfl ?_
      obtain ⟨v3, gv3, iv3, hT⟩ := tx_rd_some hT
      refine gx_iald (pc := 17) v3 d_Heap_inHandle_17 (rfl) iv3 gv3 ?_
      refine gx_goto (pc := 18) 22 d_Heap_inHandle_18 rfl ?_
      refine gx_sub [] rfl ?_
      exact fx_Heap_inHandle_b22_w  σ v3 _ hT
