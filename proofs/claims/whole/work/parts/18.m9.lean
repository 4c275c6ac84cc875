theorem d_Mo_addMethod_0 : decode c_Mo_addMethod 0 = .ok (.aload_n 0, 1) := by decide +kernel
theorem d_Mo_addMethod_1 : decode c_Mo_addMethod 1 = .ok (.getfield 94, 3) := by decide +kernel
theorem d_Mo_addMethod_4 : decode c_Mo_addMethod 4 = .ok (.ifCond .eq (6), 3) := by decide +kernel
theorem d_Mo_addMethod_7 : decode c_Mo_addMethod 7 = .ok (.bipush (-3), 2) := by decide +kernel
theorem d_Mo_addMethod_9 : decode c_Mo_addMethod 9 = .ok (.ireturn, 1) := by decide +kernel
theorem d_Mo_addMethod_10 : decode c_Mo_addMethod 10 = .ok (.aload_n 0, 1) := by decide +kernel
theorem d_Mo_addMethod_11 : decode c_Mo_addMethod 11 = .ok (.iload_n 1, 1) := by decide +kernel
theorem d_Mo_addMethod_12 : decode c_Mo_addMethod 12 = .ok (.invokevirtual 87, 3) := by decide +kernel
theorem d_Mo_addMethod_15 : decode c_Mo_addMethod 15 = .ok (.ifCond .eq (55), 3) := by decide +kernel
theorem d_Mo_addMethod_18 : decode c_Mo_addMethod 18 = .ok (.iload_n 2, 1) := by decide +kernel
theorem d_Mo_addMethod_19 : decode c_Mo_addMethod 19 = .ok (.ifCond .lt (51), 3) := by decide +kernel
theorem d_Mo_addMethod_22 : decode c_Mo_addMethod 22 = .ok (.iload_n 2, 1) := by decide +kernel
theorem d_Mo_addMethod_23 : decode c_Mo_addMethod 23 = .ok (.iconst (1), 1) := by decide +kernel
theorem d_Mo_addMethod_24 : decode c_Mo_addMethod 24 = .ok (.if_icmp .gt (46), 3) := by decide +kernel
theorem d_Mo_addMethod_27 : decode c_Mo_addMethod 27 = .ok (.iload_n 3, 1) := by decide +kernel
theorem d_Mo_addMethod_28 : decode c_Mo_addMethod 28 = .ok (.ifCond .lt (42), 3) := by decide +kernel
theorem d_Mo_addMethod_31 : decode c_Mo_addMethod 31 = .ok (.iload_n 3, 1) := by decide +kernel
theorem d_Mo_addMethod_32 : decode c_Mo_addMethod 32 = .ok (.bipush (7), 2) := by decide +kernel
theorem d_Mo_addMethod_34 : decode c_Mo_addMethod 34 = .ok (.if_icmp .gt (36), 3) := by decide +kernel
theorem d_Mo_addMethod_37 : decode c_Mo_addMethod 37 = .ok (.iload 4, 2) := by decide +kernel
theorem d_Mo_addMethod_39 : decode c_Mo_addMethod 39 = .ok (.iconst (-1), 1) := by decide +kernel
theorem d_Mo_addMethod_40 : decode c_Mo_addMethod 40 = .ok (.if_icmp .eq (12), 3) := by decide +kernel
theorem d_Mo_addMethod_43 : decode c_Mo_addMethod 43 = .ok (.aload_n 0, 1) := by decide +kernel
theorem d_Mo_addMethod_44 : decode c_Mo_addMethod 44 = .ok (.iload 4, 2) := by decide +kernel
theorem d_Mo_addMethod_46 : decode c_Mo_addMethod 46 = .ok (.invokevirtual 98, 3) := by decide +kernel
theorem d_Mo_addMethod_49 : decode c_Mo_addMethod 49 = .ok (.ifCond .eq (21), 3) := by decide +kernel
theorem d_Mo_addMethod_52 : decode c_Mo_addMethod 52 = .ok (.aload_n 0, 1) := by decide +kernel
theorem d_Mo_addMethod_53 : decode c_Mo_addMethod 53 = .ok (.iload 5, 2) := by decide +kernel
theorem d_Mo_addMethod_55 : decode c_Mo_addMethod 55 = .ok (.invokevirtual 98, 3) := by decide +kernel
theorem d_Mo_addMethod_58 : decode c_Mo_addMethod 58 = .ok (.ifCond .eq (12), 3) := by decide +kernel
theorem d_Mo_addMethod_61 : decode c_Mo_addMethod 61 = .ok (.aload_n 0, 1) := by decide +kernel
theorem d_Mo_addMethod_62 : decode c_Mo_addMethod 62 = .ok (.iload_n 1, 1) := by decide +kernel
theorem d_Mo_addMethod_63 : decode c_Mo_addMethod 63 = .ok (.iload_n 3, 1) := by decide +kernel
theorem d_Mo_addMethod_64 : decode c_Mo_addMethod 64 = .ok (.invokevirtual 104, 3) := by decide +kernel
theorem d_Mo_addMethod_67 : decode c_Mo_addMethod 67 = .ok (.ifCond .lt (5), 3) := by decide +kernel
theorem d_Mo_addMethod_70 : decode c_Mo_addMethod 70 = .ok (.iconst (-1), 1) := by decide +kernel
theorem d_Mo_addMethod_71 : decode c_Mo_addMethod 71 = .ok (.ireturn, 1) := by decide +kernel
theorem d_Mo_addMethod_72 : decode c_Mo_addMethod 72 = .ok (.aload_n 0, 1) := by decide +kernel
theorem d_Mo_addMethod_73 : decode c_Mo_addMethod 73 = .ok (.getfield 91, 3) := by decide +kernel
theorem d_Mo_addMethod_76 : decode c_Mo_addMethod 76 = .ok (.bipush (8), 2) := by decide +kernel
theorem d_Mo_addMethod_78 : decode c_Mo_addMethod 78 = .ok (.if_icmp .ne (6), 3) := by decide +kernel
theorem d_Mo_addMethod_81 : decode c_Mo_addMethod 81 = .ok (.bipush (-2), 2) := by decide +kernel
theorem d_Mo_addMethod_83 : decode c_Mo_addMethod 83 = .ok (.ireturn, 1) := by decide +kernel
theorem d_Mo_addMethod_84 : decode c_Mo_addMethod 84 = .ok (.aload_n 0, 1) := by decide +kernel
theorem d_Mo_addMethod_85 : decode c_Mo_addMethod 85 = .ok (.getfield 25, 3) := by decide +kernel
theorem d_Mo_addMethod_88 : decode c_Mo_addMethod 88 = .ok (.aload_n 0, 1) := by decide +kernel
theorem d_Mo_addMethod_89 : decode c_Mo_addMethod 89 = .ok (.getfield 91, 3) := by decide +kernel
theorem d_Mo_addMethod_92 : decode c_Mo_addMethod 92 = .ok (.iload_n 1, 1) := by decide +kernel
theorem d_Mo_addMethod_93 : decode c_Mo_addMethod 93 = .ok (.iastore, 1) := by decide +kernel
theorem d_Mo_addMethod_94 : decode c_Mo_addMethod 94 = .ok (.aload_n 0, 1) := by decide +kernel
theorem d_Mo_addMethod_95 : decode c_Mo_addMethod 95 = .ok (.getfield 28, 3) := by decide +kernel
theorem d_Mo_addMethod_98 : decode c_Mo_addMethod 98 = .ok (.aload_n 0, 1) := by decide +kernel
theorem d_Mo_addMethod_99 : decode c_Mo_addMethod 99 = .ok (.getfield 91, 3) := by decide +kernel
theorem d_Mo_addMethod_102 : decode c_Mo_addMethod 102 = .ok (.iload_n 2, 1) := by decide +kernel
theorem d_Mo_addMethod_103 : decode c_Mo_addMethod 103 = .ok (.iastore, 1) := by decide +kernel
theorem d_Mo_addMethod_104 : decode c_Mo_addMethod 104 = .ok (.aload_n 0, 1) := by decide +kernel
theorem d_Mo_addMethod_105 : decode c_Mo_addMethod 105 = .ok (.getfield 31, 3) := by decide +kernel
theorem d_Mo_addMethod_108 : decode c_Mo_addMethod 108 = .ok (.aload_n 0, 1) := by decide +kernel
theorem d_Mo_addMethod_109 : decode c_Mo_addMethod 109 = .ok (.getfield 91, 3) := by decide +kernel
theorem d_Mo_addMethod_112 : decode c_Mo_addMethod 112 = .ok (.iload_n 3, 1) := by decide +kernel
theorem d_Mo_addMethod_113 : decode c_Mo_addMethod 113 = .ok (.iastore, 1) := by decide +kernel
theorem d_Mo_addMethod_114 : decode c_Mo_addMethod 114 = .ok (.aload_n 0, 1) := by decide +kernel
theorem d_Mo_addMethod_115 : decode c_Mo_addMethod 115 = .ok (.getfield 34, 3) := by decide +kernel
theorem d_Mo_addMethod_118 : decode c_Mo_addMethod 118 = .ok (.aload_n 0, 1) := by decide +kernel
theorem d_Mo_addMethod_119 : decode c_Mo_addMethod 119 = .ok (.getfield 91, 3) := by decide +kernel
theorem d_Mo_addMethod_122 : decode c_Mo_addMethod 122 = .ok (.iload 4, 2) := by decide +kernel
theorem d_Mo_addMethod_124 : decode c_Mo_addMethod 124 = .ok (.iastore, 1) := by decide +kernel
theorem d_Mo_addMethod_125 : decode c_Mo_addMethod 125 = .ok (.aload_n 0, 1) := by decide +kernel
theorem d_Mo_addMethod_126 : decode c_Mo_addMethod 126 = .ok (.getfield 37, 3) := by decide +kernel
theorem d_Mo_addMethod_129 : decode c_Mo_addMethod 129 = .ok (.aload_n 0, 1) := by decide +kernel
theorem d_Mo_addMethod_130 : decode c_Mo_addMethod 130 = .ok (.getfield 91, 3) := by decide +kernel
theorem d_Mo_addMethod_133 : decode c_Mo_addMethod 133 = .ok (.iload 5, 2) := by decide +kernel
theorem d_Mo_addMethod_135 : decode c_Mo_addMethod 135 = .ok (.iastore, 1) := by decide +kernel
theorem d_Mo_addMethod_136 : decode c_Mo_addMethod 136 = .ok (.aload_n 0, 1) := by decide +kernel
theorem d_Mo_addMethod_137 : decode c_Mo_addMethod 137 = .ok (.getfield 40, 3) := by decide +kernel
theorem d_Mo_addMethod_140 : decode c_Mo_addMethod 140 = .ok (.aload_n 0, 1) := by decide +kernel
theorem d_Mo_addMethod_141 : decode c_Mo_addMethod 141 = .ok (.getfield 91, 3) := by decide +kernel
theorem d_Mo_addMethod_144 : decode c_Mo_addMethod 144 = .ok (.iconst (0), 1) := by decide +kernel
theorem d_Mo_addMethod_145 : decode c_Mo_addMethod 145 = .ok (.iastore, 1) := by decide +kernel
theorem d_Mo_addMethod_146 : decode c_Mo_addMethod 146 = .ok (.aload_n 0, 1) := by decide +kernel
theorem d_Mo_addMethod_147 : decode c_Mo_addMethod 147 = .ok (.dup, 1) := by decide +kernel
theorem d_Mo_addMethod_148 : decode c_Mo_addMethod 148 = .ok (.getfield 91, 3) := by decide +kernel
theorem d_Mo_addMethod_151 : decode c_Mo_addMethod 151 = .ok (.iconst (1), 1) := by decide +kernel
theorem d_Mo_addMethod_152 : decode c_Mo_addMethod 152 = .ok (.iadd, 1) := by decide +kernel
theorem d_Mo_addMethod_153 : decode c_Mo_addMethod 153 = .ok (.putfield 91, 3) := by decide +kernel
theorem d_Mo_addMethod_156 : decode c_Mo_addMethod 156 = .ok (.aload_n 0, 1) := by decide +kernel
theorem d_Mo_addMethod_157 : decode c_Mo_addMethod 157 = .ok (.getfield 91, 3) := by decide +kernel
theorem d_Mo_addMethod_160 : decode c_Mo_addMethod 160 = .ok (.iconst (1), 1) := by decide +kernel
theorem d_Mo_addMethod_161 : decode c_Mo_addMethod 161 = .ok (.isub, 1) := by decide +kernel
theorem d_Mo_addMethod_162 : decode c_Mo_addMethod 162 = .ok (.ireturn, 1) := by decide +kernel
def fx_Mo_addMethod_b70 (σ : tx_St) : Option (Int32 × tx_St) := some ((-1 : Int32), σ)
def fx_Mo_addMethod_b52 (σ : tx_St) (x1 : Int32) (x2 : Int32) (x3 : Int32) (x4 : Int32) (x5 : Int32) : Option (Int32 × tx_St) := tx_ci (fx_Mo_isType σ x5) fun r14 σ13 => (if r14 = 0 then fx_Mo_addMethod_b70  σ13 else tx_ci (fx_Mo_methodOf σ13 x1 x3) fun r17 σ16 => (if r17 < 0 then (if (σ16 45 7) = (8 : Int32) then some ((-2 : Int32), σ16) else tx_wr σ16 51 8 (σ16 45 7) x1 fun σ20 => tx_wr σ20 52 8 (σ20 45 7) x2 fun σ21 => tx_wr σ21 53 8 (σ21 45 7) x3 fun σ22 => tx_wr σ22 54 8 (σ22 45 7) x4 fun σ23 => tx_wr σ23 55 8 (σ23 45 7) x5 fun σ24 => tx_wr σ24 56 8 (σ24 45 7) (0 : Int32) fun σ25 => tx_pt σ25 45 7 ((σ25 45 7) + (1 : Int32)) fun σ26 => some (((σ26 45 7) - (1 : Int32)), σ26)) else fx_Mo_addMethod_b70  σ16))
def fx_Mo_addMethod (σ : tx_St) (x1 : Int32) (x2 : Int32) (x3 : Int32) (x4 : Int32) (x5 : Int32) : Option (Int32 × tx_St) := (if (σ 45 16) = 0 then tx_ci (fx_Mo_isClass σ x1) fun r3 σ2 => (if r3 = 0 then fx_Mo_addMethod_b70  σ2 else (if x2 < 0 then fx_Mo_addMethod_b70  σ2 else (if (1 : Int32) < x2 then fx_Mo_addMethod_b70  σ2 else (if x3 < 0 then fx_Mo_addMethod_b70  σ2 else (if (7 : Int32) < x3 then fx_Mo_addMethod_b70  σ2 else (if x4 = (-1 : Int32) then fx_Mo_addMethod_b52  σ2 x1 x2 x3 x4 x5 else tx_ci (fx_Mo_isType σ2 x4) fun r11 σ10 => (if r11 = 0 then fx_Mo_addMethod_b70  σ10 else fx_Mo_addMethod_b52  σ10 x1 x2 x3 x4 x5))))))) else some ((-3 : Int32), σ))
set_option maxRecDepth 100000 in
set_option maxHeartbeats 4000000 in
theorem fx_Mo_addMethod_b70_w {l : Launch} {E : tx_E} (σ : tx_St) (t : Int32 × tx_St) (hT : fx_Mo_addMethod_b70 σ  = some t) : gx l E mi_Mo_addMethod (some (.int t.1), t.2) σ [] 70 [] := by
  unfold fx_Mo_addMethod_b70 at hT
  refine gx_iconst (pc := 70) (-1 : Int32) d_Mo_addMethod_70 (by decide) ?_
  cases hT
  exact gx_iret (pc := 71) d_Mo_addMethod_71 rfl rfl
set_option maxRecDepth 100000 in
set_option maxHeartbeats 4000000 in
theorem fx_Mo_addMethod_b52_w {l : Launch} {E : tx_E} (σ : tx_St) (x1 : Int32) (x2 : Int32) (x3 : Int32) (x4 : Int32) (x5 : Int32) (t : Int32 × tx_St) (hT : fx_Mo_addMethod_b52 σ x1 x2 x3 x4 x5 = some t) : gx l E mi_Mo_addMethod (some (.int t.1), t.2) σ [(0, .ref (E.1 45)), (1, .int x1), (2, .int x2), (3, .int x3), (4, .int x4), (5, .int x5)] 52 [] := by
  unfold fx_Mo_addMethod_b52 at hT
  refine gx_aload_n (pc := 52) 0 d_Mo_addMethod_52 rfl rfl ?_
  refine gx_iload (pc := 53) 5 d_Mo_addMethod_53 rfl ?_
  obtain ⟨r14, σ13, cσ13, hT⟩ := tx_ci_some hT
  refine gx_callV (pc := 55) (As := [.int x5]) (rest := []) cm_Mo_isType lk_Mo_98 (fx_Mo_isType_c l E σ x5 _ cσ13) (rfl) (by decide) rfl rfl tx_fi_Mo_addMethod_Mo_isType (Nat.le_of_ble_eq_true rfl) d_Mo_addMethod_55 ?_
  change gx l E mi_Mo_addMethod _ σ13 [(0, .ref (E.1 45)), (1, .int x1), (2, .int x2), (3, .int x3), (4, .int x4), (5, .int x5)] 58 [.int r14]
  refine gx_if_eq (pc := 58) 70 d_Mo_addMethod_58 rfl (fun h15 => ?_) (fun h15 => ?_)
  · have hT := tx_ifp h15 hT
    refine gx_sub [] rfl ?_
    exact fx_Mo_addMethod_b70_w  σ13 _ hT
  · have hT := tx_ifn h15 hT
    refine gx_aload_n (pc := 61) 0 d_Mo_addMethod_61 rfl rfl ?_
    refine gx_iload_n (pc := 62) 1 d_Mo_addMethod_62 rfl rfl ?_
    refine gx_iload_n (pc := 63) 3 d_Mo_addMethod_63 rfl rfl ?_
    obtain ⟨r17, σ16, cσ16, hT⟩ := tx_ci_some hT
    refine gx_callV (pc := 64) (As := [.int x1, .int x3]) (rest := []) cm_Mo_methodOf lk_Mo_104 (fx_Mo_methodOf_c l E σ13 x1 x3 _ cσ16) (rfl) (by decide) rfl rfl tx_fi_Mo_addMethod_Mo_methodOf (Nat.le_of_ble_eq_true rfl) d_Mo_addMethod_64 ?_
    change gx l E mi_Mo_addMethod _ σ16 [(0, .ref (E.1 45)), (1, .int x1), (2, .int x2), (3, .int x3), (4, .int x4), (5, .int x5)] 67 [.int r17]
    refine gx_if_lt (pc := 67) 72 d_Mo_addMethod_67 rfl (fun h18 => ?_) (fun h18 => ?_)
    · have hT := tx_ifp h18 hT
      refine gx_aload_n (pc := 72) 0 d_Mo_addMethod_72 rfl rfl ?_
      refine gx_getI (pc := 73) (σ16 45 7) fl_Mo_91 d_Mo_addMethod_73 (rfl) (by decide) rfl rfl ?_
      refine gx_bipush (pc := 76) (8 : Int32) d_Mo_addMethod_76 (by decide) ?_
      refine gx_icmp_ne (pc := 78) 84 d_Mo_addMethod_78 rfl (fun h19 => ?_) (fun h19 => ?_)
      · have hT := tx_ifn h19 hT
        refine gx_aload_n (pc := 84) 0 d_Mo_addMethod_84 rfl rfl ?_
        refine gx_getR (pc := 85) 51 fl_Mo_25 d_Mo_addMethod_85 (rfl) (by decide) rfl ?_
        refine gx_aload_n (pc := 88) 0 d_Mo_addMethod_88 rfl rfl ?_
        refine gx_getI (pc := 89) (σ16 45 7) fl_Mo_91 d_Mo_addMethod_89 (rfl) (by decide) rfl rfl ?_
        refine gx_iload_n (pc := 92) 1 d_Mo_addMethod_92 rfl rfl ?_
        obtain ⟨σ20, gσ20, iσ20, hT⟩ := tx_wr_some hT
        refine gx_iast (pc := 93) d_Mo_addMethod_93 (rfl) iσ20 ?_
        rw [gσ20]
        refine gx_aload_n (pc := 94) 0 d_Mo_addMethod_94 rfl rfl ?_
        refine gx_getR (pc := 95) 52 fl_Mo_28 d_Mo_addMethod_95 (rfl) (by decide) rfl ?_
        refine gx_aload_n (pc := 98) 0 d_Mo_addMethod_98 rfl rfl ?_
        refine gx_getI (pc := 99) (σ20 45 7) fl_Mo_91 d_Mo_addMethod_99 (rfl) (by decide) rfl rfl ?_
        refine gx_iload_n (pc := 102) 2 d_Mo_addMethod_102 rfl rfl ?_
        obtain ⟨σ21, gσ21, iσ21, hT⟩ := tx_wr_some hT
        refine gx_iast (pc := 103) d_Mo_addMethod_103 (rfl) iσ21 ?_
        rw [gσ21]
        refine gx_aload_n (pc := 104) 0 d_Mo_addMethod_104 rfl rfl ?_
        refine gx_getR (pc := 105) 53 fl_Mo_31 d_Mo_addMethod_105 (rfl) (by decide) rfl ?_
        refine gx_aload_n (pc := 108) 0 d_Mo_addMethod_108 rfl rfl ?_
        refine gx_getI (pc := 109) (σ21 45 7) fl_Mo_91 d_Mo_addMethod_109 (rfl) (by decide) rfl rfl ?_
        refine gx_iload_n (pc := 112) 3 d_Mo_addMethod_112 rfl rfl ?_
        obtain ⟨σ22, gσ22, iσ22, hT⟩ := tx_wr_some hT
        refine gx_iast (pc := 113) d_Mo_addMethod_113 (rfl) iσ22 ?_
        rw [gσ22]
        refine gx_aload_n (pc := 114) 0 d_Mo_addMethod_114 rfl rfl ?_
        refine gx_getR (pc := 115) 54 fl_Mo_34 d_Mo_addMethod_115 (rfl) (by decide) rfl ?_
        refine gx_aload_n (pc := 118) 0 d_Mo_addMethod_118 rfl rfl ?_
        refine gx_getI (pc := 119) (σ22 45 7) fl_Mo_91 d_Mo_addMethod_119 (rfl) (by decide) rfl rfl ?_
        refine gx_iload (pc := 122) 4 d_Mo_addMethod_122 rfl ?_
        obtain ⟨σ23, gσ23, iσ23, hT⟩ := tx_wr_some hT
        refine gx_iast (pc := 124) d_Mo_addMethod_124 (rfl) iσ23 ?_
        rw [gσ23]
        refine gx_aload_n (pc := 125) 0 d_Mo_addMethod_125 rfl rfl ?_
        refine gx_getR (pc := 126) 55 fl_Mo_37 d_Mo_addMethod_126 (rfl) (by decide) rfl ?_
        refine gx_aload_n (pc := 129) 0 d_Mo_addMethod_129 rfl rfl ?_
        refine gx_getI (pc := 130) (σ23 45 7) fl_Mo_91 d_Mo_addMethod_130 (rfl) (by decide) rfl rfl ?_
        refine gx_iload (pc := 133) 5 d_Mo_addMethod_133 rfl ?_
        obtain ⟨σ24, gσ24, iσ24, hT⟩ := tx_wr_some hT
        refine gx_iast (pc := 135) d_Mo_addMethod_135 (rfl) iσ24 ?_
        rw [gσ24]
        refine gx_aload_n (pc := 136) 0 d_Mo_addMethod_136 rfl rfl ?_
        refine gx_getR (pc := 137) 56 fl_Mo_40 d_Mo_addMethod_137 (rfl) (by decide) rfl ?_
        refine gx_aload_n (pc := 140) 0 d_Mo_addMethod_140 rfl rfl ?_
        refine gx_getI (pc := 141) (σ24 45 7) fl_Mo_91 d_Mo_addMethod_141 (rfl) (by decide) rfl rfl ?_
        refine gx_iconst (pc := 144) (0 : Int32) d_Mo_addMethod_144 (by decide) ?_
        obtain ⟨σ25, gσ25, iσ25, hT⟩ := tx_wr_some hT
        refine gx_iast (pc := 145) d_Mo_addMethod_145 (rfl) iσ25 ?_
        rw [gσ25]
        refine gx_aload_n (pc := 146) 0 d_Mo_addMethod_146 rfl rfl ?_
        refine gx_dup (pc := 147) d_Mo_addMethod_147 rfl ?_
        refine gx_getI (pc := 148) (σ25 45 7) fl_Mo_91 d_Mo_addMethod_148 (rfl) (by decide) rfl rfl ?_
        refine gx_iconst (pc := 151) (1 : Int32) d_Mo_addMethod_151 (by decide) ?_
        refine gx_iadd (pc := 152) d_Mo_addMethod_152 ?_
        obtain ⟨σ26, gσ26, hT⟩ := tx_pt_some hT
        refine gx_putI (pc := 153) fp_Mo_91 d_Mo_addMethod_153 (rfl) (by decide) rfl ?_
        rw [gσ26]
        refine gx_aload_n (pc := 156) 0 d_Mo_addMethod_156 rfl rfl ?_
        refine gx_getI (pc := 157) (σ26 45 7) fl_Mo_91 d_Mo_addMethod_157 (rfl) (by decide) rfl rfl ?_
        refine gx_iconst (pc := 160) (1 : Int32) d_Mo_addMethod_160 (by decide) ?_
        refine gx_isub (pc := 161) d_Mo_addMethod_161 ?_
        cases hT
        exact gx_iret (pc := 162) d_Mo_addMethod_162 rfl rfl
      · have hT := tx_ifp h19 hT
        refine gx_bipush (pc := 81) (-2 : Int32) d_Mo_addMethod_81 (by decide) ?_
        cases hT
        exact gx_iret (pc := 83) d_Mo_addMethod_83 rfl rfl
    · have hT := tx_ifn h18 hT
      refine gx_sub [] rfl ?_
      exact fx_Mo_addMethod_b70_w  σ16 _ hT
set_option maxRecDepth 100000 in
set_option maxHeartbeats 4000000 in
theorem fx_Mo_addMethod_c (l : Launch) (E : tx_E) (σ : tx_St) (x1 : Int32) (x2 : Int32) (x3 : Int32) (x4 : Int32) (x5 : Int32) (t : Int32 × tx_St) (hT : fx_Mo_addMethod σ x1 x2 x3 x4 x5 = some t) : tx_MX l E y_Mo_addMethod mi_Mo_addMethod (some (.int t.1), t.2) [.ref (E.1 45), .int x1, .int x2, .int x3, .int x4, .int x5] σ := by
  refine tx_MX_of (by decide) rfl (Nat.le_of_ble_eq_true rfl) ?_
  show gx l E mi_Mo_addMethod (some (.int t.1), t.2) σ [(0, .ref (E.1 45)), (1, .int x1), (2, .int x2), (3, .int x3), (4, .int x4), (5, .int x5)] 0 []
  unfold fx_Mo_addMethod at hT
  refine gx_aload_n (pc := 0) 0 d_Mo_addMethod_0 rfl rfl ?_
  refine gx_getI (pc := 1) (σ 45 16) fl_Mo_94 d_Mo_addMethod_1 (rfl) (by decide) rfl rfl ?_
  refine gx_if_eq (pc := 4) 10 d_Mo_addMethod_4 rfl (fun h1 => ?_) (fun h1 => ?_)
  · have hT := tx_ifp h1 hT
    refine gx_aload_n (pc := 10) 0 d_Mo_addMethod_10 rfl rfl ?_
    refine gx_iload_n (pc := 11) 1 d_Mo_addMethod_11 rfl rfl ?_
    obtain ⟨r3, σ2, cσ2, hT⟩ := tx_ci_some hT
    refine gx_callV (pc := 12) (As := [.int x1]) (rest := []) cm_Mo_isClass lk_Mo_87 (fx_Mo_isClass_c l E σ x1 _ cσ2) (rfl) (by decide) rfl rfl tx_fi_Mo_addMethod_Mo_isClass (Nat.le_of_ble_eq_true rfl) d_Mo_addMethod_12 ?_
    change gx l E mi_Mo_addMethod _ σ2 [(0, .ref (E.1 45)), (1, .int x1), (2, .int x2), (3, .int x3), (4, .int x4), (5, .int x5)] 15 [.int r3]
    refine gx_if_eq (pc := 15) 70 d_Mo_addMethod_15 rfl (fun h4 => ?_) (fun h4 => ?_)
    · have hT := tx_ifp h4 hT
      refine gx_sub [] rfl ?_
      exact fx_Mo_addMethod_b70_w  σ2 _ hT
    · have hT := tx_ifn h4 hT
      refine gx_iload_n (pc := 18) 2 d_Mo_addMethod_18 rfl rfl ?_
      refine gx_if_lt (pc := 19) 70 d_Mo_addMethod_19 rfl (fun h5 => ?_) (fun h5 => ?_)
      · have hT := tx_ifp h5 hT
        refine gx_sub [] rfl ?_
        exact fx_Mo_addMethod_b70_w  σ2 _ hT
      · have hT := tx_ifn h5 hT
        refine gx_iload_n (pc := 22) 2 d_Mo_addMethod_22 rfl rfl ?_
        refine gx_iconst (pc := 23) (1 : Int32) d_Mo_addMethod_23 (by decide) ?_
        refine gx_icmp_gt (pc := 24) 70 d_Mo_addMethod_24 rfl (fun h6 => ?_) (fun h6 => ?_)
        · have hT := tx_ifp h6 hT
          refine gx_sub [] rfl ?_
          exact fx_Mo_addMethod_b70_w  σ2 _ hT
        · have hT := tx_ifn h6 hT
          refine gx_iload_n (pc := 27) 3 d_Mo_addMethod_27 rfl rfl ?_
          refine gx_if_lt (pc := 28) 70 d_Mo_addMethod_28 rfl (fun h7 => ?_) (fun h7 => ?_)
          · have hT := tx_ifp h7 hT
            refine gx_sub [] rfl ?_
            exact fx_Mo_addMethod_b70_w  σ2 _ hT
          · have hT := tx_ifn h7 hT
            refine gx_iload_n (pc := 31) 3 d_Mo_addMethod_31 rfl rfl ?_
            refine gx_bipush (pc := 32) (7 : Int32) d_Mo_addMethod_32 (by decide) ?_
            refine gx_icmp_gt (pc := 34) 70 d_Mo_addMethod_34 rfl (fun h8 => ?_) (fun h8 => ?_)
            · have hT := tx_ifp h8 hT
              refine gx_sub [] rfl ?_
              exact fx_Mo_addMethod_b70_w  σ2 _ hT
            · have hT := tx_ifn h8 hT
              refine gx_iload (pc := 37) 4 d_Mo_addMethod_37 rfl ?_
              refine gx_iconst (pc := 39) (-1 : Int32) d_Mo_addMethod_39 (by decide) ?_
              refine gx_icmp_eq (pc := 40) 52 d_Mo_addMethod_40 rfl (fun h9 => ?_) (fun h9 => ?_)
              · have hT := tx_ifp h9 hT
                exact fx_Mo_addMethod_b52_w  σ2 x1 x2 x3 x4 x5 _ hT
              · have hT := tx_ifn h9 hT
                refine gx_aload_n (pc := 43) 0 d_Mo_addMethod_43 rfl rfl ?_
                refine gx_iload (pc := 44) 4 d_Mo_addMethod_44 rfl ?_
                obtain ⟨r11, σ10, cσ10, hT⟩ := tx_ci_some hT
                refine gx_callV (pc := 46) (As := [.int x4]) (rest := []) cm_Mo_isType lk_Mo_98 (fx_Mo_isType_c l E σ2 x4 _ cσ10) (rfl) (by decide) rfl rfl tx_fi_Mo_addMethod_Mo_isType (Nat.le_of_ble_eq_true rfl) d_Mo_addMethod_46 ?_
                change gx l E mi_Mo_addMethod _ σ10 [(0, .ref (E.1 45)), (1, .int x1), (2, .int x2), (3, .int x3), (4, .int x4), (5, .int x5)] 49 [.int r11]
                refine gx_if_eq (pc := 49) 70 d_Mo_addMethod_49 rfl (fun h12 => ?_) (fun h12 => ?_)
                · have hT := tx_ifp h12 hT
                  refine gx_sub [] rfl ?_
                  exact fx_Mo_addMethod_b70_w  σ10 _ hT
                · have hT := tx_ifn h12 hT
                  exact fx_Mo_addMethod_b52_w  σ10 x1 x2 x3 x4 x5 _ hT
  · have hT := tx_ifn h1 hT
    refine gx_bipush (pc := 7) (-3 : Int32) d_Mo_addMethod_7 (by decide) ?_
    cases hT
    exact gx_iret (pc := 9) d_Mo_addMethod_9 rfl rfl
theorem d_Mo_isMethod_0 : decode c_Mo_isMethod 0 = .ok (.iload_n 1, 1) := by decide +kernel
theorem d_Mo_isMethod_1 : decode c_Mo_isMethod 1 = .ok (.ifCond .lt (15), 3) := by decide +kernel
theorem d_Mo_isMethod_4 : decode c_Mo_isMethod 4 = .ok (.iload_n 1, 1) := by decide +kernel
theorem d_Mo_isMethod_5 : decode c_Mo_isMethod 5 = .ok (.aload_n 0, 1) := by decide +kernel
theorem d_Mo_isMethod_6 : decode c_Mo_isMethod 6 = .ok (.getfield 91, 3) := by decide +kernel
theorem d_Mo_isMethod_9 : decode c_Mo_isMethod 9 = .ok (.if_icmp .ge (7), 3) := by decide +kernel
theorem d_Mo_isMethod_12 : decode c_Mo_isMethod 12 = .ok (.iconst (1), 1) := by decide +kernel
theorem d_Mo_isMethod_13 : decode c_Mo_isMethod 13 = .ok (.goto (4), 3) := by decide +kernel
theorem d_Mo_isMethod_16 : decode c_Mo_isMethod 16 = .ok (.iconst (0), 1) := by decide +kernel
theorem d_Mo_isMethod_17 : decode c_Mo_isMethod 17 = .ok (.ireturn, 1) := by decide +kernel
def fx_Mo_isMethod_b17 (σ : tx_St) (s0 : Int32) : Option (Int32 × tx_St) := tx_rz s0 σ
def fx_Mo_isMethod_b16 (σ : tx_St) : Option (Int32 × tx_St) := fx_Mo_isMethod_b17  σ (0 : Int32)
def fx_Mo_isMethod (σ : tx_St) (x1 : Int32) : Option (Int32 × tx_St) := (if x1 < 0 then fx_Mo_isMethod_b16  σ else (if (σ 45 7) ≤ x1 then fx_Mo_isMethod_b16  σ else fx_Mo_isMethod_b17  σ (1 : Int32)))
set_option maxRecDepth 100000 in
set_option maxHeartbeats 4000000 in
theorem fx_Mo_isMethod_b17_w {l : Launch} {E : tx_E} (σ : tx_St) (s0 : Int32) (t : Int32 × tx_St) (hT : fx_Mo_isMethod_b17 σ s0 = some t) : gx l E mi_Mo_isMethod (some (.int t.1), t.2) σ [] 17 [.int s0] := by
  unfold fx_Mo_isMethod_b17 at hT
  obtain ⟨hz, hT⟩ := tx_rz_some hT
  cases hT
  exact gx_zret (pc := 17) d_Mo_isMethod_17 rfl hz rfl
set_option maxRecDepth 100000 in
set_option maxHeartbeats 4000000 in
theorem fx_Mo_isMethod_b16_w {l : Launch} {E : tx_E} (σ : tx_St) (t : Int32 × tx_St) (hT : fx_Mo_isMethod_b16 σ  = some t) : gx l E mi_Mo_isMethod (some (.int t.1), t.2) σ [] 16 [] := by
  unfold fx_Mo_isMethod_b16 at hT
  refine gx_iconst (pc := 16) (0 : Int32) d_Mo_isMethod_16 (by decide) ?_
  exact fx_Mo_isMethod_b17_w  σ (0 : Int32) _ hT
set_option maxRecDepth 100000 in
set_option maxHeartbeats 4000000 in
theorem fx_Mo_isMethod_c (l : Launch) (E : tx_E) (σ : tx_St) (x1 : Int32) (t : Int32 × tx_St) (hT : fx_Mo_isMethod σ x1 = some t) : tx_MX l E y_Mo_isMethod mi_Mo_isMethod (some (.int t.1), t.2) [.ref (E.1 45), .int x1] σ := by
  refine tx_MX_of (by decide) rfl (Nat.le_of_ble_eq_true rfl) ?_
  show gx l E mi_Mo_isMethod (some (.int t.1), t.2) σ [(0, .ref (E.1 45)), (1, .int x1)] 0 []
  unfold fx_Mo_isMethod at hT
  refine gx_iload_n (pc := 0) 1 d_Mo_isMethod_0 rfl rfl ?_
  refine gx_if_lt (pc := 1) 16 d_Mo_isMethod_1 rfl (fun h1 => ?_) (fun h1 => ?_)
  · have hT := tx_ifp h1 hT
    refine gx_sub [] rfl ?_
    exact fx_Mo_isMethod_b16_w  σ _ hT
  · have hT := tx_ifn h1 hT
    refine gx_iload_n (pc := 4) 1 d_Mo_isMethod_4 rfl rfl ?_
    refine gx_aload_n (pc := 5) 0 d_Mo_isMethod_5 rfl rfl ?_
    refine gx_getI (pc := 6) (σ 45 7) fl_Mo_91 d_Mo_isMethod_6 (rfl) (by decide) rfl rfl ?_
    refine gx_icmp_ge (pc := 9) 16 d_Mo_isMethod_9 rfl (fun h2 => ?_) (fun h2 => ?_)
    · have hT := tx_ifp h2 hT
      refine gx_sub [] rfl ?_
      exact fx_Mo_isMethod_b16_w  σ _ hT
    · have hT := tx_ifn h2 hT
      refine gx_iconst (pc := 12) (1 : Int32) d_Mo_isMethod_12 (by decide) ?_
      refine gx_goto (pc := 13) 17 d_Mo_isMethod_13 rfl ?_
      refine gx_sub [] rfl ?_
      exact fx_Mo_isMethod_b17_w  σ (1 : Int32) _ hT
theorem d_Mo_emit_0 : decode c_Mo_emit 0 = .ok (.aload_n 0, 1) := by decide +kernel
theorem d_Mo_emit_1 : decode c_Mo_emit 1 = .ok (.getfield 94, 3) := by decide +kernel
theorem d_Mo_emit_4 : decode c_Mo_emit 4 = .ok (.ifCond .eq (6), 3) := by decide +kernel
theorem d_Mo_emit_7 : decode c_Mo_emit 7 = .ok (.bipush (-3), 2) := by decide +kernel
theorem d_Mo_emit_9 : decode c_Mo_emit 9 = .ok (.ireturn, 1) := by decide +kernel
theorem d_Mo_emit_10 : decode c_Mo_emit 10 = .ok (.aload_n 0, 1) := by decide +kernel
theorem d_Mo_emit_11 : decode c_Mo_emit 11 = .ok (.iload_n 1, 1) := by decide +kernel
theorem d_Mo_emit_12 : decode c_Mo_emit 12 = .ok (.invokevirtual 108, 3) := by decide +kernel
theorem d_Mo_emit_15 : decode c_Mo_emit 15 = .ok (.ifCond .eq (13), 3) := by decide +kernel
theorem d_Mo_emit_18 : decode c_Mo_emit 18 = .ok (.iload_n 2, 1) := by decide +kernel
theorem d_Mo_emit_19 : decode c_Mo_emit 19 = .ok (.ifCond .lt (9), 3) := by decide +kernel
theorem d_Mo_emit_22 : decode c_Mo_emit 22 = .ok (.iload_n 2, 1) := by decide +kernel
theorem d_Mo_emit_23 : decode c_Mo_emit 23 = .ok (.bipush (19), 2) := by decide +kernel
theorem d_Mo_emit_25 : decode c_Mo_emit 25 = .ok (.if_icmp .le (5), 3) := by decide +kernel
theorem d_Mo_emit_28 : decode c_Mo_emit 28 = .ok (.iconst (-1), 1) := by decide +kernel
theorem d_Mo_emit_29 : decode c_Mo_emit 29 = .ok (.ireturn, 1) := by decide +kernel
theorem d_Mo_emit_30 : decode c_Mo_emit 30 = .ok (.aload_n 0, 1) := by decide +kernel
theorem d_Mo_emit_31 : decode c_Mo_emit 31 = .ok (.getfield 40, 3) := by decide +kernel
theorem d_Mo_emit_34 : decode c_Mo_emit 34 = .ok (.iload_n 1, 1) := by decide +kernel
theorem d_Mo_emit_35 : decode c_Mo_emit 35 = .ok (.iaload, 1) := by decide +kernel
theorem d_Mo_emit_36 : decode c_Mo_emit 36 = .ok (.bipush (12), 2) := by decide +kernel
theorem d_Mo_emit_38 : decode c_Mo_emit 38 = .ok (.if_icmp .ne (6), 3) := by decide +kernel
theorem d_Mo_emit_41 : decode c_Mo_emit 41 = .ok (.bipush (-2), 2) := by decide +kernel
theorem d_Mo_emit_43 : decode c_Mo_emit 43 = .ok (.ireturn, 1) := by decide +kernel
theorem d_Mo_emit_44 : decode c_Mo_emit 44 = .ok (.aload_n 0, 1) := by decide +kernel
theorem d_Mo_emit_45 : decode c_Mo_emit 45 = .ok (.getfield 40, 3) := by decide +kernel
theorem d_Mo_emit_48 : decode c_Mo_emit 48 = .ok (.iload_n 1, 1) := by decide +kernel
theorem d_Mo_emit_49 : decode c_Mo_emit 49 = .ok (.iaload, 1) := by decide +kernel
theorem d_Mo_emit_50 : decode c_Mo_emit 50 = .ok (.istore 4, 2) := by decide +kernel
theorem d_Mo_emit_52 : decode c_Mo_emit 52 = .ok (.aload_n 0, 1) := by decide +kernel
theorem d_Mo_emit_53 : decode c_Mo_emit 53 = .ok (.getfield 43, 3) := by decide +kernel
theorem d_Mo_emit_56 : decode c_Mo_emit 56 = .ok (.bipush (12), 2) := by decide +kernel
theorem d_Mo_emit_58 : decode c_Mo_emit 58 = .ok (.iload_n 1, 1) := by decide +kernel
theorem d_Mo_emit_59 : decode c_Mo_emit 59 = .ok (.imul, 1) := by decide +kernel
theorem d_Mo_emit_60 : decode c_Mo_emit 60 = .ok (.iload 4, 2) := by decide +kernel
theorem d_Mo_emit_62 : decode c_Mo_emit 62 = .ok (.iadd, 1) := by decide +kernel
theorem d_Mo_emit_63 : decode c_Mo_emit 63 = .ok (.iload_n 2, 1) := by decide +kernel
theorem d_Mo_emit_64 : decode c_Mo_emit 64 = .ok (.iastore, 1) := by decide +kernel
theorem d_Mo_emit_65 : decode c_Mo_emit 65 = .ok (.aload_n 0, 1) := by decide +kernel
theorem d_Mo_emit_66 : decode c_Mo_emit 66 = .ok (.getfield 46, 3) := by decide +kernel
theorem d_Mo_emit_69 : decode c_Mo_emit 69 = .ok (.bipush (12), 2) := by decide +kernel
theorem d_Mo_emit_71 : decode c_Mo_emit 71 = .ok (.iload_n 1, 1) := by decide +kernel
theorem d_Mo_emit_72 : decode c_Mo_emit 72 = .ok (.imul, 1) := by decide +kernel
theorem d_Mo_emit_73 : decode c_Mo_emit 73 = .ok (.iload 4, 2) := by decide +kernel
theorem d_Mo_emit_75 : decode c_Mo_emit 75 = .ok (.iadd, 1) := by decide +kernel
theorem d_Mo_emit_76 : decode c_Mo_emit 76 = .ok (.iload_n 3, 1) := by decide +kernel
theorem d_Mo_emit_77 : decode c_Mo_emit 77 = .ok (.iastore, 1) := by decide +kernel
theorem d_Mo_emit_78 : decode c_Mo_emit 78 = .ok (.aload_n 0, 1) := by decide +kernel
theorem d_Mo_emit_79 : decode c_Mo_emit 79 = .ok (.getfield 40, 3) := by decide +kernel
theorem d_Mo_emit_82 : decode c_Mo_emit 82 = .ok (.iload_n 1, 1) := by decide +kernel
theorem d_Mo_emit_83 : decode c_Mo_emit 83 = .ok (.iload 4, 2) := by decide +kernel
theorem d_Mo_emit_85 : decode c_Mo_emit 85 = .ok (.iconst (1), 1) := by decide +kernel
theorem d_Mo_emit_86 : decode c_Mo_emit 86 = .ok (.iadd, 1) := by decide +kernel
theorem d_Mo_emit_87 : decode c_Mo_emit 87 = .ok (.iastore, 1) := by decide +kernel
theorem d_Mo_emit_88 : decode c_Mo_emit 88 = .ok (.iload 4, 2) := by decide +kernel
theorem d_Mo_emit_90 : decode c_Mo_emit 90 = .ok (.ireturn, 1) := by decide +kernel
def fx_Mo_emit_b28 (σ : tx_St) : Option (Int32 × tx_St) := some ((-1 : Int32), σ)
def fx_Mo_emit (σ : tx_St) (x1 : Int32) (x2 : Int32) (x3 : Int32) : Option (Int32 × tx_St) := (if (σ 45 16) = 0 then tx_ci (fx_Mo_isMethod σ x1) fun r3 σ2 => (if r3 = 0 then fx_Mo_emit_b28  σ2 else (if x2 < 0 then fx_Mo_emit_b28  σ2 else (if x2 ≤ (19 : Int32) then tx_rd σ2 56 8 x1 fun v7 => (if v7 = (12 : Int32) then some ((-2 : Int32), σ2) else tx_rd σ2 56 8 x1 fun v9 => tx_wr σ2 57 96 (((12 : Int32) * x1) + v9) x2 fun σ10 => tx_wr σ10 58 96 (((12 : Int32) * x1) + v9) x3 fun σ11 => tx_wr σ11 56 8 x1 (v9 + (1 : Int32)) fun σ12 => some (v9, σ12)) else fx_Mo_emit_b28  σ2))) else some ((-3 : Int32), σ))
set_option maxRecDepth 100000 in
set_option maxHeartbeats 4000000 in
theorem fx_Mo_emit_b28_w {l : Launch} {E : tx_E} (σ : tx_St) (t : Int32 × tx_St) (hT : fx_Mo_emit_b28 σ  = some t) : gx l E mi_Mo_emit (some (.int t.1), t.2) σ [] 28 [] := by
  unfold fx_Mo_emit_b28 at hT
  refine gx_iconst (pc := 28) (-1 : Int32) d_Mo_emit_28 (by decide) ?_
  cases hT
  exact gx_iret (pc := 29) d_Mo_emit_29 rfl rfl
set_option maxRecDepth 100000 in
set_option maxHeartbeats 4000000 in
theorem fx_Mo_emit_c (l : Launch) (E : tx_E) (σ : tx_St) (x1 : Int32) (x2 : Int32) (x3 : Int32) (t : Int32 × tx_St) (hT : fx_Mo_emit σ x1 x2 x3 = some t) : tx_MX l E y_Mo_emit mi_Mo_emit (some (.int t.1), t.2) [.ref (E.1 45), .int x1, .int x2, .int x3] σ := by
  refine tx_MX_of (by decide) rfl (Nat.le_of_ble_eq_true rfl) ?_
  show gx l E mi_Mo_emit (some (.int t.1), t.2) σ [(0, .ref (E.1 45)), (1, .int x1), (2, .int x2), (3, .int x3)] 0 []
  unfold fx_Mo_emit at hT
  refine gx_aload_n (pc := 0) 0 d_Mo_emit_0 rfl rfl ?_
  refine gx_getI (pc := 1) (σ 45 16) fl_Mo_94 d_Mo_emit_1 (rfl) (by decide) rfl rfl ?_
  refine gx_if_eq (pc := 4) 10 d_Mo_emit_4 rfl (fun h1 => ?_) (fun h1 => ?_)
  · have hT := tx_ifp h1 hT
    refine gx_aload_n (pc := 10) 0 d_Mo_emit_10 rfl rfl ?_
    refine gx_iload_n (pc := 11) 1 d_Mo_emit_11 rfl rfl ?_
    obtain ⟨r3, σ2, cσ2, hT⟩ := tx_ci_some hT
    refine gx_callV (pc := 12) (As := [.int x1]) (rest := []) cm_Mo_isMethod lk_Mo_108 (fx_Mo_isMethod_c l E σ x1 _ cσ2) (rfl) (by decide) rfl rfl tx_fi_Mo_emit_Mo_isMethod (Nat.le_of_ble_eq_true rfl) d_Mo_emit_12 ?_
    change gx l E mi_Mo_emit _ σ2 [(0, .ref (E.1 45)), (1, .int x1), (2, .int x2), (3, .int x3)] 15 [.int r3]
    refine gx_if_eq (pc := 15) 28 d_Mo_emit_15 rfl (fun h4 => ?_) (fun h4 => ?_)
    · have hT := tx_ifp h4 hT
      refine gx_sub [] rfl ?_
      exact fx_Mo_emit_b28_w  σ2 _ hT
    · have hT := tx_ifn h4 hT
      refine gx_iload_n (pc := 18) 2 d_Mo_emit_18 rfl rfl ?_
      refine gx_if_lt (pc := 19) 28 d_Mo_emit_19 rfl (fun h5 => ?_) (fun h5 => ?_)
      · have hT := tx_ifp h5 hT
        refine gx_sub [] rfl ?_
        exact fx_Mo_emit_b28_w  σ2 _ hT
      · have hT := tx_ifn h5 hT
        refine gx_iload_n (pc := 22) 2 d_Mo_emit_22 rfl rfl ?_
        refine gx_bipush (pc := 23) (19 : Int32) d_Mo_emit_23 (by decide) ?_
        refine gx_icmp_le (pc := 25) 30 d_Mo_emit_25 rfl (fun h6 => ?_) (fun h6 => ?_)
        · have hT := tx_ifp h6 hT
          refine gx_aload_n (pc := 30) 0 d_Mo_emit_30 rfl rfl ?_
          refine gx_getR (pc := 31) 56 fl_Mo_40 d_Mo_emit_31 (rfl) (by decide) rfl ?_
          refine gx_iload_n (pc := 34) 1 d_Mo_emit_34 rfl rfl ?_
          obtain ⟨v7, gv7, iv7, hT⟩ := tx_rd_some hT
          refine gx_iald (pc := 35) v7 d_Mo_emit_35 (rfl) iv7 gv7 ?_
          refine gx_bipush (pc := 36) (12 : Int32) d_Mo_emit_36 (by decide) ?_
          refine gx_icmp_ne (pc := 38) 44 d_Mo_emit_38 rfl (fun h8 => ?_) (fun h8 => ?_)
          · have hT := tx_ifn h8 hT
            refine gx_aload_n (pc := 44) 0 d_Mo_emit_44 rfl rfl ?_
            refine gx_getR (pc := 45) 56 fl_Mo_40 d_Mo_emit_45 (rfl) (by decide) rfl ?_
            refine gx_iload_n (pc := 48) 1 d_Mo_emit_48 rfl rfl ?_
            obtain ⟨v9, gv9, iv9, hT⟩ := tx_rd_some hT
            refine gx_iald (pc := 49) v9 d_Mo_emit_49 (rfl) iv9 gv9 ?_
            refine gx_istore (pc := 50) [(4, .int v9), (0, .ref (E.1 45)), (1, .int x1), (2, .int x2), (3, .int x3)] d_Mo_emit_50 (Nat.le_of_ble_eq_true rfl) rfl ?_
            refine gx_aload_n (pc := 52) 1 d_Mo_emit_52 rfl rfl ?_
            refine gx_getR (pc := 53) 57 fl_Mo_43 d_Mo_emit_53 (rfl) (by decide) rfl ?_
            refine gx_bipush (pc := 56) (12 : Int32) d_Mo_emit_56 (by decide) ?_
            refine gx_iload_n (pc := 58) 2 d_Mo_emit_58 rfl rfl ?_
            refine gx_imul (pc := 59) d_Mo_emit_59 ?_
            refine gx_iload (pc := 60) 0 d_Mo_emit_60 rfl ?_
            refine gx_iadd (pc := 62) d_Mo_emit_62 ?_
            refine gx_iload_n (pc := 63) 3 d_Mo_emit_63 rfl rfl ?_
            obtain ⟨σ10, gσ10, iσ10, hT⟩ := tx_wr_some hT
            refine gx_iast (pc := 64) d_Mo_emit_64 (rfl) iσ10 ?_
            rw [gσ10]
            refine gx_aload_n (pc := 65) 1 d_Mo_emit_65 rfl rfl ?_
            refine gx_getR (pc := 66) 58 fl_Mo_46 d_Mo_emit_66 (rfl) (by decide) rfl ?_
            refine gx_bipush (pc := 69) (12 : Int32) d_Mo_emit_69 (by decide) ?_
            refine gx_iload_n (pc := 71) 2 d_Mo_emit_71 rfl rfl ?_
            refine gx_imul (pc := 72) d_Mo_emit_72 ?_
            refine gx_iload (pc := 73) 0 d_Mo_emit_73 rfl ?_
            refine gx_iadd (pc := 75) d_Mo_emit_75 ?_
            refine gx_iload_n (pc := 76) 4 d_Mo_emit_76 rfl rfl ?_
            obtain ⟨σ11, gσ11, iσ11, hT⟩ := tx_wr_some hT
            refine gx_iast (pc := 77) d_Mo_emit_77 (rfl) iσ11 ?_
            rw [gσ11]
            refine gx_aload_n (pc := 78) 1 d_Mo_emit_78 rfl rfl ?_
            refine gx_getR (pc := 79) 56 fl_Mo_40 d_Mo_emit_79 (rfl) (by decide) rfl ?_
            refine gx_iload_n (pc := 82) 2 d_Mo_emit_82 rfl rfl ?_
            refine gx_iload (pc := 83) 0 d_Mo_emit_83 rfl ?_
            refine gx_iconst (pc := 85) (1 : Int32) d_Mo_emit_85 (by decide) ?_
            refine gx_iadd (pc := 86) d_Mo_emit_86 ?_
            obtain ⟨σ12, gσ12, iσ12, hT⟩ := tx_wr_some hT
            refine gx_iast (pc := 87) d_Mo_emit_87 (rfl) iσ12 ?_
            rw [gσ12]
            refine gx_iload (pc := 88) 0 d_Mo_emit_88 rfl ?_
            cases hT
            exact gx_iret (pc := 90) d_Mo_emit_90 rfl rfl
          · have hT := tx_ifp h8 hT
            refine gx_bipush (pc := 41) (-2 : Int32) d_Mo_emit_41 (by decide) ?_
            cases hT
            exact gx_iret (pc := 43) d_Mo_emit_43 rfl rfl
        · have hT := tx_ifn h6 hT
          refine gx_sub [] rfl ?_
          exact fx_Mo_emit_b28_w  σ2 _ hT
  · have hT := tx_ifn h1 hT
    refine gx_bipush (pc := 7) (-3 : Int32) d_Mo_emit_7 (by decide) ?_
    cases hT
    exact gx_iret (pc := 9) d_Mo_emit_9 rfl rfl
theorem d_Mo_clear_0 : decode c_Mo_clear 0 = .ok (.aload_n 0, 1) := by decide +kernel
theorem d_Mo_clear_1 : decode c_Mo_clear 1 = .ok (.iconst (0), 1) := by decide +kernel
theorem d_Mo_clear_2 : decode c_Mo_clear 2 = .ok (.putfield 84, 3) := by decide +kernel
theorem d_Mo_clear_5 : decode c_Mo_clear 5 = .ok (.aload_n 0, 1) := by decide +kernel
theorem d_Mo_clear_6 : decode c_Mo_clear 6 = .ok (.iconst (0), 1) := by decide +kernel
theorem d_Mo_clear_7 : decode c_Mo_clear 7 = .ok (.putfield 101, 3) := by decide +kernel
theorem d_Mo_clear_10 : decode c_Mo_clear 10 = .ok (.aload_n 0, 1) := by decide +kernel
theorem d_Mo_clear_11 : decode c_Mo_clear 11 = .ok (.iconst (0), 1) := by decide +kernel
theorem d_Mo_clear_12 : decode c_Mo_clear 12 = .ok (.putfield 91, 3) := by decide +kernel
theorem d_Mo_clear_15 : decode c_Mo_clear 15 = .ok (.aload_n 0, 1) := by decide +kernel
theorem d_Mo_clear_16 : decode c_Mo_clear 16 = .ok (.iconst (0), 1) := by decide +kernel
theorem d_Mo_clear_17 : decode c_Mo_clear 17 = .ok (.putfield 111, 3) := by decide +kernel
theorem d_Mo_clear_20 : decode c_Mo_clear 20 = .ok (.aload_n 0, 1) := by decide +kernel
theorem d_Mo_clear_21 : decode c_Mo_clear 21 = .ok (.iconst (0), 1) := by decide +kernel
theorem d_Mo_clear_22 : decode c_Mo_clear 22 = .ok (.putfield 94, 3) := by decide +kernel
theorem d_Mo_clear_25 : decode c_Mo_clear 25 = .ok (.return_, 1) := by decide +kernel
def fx_Mo_clear (σ : tx_St) : Option tx_St := tx_pt σ 45 0 (0 : Int32) fun σ1 => tx_pt σ1 45 3 (0 : Int32) fun σ2 => tx_pt σ2 45 7 (0 : Int32) fun σ3 => tx_pt σ3 45 23 (0 : Int32) fun σ4 => tx_pz σ4 45 16 (0 : Int32) fun σ5 => some σ5
set_option maxRecDepth 100000 in
set_option maxHeartbeats 4000000 in
theorem fx_Mo_clear_c (l : Launch) (E : tx_E) (σ : tx_St) (t : tx_St) (hT : fx_Mo_clear σ  = some t) : tx_MX l E y_Mo_clear mi_Mo_clear (none, t) [.ref (E.1 45)] σ := by
  refine tx_MX_of (by decide) rfl (Nat.le_of_ble_eq_true rfl) ?_
  show gx l E mi_Mo_clear (none, t) σ [(0, .ref (E.1 45))] 0 []
  unfold fx_Mo_clear at hT
  refine gx_aload_n (pc := 0) 0 d_Mo_clear_0 rfl rfl ?_
  refine gx_iconst (pc := 1) (0 : Int32) d_Mo_clear_1 (by decide) ?_
  obtain ⟨σ1, gσ1, hT⟩ := tx_pt_some hT
  refine gx_putI (pc := 2) fp_Mo_84 d_Mo_clear_2 (rfl) (by decide) rfl ?_
  rw [gσ1]
  refine gx_aload_n (pc := 5) 0 d_Mo_clear_5 rfl rfl ?_
  refine gx_iconst (pc := 6) (0 : Int32) d_Mo_clear_6 (by decide) ?_
  obtain ⟨σ2, gσ2, hT⟩ := tx_pt_some hT
  refine gx_putI (pc := 7) fp_Mo_101 d_Mo_clear_7 (rfl) (by decide) rfl ?_
  rw [gσ2]
  refine gx_aload_n (pc := 10) 0 d_Mo_clear_10 rfl rfl ?_
  refine gx_iconst (pc := 11) (0 : Int32) d_Mo_clear_11 (by decide) ?_
  obtain ⟨σ3, gσ3, hT⟩ := tx_pt_some hT
  refine gx_putI (pc := 12) fp_Mo_91 d_Mo_clear_12 (rfl) (by decide) rfl ?_
  rw [gσ3]
  refine gx_aload_n (pc := 15) 0 d_Mo_clear_15 rfl rfl ?_
  refine gx_iconst (pc := 16) (0 : Int32) d_Mo_clear_16 (by decide) ?_
  obtain ⟨σ4, gσ4, hT⟩ := tx_pt_some hT
  refine gx_putI (pc := 17) fp_Mo_111 d_Mo_clear_17 (rfl) (by decide) rfl ?_
  rw [gσ4]
  refine gx_aload_n (pc := 20) 0 d_Mo_clear_20 rfl rfl ?_
  refine gx_iconst (pc := 21) (0 : Int32) d_Mo_clear_21 (by decide) ?_
  obtain ⟨σ5, gσ5, bσ5, hT⟩ := tx_pz_some hT
  refine gx_putZ (pc := 22) fp_Mo_94 d_Mo_clear_22 (rfl) (by decide) rfl bσ5 ?_
  rw [gσ5]
  cases hT
  exact gx_vret (pc := 25) d_Mo_clear_25 rfl rfl
theorem d_Mo_isStatic_0 : decode c_Mo_isStatic 0 = .ok (.aload_n 0, 1) := by decide +kernel
theorem d_Mo_isStatic_1 : decode c_Mo_isStatic 1 = .ok (.getfield 19, 3) := by decide +kernel
theorem d_Mo_isStatic_4 : decode c_Mo_isStatic 4 = .ok (.iload_n 1, 1) := by decide +kernel
theorem d_Mo_isStatic_5 : decode c_Mo_isStatic 5 = .ok (.iaload, 1) := by decide +kernel
theorem d_Mo_isStatic_6 : decode c_Mo_isStatic 6 = .ok (.iconst (1), 1) := by decide +kernel
theorem d_Mo_isStatic_7 : decode c_Mo_isStatic 7 = .ok (.iand, 1) := by decide +kernel
theorem d_Mo_isStatic_8 : decode c_Mo_isStatic 8 = .ok (.ifCond .eq (7), 3) := by decide +kernel
theorem d_Mo_isStatic_11 : decode c_Mo_isStatic 11 = .ok (.iconst (1), 1) := by decide +kernel
theorem d_Mo_isStatic_12 : decode c_Mo_isStatic 12 = .ok (.goto (4), 3) := by decide +kernel
theorem d_Mo_isStatic_15 : decode c_Mo_isStatic 15 = .ok (.iconst (0), 1) := by decide +kernel
theorem d_Mo_isStatic_16 : decode c_Mo_isStatic 16 = .ok (.ireturn, 1) := by decide +kernel
def fx_Mo_isStatic_b16 (σ : tx_St) (s0 : Int32) : Option (Int32 × tx_St) := tx_rz s0 σ
def fx_Mo_isStatic (σ : tx_St) (x1 : Int32) : Option (Int32 × tx_St) := tx_rd σ 49 12 x1 fun v1 => (if (v1 &&& (1 : Int32)) = 0 then fx_Mo_isStatic_b16  σ (0 : Int32) else fx_Mo_isStatic_b16  σ (1 : Int32))
set_option maxRecDepth 100000 in
set_option maxHeartbeats 4000000 in
theorem fx_Mo_isStatic_b16_w {l : Launch} {E : tx_E} (σ : tx_St) (s0 : Int32) (t : Int32 × tx_St) (hT : fx_Mo_isStatic_b16 σ s0 = some t) : gx l E mi_Mo_isStatic (some (.int t.1), t.2) σ [] 16 [.int s0] := by
  unfold fx_Mo_isStatic_b16 at hT
  obtain ⟨hz, hT⟩ := tx_rz_some hT
  cases hT
  exact gx_zret (pc := 16) d_Mo_isStatic_16 rfl hz rfl
set_option maxRecDepth 100000 in
set_option maxHeartbeats 4000000 in
theorem fx_Mo_isStatic_c (l : Launch) (E : tx_E) (σ : tx_St) (x1 : Int32) (t : Int32 × tx_St) (hT : fx_Mo_isStatic σ x1 = some t) : tx_MX l E y_Mo_isStatic mi_Mo_isStatic (some (.int t.1), t.2) [.ref (E.1 45), .int x1] σ := by
  refine tx_MX_of (by decide) rfl (Nat.le_of_ble_eq_true rfl) ?_
  show gx l E mi_Mo_isStatic (some (.int t.1), t.2) σ [(0, .ref (E.1 45)), (1, .int x1)] 0 []
  unfold fx_Mo_isStatic at hT
  refine gx_aload_n (pc := 0) 0 d_Mo_isStatic_0 rfl rfl ?_
  refine gx_getR (pc := 1) 49 fl_Mo_19 d_Mo_isStatic_1 (rfl) (by decide) rfl ?_
  refine gx_iload_n (pc := 4) 1 d_Mo_isStatic_4 rfl rfl ?_
  obtain ⟨v1, gv1, iv1, hT⟩ := tx_rd_some hT
  refine gx_iald (pc := 5) v1 d_Mo_isStatic_5 (rfl) iv1 gv1 ?_
  refine gx_iconst (pc := 6) (1 : Int32) d_Mo_isStatic_6 (by decide) ?_
  refine gx_iand (pc := 7) d_Mo_isStatic_7 ?_
  refine gx_if_eq (pc := 8) 15 d_Mo_isStatic_8 rfl (fun h2 => ?_) (fun h2 => ?_)
  · have hT := tx_ifp h2 hT
    refine gx_iconst (pc := 15) (0 : Int32) d_Mo_isStatic_15 (by decide) ?_
    refine gx_sub [] rfl ?_
    exact fx_Mo_isStatic_b16_w  σ (0 : Int32) _ hT
  · have hT := tx_ifn h2 hT
    refine gx_iconst (pc := 11) (1 : Int32) d_Mo_isStatic_11 (by decide) ?_
    refine gx_goto (pc := 12) 16 d_Mo_isStatic_12 rfl ?_
    refine gx_sub [] rfl ?_
    exact fx_Mo_isStatic_b16_w  σ (1 : Int32) _ hT
theorem d_Mo_isFinal_0 : decode c_Mo_isFinal 0 = .ok (.aload_n 0, 1) := by decide +kernel
theorem d_Mo_isFinal_1 : decode c_Mo_isFinal 1 = .ok (.getfield 19, 3) := by decide +kernel
theorem d_Mo_isFinal_4 : decode c_Mo_isFinal 4 = .ok (.iload_n 1, 1) := by decide +kernel
theorem d_Mo_isFinal_5 : decode c_Mo_isFinal 5 = .ok (.iaload, 1) := by decide +kernel
theorem d_Mo_isFinal_6 : decode c_Mo_isFinal 6 = .ok (.iconst (2), 1) := by decide +kernel
theorem d_Mo_isFinal_7 : decode c_Mo_isFinal 7 = .ok (.iand, 1) := by decide +kernel
theorem d_Mo_isFinal_8 : decode c_Mo_isFinal 8 = .ok (.ifCond .eq (7), 3) := by decide +kernel
theorem d_Mo_isFinal_11 : decode c_Mo_isFinal 11 = .ok (.iconst (1), 1) := by decide +kernel
theorem d_Mo_isFinal_12 : decode c_Mo_isFinal 12 = .ok (.goto (4), 3) := by decide +kernel
theorem d_Mo_isFinal_15 : decode c_Mo_isFinal 15 = .ok (.iconst (0), 1) := by decide +kernel
theorem d_Mo_isFinal_16 : decode c_Mo_isFinal 16 = .ok (.ireturn, 1) := by decide +kernel
def fx_Mo_isFinal_b16 (σ : tx_St) (s0 : Int32) : Option (Int32 × tx_St) := tx_rz s0 σ
def fx_Mo_isFinal (σ : tx_St) (x1 : Int32) : Option (Int32 × tx_St) := tx_rd σ 49 12 x1 fun v1 => (if (v1 &&& (2 : Int32)) = 0 then fx_Mo_isFinal_b16  σ (0 : Int32) else fx_Mo_isFinal_b16  σ (1 : Int32))
set_option maxRecDepth 100000 in
set_option maxHeartbeats 4000000 in
theorem fx_Mo_isFinal_b16_w {l : Launch} {E : tx_E} (σ : tx_St) (s0 : Int32) (t : Int32 × tx_St) (hT : fx_Mo_isFinal_b16 σ s0 = some t) : gx l E mi_Mo_isFinal (some (.int t.1), t.2) σ [] 16 [.int s0] := by
  unfold fx_Mo_isFinal_b16 at hT
  obtain ⟨hz, hT⟩ := tx_rz_some hT
  cases hT
  exact gx_zret (pc := 16) d_Mo_isFinal_16 rfl hz rfl
set_option maxRecDepth 100000 in
set_option maxHeartbeats 4000000 in
theorem fx_Mo_isFinal_c (l : Launch) (E : tx_E) (σ : tx_St) (x1 : Int32) (t : Int32 × tx_St) (hT : fx_Mo_isFinal σ x1 = some t) : tx_MX l E y_Mo_isFinal mi_Mo_isFinal (some (.int t.1), t.2) [.ref (E.1 45), .int x1] σ := by
  refine tx_MX_of (by decide) rfl (Nat.le_of_ble_eq_true rfl) ?_
  show gx l E mi_Mo_isFinal (some (.int t.1), t.2) σ [(0, .ref (E.1 45)), (1, .int x1)] 0 []
  unfold fx_Mo_isFinal at hT
  refine gx_aload_n (pc := 0) 0 d_Mo_isFinal_0 rfl rfl ?_
  refine gx_getR (pc := 1) 49 fl_Mo_19 d_Mo_isFinal_1 (rfl) (by decide) rfl ?_
  refine gx_iload_n (pc := 4) 1 d_Mo_isFinal_4 rfl rfl ?_
  obtain ⟨v1, gv1, iv1, hT⟩ := tx_rd_some hT
  refine gx_iald (pc := 5) v1 d_Mo_isFinal_5 (rfl) iv1 gv1 ?_
  refine gx_iconst (pc := 6) (2 : Int32) d_Mo_isFinal_6 (by decide) ?_
  refine gx_iand (pc := 7) d_Mo_isFinal_7 ?_
  refine gx_if_eq (pc := 8) 15 d_Mo_isFinal_8 rfl (fun h2 => ?_) (fun h2 => ?_)
  · have hT := tx_ifp h2 hT
    refine gx_iconst (pc := 15) (0 : Int32) d_Mo_isFinal_15 (by decide) ?_
    refine gx_sub [] rfl ?_
    exact fx_Mo_isFinal_b16_w  σ (0 : Int32) _ hT
  · have hT := tx_ifn h2 hT
    refine gx_iconst (pc := 11) (1 : Int32) d_Mo_isFinal_11 (by decide) ?_
    refine gx_goto (pc := 12) 16 d_Mo_isFinal_12 rfl ?_
    refine gx_sub [] rfl ?_
    exact fx_Mo_isFinal_b16_w  σ (1 : Int32) _ hT
theorem d_Mo_inLine_0 : decode c_Mo_inLine 0 = .ok (.iload_n 1, 1) := by decide +kernel
theorem d_Mo_inLine_1 : decode c_Mo_inLine 1 = .ok (.istore_n 3, 1) := by decide +kernel
theorem d_Mo_inLine_2 : decode c_Mo_inLine 2 = .ok (.iconst (0), 1) := by decide +kernel
theorem d_Mo_inLine_3 : decode c_Mo_inLine 3 = .ok (.istore 4, 2) := by decide +kernel
theorem d_Mo_inLine_5 : decode c_Mo_inLine 5 = .ok (.iload 4, 2) := by decide +kernel
theorem d_Mo_inLine_7 : decode c_Mo_inLine 7 = .ok (.bipush (8), 2) := by decide +kernel
theorem d_Mo_inLine_9 : decode c_Mo_inLine 9 = .ok (.if_icmp .ge (27), 3) := by decide +kernel
theorem d_Mo_inLine_12 : decode c_Mo_inLine 12 = .ok (.iload_n 3, 1) := by decide +kernel
theorem d_Mo_inLine_13 : decode c_Mo_inLine 13 = .ok (.ifCond .lt (23), 3) := by decide +kernel
theorem d_Mo_inLine_16 : decode c_Mo_inLine 16 = .ok (.iload_n 3, 1) := by decide +kernel
theorem d_Mo_inLine_17 : decode c_Mo_inLine 17 = .ok (.iload_n 2, 1) := by decide +kernel
theorem d_Mo_inLine_18 : decode c_Mo_inLine 18 = .ok (.if_icmp .ne (5), 3) := by decide +kernel
theorem d_Mo_inLine_21 : decode c_Mo_inLine 21 = .ok (.iconst (1), 1) := by decide +kernel
theorem d_Mo_inLine_22 : decode c_Mo_inLine 22 = .ok (.ireturn, 1) := by decide +kernel
theorem d_Mo_inLine_23 : decode c_Mo_inLine 23 = .ok (.aload_n 0, 1) := by decide +kernel
theorem d_Mo_inLine_24 : decode c_Mo_inLine 24 = .ok (.getfield 7, 3) := by decide +kernel
theorem d_Mo_inLine_27 : decode c_Mo_inLine 27 = .ok (.iload_n 3, 1) := by decide +kernel
theorem d_Mo_inLine_28 : decode c_Mo_inLine 28 = .ok (.iaload, 1) := by decide +kernel
theorem d_Mo_inLine_29 : decode c_Mo_inLine 29 = .ok (.istore_n 3, 1) := by decide +kernel
theorem d_Mo_inLine_30 : decode c_Mo_inLine 30 = .ok (.iinc 4 (1), 3) := by decide +kernel
theorem d_Mo_inLine_33 : decode c_Mo_inLine 33 = .ok (.goto (-28), 3) := by decide +kernel
theorem d_Mo_inLine_36 : decode c_Mo_inLine 36 = .ok (.iconst (0), 1) := by decide +kernel
theorem d_Mo_inLine_37 : decode c_Mo_inLine 37 = .ok (.ireturn, 1) := by decide +kernel
def fx_Mo_inLine_b36 (σ : tx_St) : Option (Int32 × tx_St) := some ((0 : Int32), σ)
def fx_Mo_inLine_b5 : Nat → tx_St → Int32 → Int32 → Int32 → Option (Int32 × tx_St)
  | 0, _, _, _, _ => none
  | n + 1, σ, x2, x3, x4 => (if (8 : Int32) ≤ x4 then fx_Mo_inLine_b36  σ else (if x3 < 0 then fx_Mo_inLine_b36  σ else (if x3 = x2 then some ((1 : Int32), σ) else tx_rd σ 46 8 x3 fun v4 => fx_Mo_inLine_b5 n σ x2 v4 (x4 + (1 : Int32)))))
def fx_Mo_inLine (σ : tx_St) (x1 : Int32) (x2 : Int32) : Option (Int32 × tx_St) := fx_Mo_inLine_b5  tx_fu σ x2 x1 (0 : Int32)
set_option maxRecDepth 100000 in
set_option maxHeartbeats 4000000 in
theorem fx_Mo_inLine_b36_w {l : Launch} {E : tx_E} (σ : tx_St) (t : Int32 × tx_St) (hT : fx_Mo_inLine_b36 σ  = some t) : gx l E mi_Mo_inLine (some (.int t.1), t.2) σ [] 36 [] := by
  unfold fx_Mo_inLine_b36 at hT
  refine gx_iconst (pc := 36) (0 : Int32) d_Mo_inLine_36 (by decide) ?_
  cases hT
  exact gx_zret (pc := 37) d_Mo_inLine_37 rfl (by decide) rfl
set_option maxRecDepth 100000 in
set_option maxHeartbeats 4000000 in
theorem fx_Mo_inLine_b5_w {l : Launch} {E : tx_E} : ∀ (n : Nat) (σ : tx_St) (x2 : Int32) (x3 : Int32) (x4 : Int32) (t : Int32 × tx_St), fx_Mo_inLine_b5 n σ x2 x3 x4 = some t → gx l E mi_Mo_inLine (some (.int t.1), t.2) σ [(0, .ref (E.1 45)), (2, .int x2), (3, .int x3), (4, .int x4)] 5 [] := by
  intro n
  induction n with
  | zero => intro σ x2 x3 x4 t hT; cases hT
  | succ n ih =>
    intro σ x2 x3 x4 t hT
    rw [fx_Mo_inLine_b5] at hT
    refine gx_iload (pc := 5) 3 d_Mo_inLine_5 rfl ?_
    refine gx_bipush (pc := 7) (8 : Int32) d_Mo_inLine_7 (by decide) ?_
    refine gx_icmp_ge (pc := 9) 36 d_Mo_inLine_9 rfl (fun h1 => ?_) (fun h1 => ?_)
    · have hT := tx_ifp h1 hT
      refine gx_sub [] rfl ?_
      exact fx_Mo_inLine_b36_w  σ _ hT
    · have hT := tx_ifn h1 hT
      refine gx_iload_n (pc := 12) 2 d_Mo_inLine_12 rfl rfl ?_
      refine gx_if_lt (pc := 13) 36 d_Mo_inLine_13 rfl (fun h2 => ?_) (fun h2 => ?_)
      · have hT := tx_ifp h2 hT
        refine gx_sub [] rfl ?_
        exact fx_Mo_inLine_b36_w  σ _ hT
      · have hT := tx_ifn h2 hT
        refine gx_iload_n (pc := 16) 2 d_Mo_inLine_16 rfl rfl ?_
        refine gx_iload_n (pc := 17) 1 d_Mo_inLine_17 rfl rfl ?_
        refine gx_icmp_ne (pc := 18) 23 d_Mo_inLine_18 rfl (fun h3 => ?_) (fun h3 => ?_)
        · have hT := tx_ifn h3 hT
          refine gx_aload_n (pc := 23) 0 d_Mo_inLine_23 rfl rfl ?_
          refine gx_getR (pc := 24) 46 fl_Mo_7 d_Mo_inLine_24 (rfl) (by decide) rfl ?_
          refine gx_iload_n (pc := 27) 2 d_Mo_inLine_27 rfl rfl ?_
          obtain ⟨v4, gv4, iv4, hT⟩ := tx_rd_some hT
          refine gx_iald (pc := 28) v4 d_Mo_inLine_28 (rfl) iv4 gv4 ?_
          refine gx_istore_n (pc := 29) [(3, .int v4), (0, .ref (E.1 45)), (2, .int x2), (4, .int x4)] d_Mo_inLine_29 rfl (Nat.le_of_ble_eq_true rfl) rfl ?_
          refine gx_iinc (pc := 30) (x4 + (1 : Int32)) 3 [(4, .int (x4 + (1 : Int32))), (3, .int v4), (0, .ref (E.1 45)), (2, .int x2)] d_Mo_inLine_30 rfl (tx_inc (by decide)) (Nat.le_of_ble_eq_true rfl) rfl ?_
          refine gx_goto (pc := 33) 5 d_Mo_inLine_33 rfl ?_
          refine gx_sub [2, 3, 1, 0] rfl ?_
          exact ih σ x2 v4 (x4 + (1 : Int32)) _ hT
        · have hT := tx_ifp h3 hT
          refine gx_iconst (pc := 21) (1 : Int32) d_Mo_inLine_21 (by decide) ?_
          cases hT
          exact gx_zret (pc := 22) d_Mo_inLine_22 rfl (by decide) rfl
set_option maxRecDepth 100000 in
set_option maxHeartbeats 4000000 in
theorem fx_Mo_inLine_c (l : Launch) (E : tx_E) (σ : tx_St) (x1 : Int32) (x2 : Int32) (t : Int32 × tx_St) (hT : fx_Mo_inLine σ x1 x2 = some t) : tx_MX l E y_Mo_inLine mi_Mo_inLine (some (.int t.1), t.2) [.ref (E.1 45), .int x1, .int x2] σ := by
  refine tx_MX_of (by decide) rfl (Nat.le_of_ble_eq_true rfl) ?_
  show gx l E mi_Mo_inLine (some (.int t.1), t.2) σ [(0, .ref (E.1 45)), (1, .int x1), (2, .int x2)] 0 []
  unfold fx_Mo_inLine at hT
  refine gx_iload_n (pc := 0) 1 d_Mo_inLine_0 rfl rfl ?_
  refine gx_istore_n (pc := 1) [(3, .int x1), (0, .ref (E.1 45)), (1, .int x1), (2, .int x2)] d_Mo_inLine_1 rfl (Nat.le_of_ble_eq_true rfl) rfl ?_
  refine gx_iconst (pc := 2) (0 : Int32) d_Mo_inLine_2 (by decide) ?_
  refine gx_istore (pc := 3) [(4, .int (0 : Int32)), (3, .int x1), (0, .ref (E.1 45)), (1, .int x1), (2, .int x2)] d_Mo_inLine_3 (Nat.le_of_ble_eq_true rfl) rfl ?_
  refine gx_sub [2, 4, 1, 0] rfl ?_
  exact fx_Mo_inLine_b5_w  tx_fu σ x2 x1 (0 : Int32) _ hT
theorem d_Mo_marked_0 : decode c_Mo_marked 0 = .ok (.iload_n 1, 1) := by decide +kernel
theorem d_Mo_marked_1 : decode c_Mo_marked 1 = .ok (.ifCond .ne (7), 3) := by decide +kernel
theorem d_Mo_marked_4 : decode c_Mo_marked 4 = .ok (.iconst (1), 1) := by decide +kernel
theorem d_Mo_marked_5 : decode c_Mo_marked 5 = .ok (.goto (4), 3) := by decide +kernel
theorem d_Mo_marked_8 : decode c_Mo_marked 8 = .ok (.iconst (0), 1) := by decide +kernel
theorem d_Mo_marked_9 : decode c_Mo_marked 9 = .ok (.istore_n 3, 1) := by decide +kernel
theorem d_Mo_marked_10 : decode c_Mo_marked 10 = .ok (.iconst (0), 1) := by decide +kernel
theorem d_Mo_marked_11 : decode c_Mo_marked 11 = .ok (.istore 4, 2) := by decide +kernel
theorem d_Mo_marked_13 : decode c_Mo_marked 13 = .ok (.iload 4, 2) := by decide +kernel
theorem d_Mo_marked_15 : decode c_Mo_marked 15 = .ok (.aload_n 0, 1) := by decide +kernel
theorem d_Mo_marked_16 : decode c_Mo_marked 16 = .ok (.getfield 84, 3) := by decide +kernel
theorem d_Mo_marked_19 : decode c_Mo_marked 19 = .ok (.if_icmp .ge (48), 3) := by decide +kernel
theorem d_Mo_marked_22 : decode c_Mo_marked 22 = .ok (.iload_n 1, 1) := by decide +kernel
theorem d_Mo_marked_23 : decode c_Mo_marked 23 = .ok (.iconst (2), 1) := by decide +kernel
theorem d_Mo_marked_24 : decode c_Mo_marked 24 = .ok (.if_icmp .lt (43), 3) := by decide +kernel
theorem d_Mo_marked_27 : decode c_Mo_marked 27 = .ok (.iload_n 3, 1) := by decide +kernel
theorem d_Mo_marked_28 : decode c_Mo_marked 28 = .ok (.ifCond .ne (27), 3) := by decide +kernel
theorem d_Mo_marked_31 : decode c_Mo_marked 31 = .ok (.aload_n 0, 1) := by decide +kernel
theorem d_Mo_marked_32 : decode c_Mo_marked 32 = .ok (.iload_n 1, 1) := by decide +kernel
theorem d_Mo_marked_33 : decode c_Mo_marked 33 = .ok (.iconst (2), 1) := by decide +kernel
theorem d_Mo_marked_34 : decode c_Mo_marked 34 = .ok (.isub, 1) := by decide +kernel
theorem d_Mo_marked_35 : decode c_Mo_marked 35 = .ok (.iload 4, 2) := by decide +kernel
theorem d_Mo_marked_37 : decode c_Mo_marked 37 = .ok (.invokevirtual 114, 3) := by decide +kernel
theorem d_Mo_marked_40 : decode c_Mo_marked 40 = .ok (.ifCond .eq (19), 3) := by decide +kernel
theorem d_Mo_marked_43 : decode c_Mo_marked 43 = .ok (.aload_n 0, 1) := by decide +kernel
theorem d_Mo_marked_44 : decode c_Mo_marked 44 = .ok (.getfield 13, 3) := by decide +kernel
theorem d_Mo_marked_47 : decode c_Mo_marked 47 = .ok (.iload 4, 2) := by decide +kernel
theorem d_Mo_marked_49 : decode c_Mo_marked 49 = .ok (.iaload, 1) := by decide +kernel
theorem d_Mo_marked_50 : decode c_Mo_marked 50 = .ok (.iload_n 2, 1) := by decide +kernel
theorem d_Mo_marked_51 : decode c_Mo_marked 51 = .ok (.iand, 1) := by decide +kernel
theorem d_Mo_marked_52 : decode c_Mo_marked 52 = .ok (.ifCond .eq (7), 3) := by decide +kernel
theorem d_Mo_marked_55 : decode c_Mo_marked 55 = .ok (.iconst (1), 1) := by decide +kernel
theorem d_Mo_marked_56 : decode c_Mo_marked 56 = .ok (.goto (4), 3) := by decide +kernel
theorem d_Mo_marked_59 : decode c_Mo_marked 59 = .ok (.iconst (0), 1) := by decide +kernel
theorem d_Mo_marked_60 : decode c_Mo_marked 60 = .ok (.istore_n 3, 1) := by decide +kernel
theorem d_Mo_marked_61 : decode c_Mo_marked 61 = .ok (.iinc 4 (1), 3) := by decide +kernel
theorem d_Mo_marked_64 : decode c_Mo_marked 64 = .ok (.goto (-51), 3) := by decide +kernel
theorem d_Mo_marked_67 : decode c_Mo_marked 67 = .ok (.iload_n 3, 1) := by decide +kernel
theorem d_Mo_marked_68 : decode c_Mo_marked 68 = .ok (.ireturn, 1) := by decide +kernel
def fx_Mo_marked_b67 (σ : tx_St) (x3 : Int32) : Option (Int32 × tx_St) := tx_rz x3 σ
def fx_Mo_marked_b60 (k13 : tx_St → Int32 → Int32 → Int32 → Int32 → Option (Int32 × tx_St)) (σ : tx_St) (x1 : Int32) (x2 : Int32) (x4 : Int32) (s0 : Int32) : Option (Int32 × tx_St) := k13 σ x1 x2 s0 (x4 + (1 : Int32))
def fx_Mo_marked_b55 (k13 : tx_St → Int32 → Int32 → Int32 → Int32 → Option (Int32 × tx_St)) (σ : tx_St) (x1 : Int32) (x2 : Int32) (x4 : Int32) : Option (Int32 × tx_St) := fx_Mo_marked_b60 (k13) σ x1 x2 x4 (1 : Int32)
def fx_Mo_marked_b59 (k13 : tx_St → Int32 → Int32 → Int32 → Int32 → Option (Int32 × tx_St)) (σ : tx_St) (x1 : Int32) (x2 : Int32) (x4 : Int32) : Option (Int32 × tx_St) := fx_Mo_marked_b60 (k13) σ x1 x2 x4 (0 : Int32)
def fx_Mo_marked_b13 : Nat → tx_St → Int32 → Int32 → Int32 → Int32 → Option (Int32 × tx_St)
  | 0, _, _, _, _, _ => none
  | n + 1, σ, x1, x2, x3, x4 => (if (σ 45 0) ≤ x4 then fx_Mo_marked_b67  σ x3 else (if x1 < (2 : Int32) then fx_Mo_marked_b67  σ x3 else (if x3 = 0 then tx_ci (fx_Mo_inLine σ (x1 - (2 : Int32)) x4) fun r6 σ5 => (if r6 = 0 then fx_Mo_marked_b59 (fx_Mo_marked_b13 n) σ5 x1 x2 x4 else tx_rd σ5 47 8 x4 fun v8 => (if (v8 &&& x2) = 0 then fx_Mo_marked_b59 (fx_Mo_marked_b13 n) σ5 x1 x2 x4 else fx_Mo_marked_b55 (fx_Mo_marked_b13 n) σ5 x1 x2 x4)) else fx_Mo_marked_b55 (fx_Mo_marked_b13 n) σ x1 x2 x4)))
def fx_Mo_marked_b9 (σ : tx_St) (x1 : Int32) (x2 : Int32) (s0 : Int32) : Option (Int32 × tx_St) := fx_Mo_marked_b13  tx_fu σ x1 x2 s0 (0 : Int32)
def fx_Mo_marked (σ : tx_St) (x1 : Int32) (x2 : Int32) : Option (Int32 × tx_St) := (if x1 = 0 then fx_Mo_marked_b9  σ x1 x2 (1 : Int32) else fx_Mo_marked_b9  σ x1 x2 (0 : Int32))
set_option maxRecDepth 100000 in
set_option maxHeartbeats 4000000 in
theorem fx_Mo_marked_b67_w {l : Launch} {E : tx_E} (σ : tx_St) (x3 : Int32) (t : Int32 × tx_St) (hT : fx_Mo_marked_b67 σ x3 = some t) : gx l E mi_Mo_marked (some (.int t.1), t.2) σ [(3, .int x3)] 67 [] := by
  unfold fx_Mo_marked_b67 at hT
  refine gx_iload_n (pc := 67) 0 d_Mo_marked_67 rfl rfl ?_
  obtain ⟨hz, hT⟩ := tx_rz_some hT
  cases hT
  exact gx_zret (pc := 68) d_Mo_marked_68 rfl hz rfl
set_option maxRecDepth 100000 in
set_option maxHeartbeats 4000000 in
theorem fx_Mo_marked_b60_w {l : Launch} {E : tx_E} (k13 : tx_St → Int32 → Int32 → Int32 → Int32 → Option (Int32 × tx_St)) (j13 : ∀ (σ : tx_St) (x1 : Int32) (x2 : Int32) (x3 : Int32) (x4 : Int32) (t : Int32 × tx_St), k13 σ x1 x2 x3 x4 = some t → gx l E mi_Mo_marked (some (.int t.1), t.2) σ [(0, .ref (E.1 45)), (1, .int x1), (2, .int x2), (3, .int x3), (4, .int x4)] 13 []) (σ : tx_St) (x1 : Int32) (x2 : Int32) (x4 : Int32) (s0 : Int32) (t : Int32 × tx_St) (hT : fx_Mo_marked_b60 k13 σ x1 x2 x4 s0 = some t) : gx l E mi_Mo_marked (some (.int t.1), t.2) σ [(0, .ref (E.1 45)), (1, .int x1), (2, .int x2), (4, .int x4)] 60 [.int s0] := by
  unfold fx_Mo_marked_b60 at hT
  refine gx_istore_n (pc := 60) [(3, .int s0), (0, .ref (E.1 45)), (1, .int x1), (2, .int x2), (4, .int x4)] d_Mo_marked_60 rfl (Nat.le_of_ble_eq_true rfl) rfl ?_
  refine gx_iinc (pc := 61) (x4 + (1 : Int32)) 4 [(4, .int (x4 + (1 : Int32))), (3, .int s0), (0, .ref (E.1 45)), (1, .int x1), (2, .int x2)] d_Mo_marked_61 rfl (tx_inc (by decide)) (Nat.le_of_ble_eq_true rfl) rfl ?_
  refine gx_goto (pc := 64) 13 d_Mo_marked_64 rfl ?_
  refine gx_sub [2, 3, 4, 1, 0] rfl ?_
  exact j13 σ x1 x2 s0 (x4 + (1 : Int32)) _ hT
set_option maxRecDepth 100000 in
set_option maxHeartbeats 4000000 in
theorem fx_Mo_marked_b55_w {l : Launch} {E : tx_E} (k13 : tx_St → Int32 → Int32 → Int32 → Int32 → Option (Int32 × tx_St)) (j13 : ∀ (σ : tx_St) (x1 : Int32) (x2 : Int32) (x3 : Int32) (x4 : Int32) (t : Int32 × tx_St), k13 σ x1 x2 x3 x4 = some t → gx l E mi_Mo_marked (some (.int t.1), t.2) σ [(0, .ref (E.1 45)), (1, .int x1), (2, .int x2), (3, .int x3), (4, .int x4)] 13 []) (σ : tx_St) (x1 : Int32) (x2 : Int32) (x4 : Int32) (t : Int32 × tx_St) (hT : fx_Mo_marked_b55 k13 σ x1 x2 x4 = some t) : gx l E mi_Mo_marked (some (.int t.1), t.2) σ [(0, .ref (E.1 45)), (1, .int x1), (2, .int x2), (4, .int x4)] 55 [] := by
  unfold fx_Mo_marked_b55 at hT
  refine gx_iconst (pc := 55) (1 : Int32) d_Mo_marked_55 (by decide) ?_
  refine gx_goto (pc := 56) 60 d_Mo_marked_56 rfl ?_
  exact fx_Mo_marked_b60_w (k13) (j13) σ x1 x2 x4 (1 : Int32) _ hT
set_option maxRecDepth 100000 in
set_option maxHeartbeats 4000000 in
theorem fx_Mo_marked_b59_w {l : Launch} {E : tx_E} (k13 : tx_St → Int32 → Int32 → Int32 → Int32 → Option (Int32 × tx_St)) (j13 : ∀ (σ : tx_St) (x1 : Int32) (x2 : Int32) (x3 : Int32) (x4 : Int32) (t : Int32 × tx_St), k13 σ x1 x2 x3 x4 = some t → gx l E mi_Mo_marked (some (.int t.1), t.2) σ [(0, .ref (E.1 45)), (1, .int x1), (2, .int x2), (3, .int x3), (4, .int x4)] 13 []) (σ : tx_St) (x1 : Int32) (x2 : Int32) (x4 : Int32) (t : Int32 × tx_St) (hT : fx_Mo_marked_b59 k13 σ x1 x2 x4 = some t) : gx l E mi_Mo_marked (some (.int t.1), t.2) σ [(0, .ref (E.1 45)), (1, .int x1), (2, .int x2), (4, .int x4)] 59 [] := by
  unfold fx_Mo_marked_b59 at hT
  refine gx_iconst (pc := 59) (0 : Int32) d_Mo_marked_59 (by decide) ?_
  exact fx_Mo_marked_b60_w (k13) (j13) σ x1 x2 x4 (0 : Int32) _ hT
set_option maxRecDepth 100000 in
set_option maxHeartbeats 4000000 in
theorem fx_Mo_marked_b13_w {l : Launch} {E : tx_E} : ∀ (n : Nat) (σ : tx_St) (x1 : Int32) (x2 : Int32) (x3 : Int32) (x4 : Int32) (t : Int32 × tx_St), fx_Mo_marked_b13 n σ x1 x2 x3 x4 = some t → gx l E mi_Mo_marked (some (.int t.1), t.2) σ [(0, .ref (E.1 45)), (1, .int x1), (2, .int x2), (3, .int x3), (4, .int x4)] 13 [] := by
  intro n
  induction n with
  | zero => intro σ x1 x2 x3 x4 t hT; cases hT
  | succ n ih =>
    intro σ x1 x2 x3 x4 t hT
    rw [fx_Mo_marked_b13] at hT
    refine gx_iload (pc := 13) 4 d_Mo_marked_13 rfl ?_
    refine gx_aload_n (pc := 15) 0 d_Mo_marked_15 rfl rfl ?_
    refine gx_getI (pc := 16) (σ 45 0) fl_Mo_84 d_Mo_marked_16 (rfl) (by decide) rfl rfl ?_
    refine gx_icmp_ge (pc := 19) 67 d_Mo_marked_19 rfl (fun h2 => ?_) (fun h2 => ?_)
    · have hT := tx_ifp h2 hT
      refine gx_sub [3] rfl ?_
      exact fx_Mo_marked_b67_w  σ x3 _ hT
    · have hT := tx_ifn h2 hT
      refine gx_iload_n (pc := 22) 1 d_Mo_marked_22 rfl rfl ?_
      refine gx_iconst (pc := 23) (2 : Int32) d_Mo_marked_23 (by decide) ?_
      refine gx_icmp_lt (pc := 24) 67 d_Mo_marked_24 rfl (fun h3 => ?_) (fun h3 => ?_)
      · have hT := tx_ifp h3 hT
        refine gx_sub [3] rfl ?_
        exact fx_Mo_marked_b67_w  σ x3 _ hT
      · have hT := tx_ifn h3 hT
        refine gx_iload_n (pc := 27) 3 d_Mo_marked_27 rfl rfl ?_
        refine gx_if_ne (pc := 28) 55 d_Mo_marked_28 rfl (fun h4 => ?_) (fun h4 => ?_)
        · have hT := tx_ifn h4 hT
          refine gx_sub [0, 1, 2, 4] rfl ?_
          exact fx_Mo_marked_b55_w (fx_Mo_marked_b13 n) (ih) σ x1 x2 x4 _ hT
        · have hT := tx_ifp h4 hT
          refine gx_aload_n (pc := 31) 0 d_Mo_marked_31 rfl rfl ?_
          refine gx_iload_n (pc := 32) 1 d_Mo_marked_32 rfl rfl ?_
          refine gx_iconst (pc := 33) (2 : Int32) d_Mo_marked_33 (by decide) ?_
          refine gx_isub (pc := 34) d_Mo_marked_34 ?_
          refine gx_iload (pc := 35) 4 d_Mo_marked_35 rfl ?_
          obtain ⟨r6, σ5, cσ5, hT⟩ := tx_ci_some hT
          refine gx_callV (pc := 37) (As := [.int (x1 - (2 : Int32)), .int x4]) (rest := []) cm_Mo_inLine lk_Mo_114 (fx_Mo_inLine_c l E σ (x1 - (2 : Int32)) x4 _ cσ5) (rfl) (by decide) rfl rfl tx_fi_Mo_marked_Mo_inLine (Nat.le_of_ble_eq_true rfl) d_Mo_marked_37 ?_
          change gx l E mi_Mo_marked _ σ5 [(0, .ref (E.1 45)), (1, .int x1), (2, .int x2), (3, .int x3), (4, .int x4)] 40 [.int r6]
          refine gx_if_eq (pc := 40) 59 d_Mo_marked_40 rfl (fun h7 => ?_) (fun h7 => ?_)
          · have hT := tx_ifp h7 hT
            refine gx_sub [0, 1, 2, 4] rfl ?_
            exact fx_Mo_marked_b59_w (fx_Mo_marked_b13 n) (ih) σ5 x1 x2 x4 _ hT
          · have hT := tx_ifn h7 hT
            refine gx_aload_n (pc := 43) 0 d_Mo_marked_43 rfl rfl ?_
            refine gx_getR (pc := 44) 47 fl_Mo_13 d_Mo_marked_44 (rfl) (by decide) rfl ?_
            refine gx_iload (pc := 47) 4 d_Mo_marked_47 rfl ?_
            obtain ⟨v8, gv8, iv8, hT⟩ := tx_rd_some hT
            refine gx_iald (pc := 49) v8 d_Mo_marked_49 (rfl) iv8 gv8 ?_
            refine gx_iload_n (pc := 50) 2 d_Mo_marked_50 rfl rfl ?_
            refine gx_iand (pc := 51) d_Mo_marked_51 ?_
            refine gx_if_eq (pc := 52) 59 d_Mo_marked_52 rfl (fun h9 => ?_) (fun h9 => ?_)
            · have hT := tx_ifp h9 hT
              refine gx_sub [0, 1, 2, 4] rfl ?_
              exact fx_Mo_marked_b59_w (fx_Mo_marked_b13 n) (ih) σ5 x1 x2 x4 _ hT
            · have hT := tx_ifn h9 hT
              refine gx_sub [0, 1, 2, 4] rfl ?_
              exact fx_Mo_marked_b55_w (fx_Mo_marked_b13 n) (ih) σ5 x1 x2 x4 _ hT
set_option maxRecDepth 100000 in
set_option maxHeartbeats 4000000 in
theorem fx_Mo_marked_b9_w {l : Launch} {E : tx_E} (σ : tx_St) (x1 : Int32) (x2 : Int32) (s0 : Int32) (t : Int32 × tx_St) (hT : fx_Mo_marked_b9 σ x1 x2 s0 = some t) : gx l E mi_Mo_marked (some (.int t.1), t.2) σ [(0, .ref (E.1 45)), (1, .int x1), (2, .int x2)] 9 [.int s0] := by
  unfold fx_Mo_marked_b9 at hT
  refine gx_istore_n (pc := 9) [(3, .int s0), (0, .ref (E.1 45)), (1, .int x1), (2, .int x2)] d_Mo_marked_9 rfl (Nat.le_of_ble_eq_true rfl) rfl ?_
  refine gx_iconst (pc := 10) (0 : Int32) d_Mo_marked_10 (by decide) ?_
  refine gx_istore (pc := 11) [(4, .int (0 : Int32)), (3, .int s0), (0, .ref (E.1 45)), (1, .int x1), (2, .int x2)] d_Mo_marked_11 (Nat.le_of_ble_eq_true rfl) rfl ?_
  refine gx_sub [2, 3, 4, 1, 0] rfl ?_
  exact fx_Mo_marked_b13_w  tx_fu σ x1 x2 s0 (0 : Int32) _ hT
set_option maxRecDepth 100000 in
set_option maxHeartbeats 4000000 in
theorem fx_Mo_marked_c (l : Launch) (E : tx_E) (σ : tx_St) (x1 : Int32) (x2 : Int32) (t : Int32 × tx_St) (hT : fx_Mo_marked σ x1 x2 = some t) : tx_MX l E y_Mo_marked mi_Mo_marked (some (.int t.1), t.2) [.ref (E.1 45), .int x1, .int x2] σ := by
  refine tx_MX_of (by decide) rfl (Nat.le_of_ble_eq_true rfl) ?_
  show gx l E mi_Mo_marked (some (.int t.1), t.2) σ [(0, .ref (E.1 45)), (1, .int x1), (2, .int x2)] 0 []
  unfold fx_Mo_marked at hT
  refine gx_iload_n (pc := 0) 1 d_Mo_marked_0 rfl rfl ?_
  refine gx_if_ne (pc := 1) 8 d_Mo_marked_1 rfl (fun h1 => ?_) (fun h1 => ?_)
  · have hT := tx_ifn h1 hT
    refine gx_iconst (pc := 8) (0 : Int32) d_Mo_marked_8 (by decide) ?_
    exact fx_Mo_marked_b9_w  σ x1 x2 (0 : Int32) _ hT
  · have hT := tx_ifp h1 hT
    refine gx_iconst (pc := 4) (1 : Int32) d_Mo_marked_4 (by decide) ?_
    refine gx_goto (pc := 5) 9 d_Mo_marked_5 rfl ?_
    exact fx_Mo_marked_b9_w  σ x1 x2 (1 : Int32) _ hT
theorem d_Mo_powerless_0 : decode c_Mo_powerless 0 = .ok (.aload_n 0, 1) := by decide +kernel
theorem d_Mo_powerless_1 : decode c_Mo_powerless 1 = .ok (.iload_n 1, 1) := by decide +kernel
theorem d_Mo_powerless_2 : decode c_Mo_powerless 2 = .ok (.iconst (2), 1) := by decide +kernel
theorem d_Mo_powerless_3 : decode c_Mo_powerless 3 = .ok (.invokevirtual 118, 3) := by decide +kernel
theorem d_Mo_powerless_6 : decode c_Mo_powerless 6 = .ok (.ireturn, 1) := by decide +kernel
def fx_Mo_powerless (σ : tx_St) (x1 : Int32) : Option (Int32 × tx_St) := tx_ci (fx_Mo_marked σ x1 (2 : Int32)) fun r2 σ1 => tx_rz r2 σ1
set_option maxRecDepth 100000 in
set_option maxHeartbeats 4000000 in
theorem fx_Mo_powerless_c (l : Launch) (E : tx_E) (σ : tx_St) (x1 : Int32) (t : Int32 × tx_St) (hT : fx_Mo_powerless σ x1 = some t) : tx_MX l E y_Mo_powerless mi_Mo_powerless (some (.int t.1), t.2) [.ref (E.1 45), .int x1] σ := by
  refine tx_MX_of (by decide) rfl (Nat.le_of_ble_eq_true rfl) ?_
  show gx l E mi_Mo_powerless (some (.int t.1), t.2) σ [(0, .ref (E.1 45)), (1, .int x1)] 0 []
  unfold fx_Mo_powerless at hT
  refine gx_aload_n (pc := 0) 0 d_Mo_powerless_0 rfl rfl ?_
  refine gx_iload_n (pc := 1) 1 d_Mo_powerless_1 rfl rfl ?_
  refine gx_iconst (pc := 2) (2 : Int32) d_Mo_powerless_2 (by decide) ?_
  obtain ⟨r2, σ1, cσ1, hT⟩ := tx_ci_some hT
  refine gx_callV (pc := 3) (As := [.int x1, .int (2 : Int32)]) (rest := []) cm_Mo_marked lk_Mo_118 (fx_Mo_marked_c l E σ x1 (2 : Int32) _ cσ1) (rfl) (by decide) rfl rfl tx_fi_Mo_powerless_Mo_marked (Nat.le_of_ble_eq_true rfl) d_Mo_powerless_3 ?_
  change gx l E mi_Mo_powerless _ σ1 [(0, .ref (E.1 45)), (1, .int x1)] 6 [.int r2]
  obtain ⟨hz, hT⟩ := tx_rz_some hT
  cases hT
  exact gx_zret (pc := 6) d_Mo_powerless_6 rfl hz rfl
theorem d_Mo_looseStatic_0 : decode c_Mo_looseStatic 0 = .ok (.aload_n 0, 1) := by decide +kernel
theorem d_Mo_looseStatic_1 : decode c_Mo_looseStatic 1 = .ok (.iload_n 1, 1) := by decide +kernel
theorem d_Mo_looseStatic_2 : decode c_Mo_looseStatic 2 = .ok (.invokevirtual 121, 3) := by decide +kernel
theorem d_Mo_looseStatic_5 : decode c_Mo_looseStatic 5 = .ok (.ifCond .eq (28), 3) := by decide +kernel
theorem d_Mo_looseStatic_8 : decode c_Mo_looseStatic 8 = .ok (.aload_n 0, 1) := by decide +kernel
theorem d_Mo_looseStatic_9 : decode c_Mo_looseStatic 9 = .ok (.iload_n 1, 1) := by decide +kernel
theorem d_Mo_looseStatic_10 : decode c_Mo_looseStatic 10 = .ok (.invokevirtual 182, 3) := by decide +kernel
theorem d_Mo_looseStatic_13 : decode c_Mo_looseStatic 13 = .ok (.ifCond .eq (16), 3) := by decide +kernel
theorem d_Mo_looseStatic_16 : decode c_Mo_looseStatic 16 = .ok (.aload_n 0, 1) := by decide +kernel
theorem d_Mo_looseStatic_17 : decode c_Mo_looseStatic 17 = .ok (.aload_n 0, 1) := by decide +kernel
theorem d_Mo_looseStatic_18 : decode c_Mo_looseStatic 18 = .ok (.getfield 22, 3) := by decide +kernel
theorem d_Mo_looseStatic_21 : decode c_Mo_looseStatic 21 = .ok (.iload_n 1, 1) := by decide +kernel
theorem d_Mo_looseStatic_22 : decode c_Mo_looseStatic 22 = .ok (.iaload, 1) := by decide +kernel
theorem d_Mo_looseStatic_23 : decode c_Mo_looseStatic 23 = .ok (.invokevirtual 185, 3) := by decide +kernel
theorem d_Mo_looseStatic_26 : decode c_Mo_looseStatic 26 = .ok (.ifCond .ne (7), 3) := by decide +kernel
theorem d_Mo_looseStatic_29 : decode c_Mo_looseStatic 29 = .ok (.iconst (1), 1) := by decide +kernel
theorem d_Mo_looseStatic_30 : decode c_Mo_looseStatic 30 = .ok (.goto (4), 3) := by decide +kernel
theorem d_Mo_looseStatic_33 : decode c_Mo_looseStatic 33 = .ok (.iconst (0), 1) := by decide +kernel
theorem d_Mo_looseStatic_34 : decode c_Mo_looseStatic 34 = .ok (.ireturn, 1) := by decide +kernel
def fx_Mo_looseStatic_b34 (σ : tx_St) (s0 : Int32) : Option (Int32 × tx_St) := tx_rz s0 σ
def fx_Mo_looseStatic_b33 (σ : tx_St) : Option (Int32 × tx_St) := fx_Mo_looseStatic_b34  σ (0 : Int32)
def fx_Mo_looseStatic_b29 (σ : tx_St) : Option (Int32 × tx_St) := fx_Mo_looseStatic_b34  σ (1 : Int32)
def fx_Mo_looseStatic (σ : tx_St) (x1 : Int32) : Option (Int32 × tx_St) := tx_ci (fx_Mo_isStatic σ x1) fun r2 σ1 => (if r2 = 0 then fx_Mo_looseStatic_b33  σ1 else tx_ci (fx_Mo_isFinal σ1 x1) fun r5 σ4 => (if r5 = 0 then fx_Mo_looseStatic_b29  σ4 else tx_rd σ4 50 12 x1 fun v7 => tx_ci (fx_Mo_powerless σ4 v7) fun r9 σ8 => (if r9 = 0 then fx_Mo_looseStatic_b29  σ8 else fx_Mo_looseStatic_b33  σ8)))
set_option maxRecDepth 100000 in
set_option maxHeartbeats 4000000 in
theorem fx_Mo_looseStatic_b34_w {l : Launch} {E : tx_E} (σ : tx_St) (s0 : Int32) (t : Int32 × tx_St) (hT : fx_Mo_looseStatic_b34 σ s0 = some t) : gx l E mi_Mo_looseStatic (some (.int t.1), t.2) σ [] 34 [.int s0] := by
  unfold fx_Mo_looseStatic_b34 at hT
  obtain ⟨hz, hT⟩ := tx_rz_some hT
  cases hT
  exact gx_zret (pc := 34) d_Mo_looseStatic_34 rfl hz rfl
set_option maxRecDepth 100000 in
set_option maxHeartbeats 4000000 in
theorem fx_Mo_looseStatic_b33_w {l : Launch} {E : tx_E} (σ : tx_St) (t : Int32 × tx_St) (hT : fx_Mo_looseStatic_b33 σ  = some t) : gx l E mi_Mo_looseStatic (some (.int t.1), t.2) σ [] 33 [] := by
  unfold fx_Mo_looseStatic_b33 at hT
  refine gx_iconst (pc := 33) (0 : Int32) d_Mo_looseStatic_33 (by decide) ?_
  exact fx_Mo_looseStatic_b34_w  σ (0 : Int32) _ hT
set_option maxRecDepth 100000 in
set_option maxHeartbeats 4000000 in
theorem fx_Mo_looseStatic_b29_w {l : Launch} {E : tx_E} (σ : tx_St) (t : Int32 × tx_St) (hT : fx_Mo_looseStatic_b29 σ  = some t) : gx l E mi_Mo_looseStatic (some (.int t.1), t.2) σ [] 29 [] := by
  unfold fx_Mo_looseStatic_b29 at hT
  refine gx_iconst (pc := 29) (1 : Int32) d_Mo_looseStatic_29 (by decide) ?_
  refine gx_goto (pc := 30) 34 d_Mo_looseStatic_30 rfl ?_
  exact fx_Mo_looseStatic_b34_w  σ (1 : Int32) _ hT
set_option maxRecDepth 100000 in
set_option maxHeartbeats 4000000 in
theorem fx_Mo_looseStatic_c (l : Launch) (E : tx_E) (σ : tx_St) (x1 : Int32) (t : Int32 × tx_St) (hT : fx_Mo_looseStatic σ x1 = some t) : tx_MX l E y_Mo_looseStatic mi_Mo_looseStatic (some (.int t.1), t.2) [.ref (E.1 45), .int x1] σ := by
  refine tx_MX_of (by decide) rfl (Nat.le_of_ble_eq_true rfl) ?_
  show gx l E mi_Mo_looseStatic (some (.int t.1), t.2) σ [(0, .ref (E.1 45)), (1, .int x1)] 0 []
  unfold fx_Mo_looseStatic at hT
  refine gx_aload_n (pc := 0) 0 d_Mo_looseStatic_0 rfl rfl ?_
  refine gx_iload_n (pc := 1) 1 d_Mo_looseStatic_1 rfl rfl ?_
  obtain ⟨r2, σ1, cσ1, hT⟩ := tx_ci_some hT
  refine gx_callV (pc := 2) (As := [.int x1]) (rest := []) cm_Mo_isStatic lk_Mo_121 (fx_Mo_isStatic_c l E σ x1 _ cσ1) (rfl) (by decide) rfl rfl tx_fi_Mo_looseStatic_Mo_isStatic (Nat.le_of_ble_eq_true rfl) d_Mo_looseStatic_2 ?_
  change gx l E mi_Mo_looseStatic _ σ1 [(0, .ref (E.1 45)), (1, .int x1)] 5 [.int r2]
  refine gx_if_eq (pc := 5) 33 d_Mo_looseStatic_5 rfl (fun h3 => ?_) (fun h3 => ?_)
  · have hT := tx_ifp h3 hT
    refine gx_sub [] rfl ?_
    exact fx_Mo_looseStatic_b33_w  σ1 _ hT
  · have hT := tx_ifn h3 hT
    refine gx_aload_n (pc := 8) 0 d_Mo_looseStatic_8 rfl rfl ?_
    refine gx_iload_n (pc := 9) 1 d_Mo_looseStatic_9 rfl rfl ?_
    obtain ⟨r5, σ4, cσ4, hT⟩ := tx_ci_some hT
    refine gx_callV (pc := 10) (As := [.int x1]) (rest := []) cm_Mo_isFinal lk_Mo_182 (fx_Mo_isFinal_c l E σ1 x1 _ cσ4) (rfl) (by decide) rfl rfl tx_fi_Mo_looseStatic_Mo_isFinal (Nat.le_of_ble_eq_true rfl) d_Mo_looseStatic_10 ?_
    change gx l E mi_Mo_looseStatic _ σ4 [(0, .ref (E.1 45)), (1, .int x1)] 13 [.int r5]
    refine gx_if_eq (pc := 13) 29 d_Mo_looseStatic_13 rfl (fun h6 => ?_) (fun h6 => ?_)
    · have hT := tx_ifp h6 hT
      refine gx_sub [] rfl ?_
      exact fx_Mo_looseStatic_b29_w  σ4 _ hT
    · have hT := tx_ifn h6 hT
      refine gx_aload_n (pc := 16) 0 d_Mo_looseStatic_16 rfl rfl ?_
      refine gx_aload_n (pc := 17) 0 d_Mo_looseStatic_17 rfl rfl ?_
      refine gx_getR (pc := 18) 50 fl_Mo_22 d_Mo_looseStatic_18 (rfl) (by decide) rfl ?_
      refine gx_iload_n (pc := 21) 1 d_Mo_looseStatic_21 rfl rfl ?_
      obtain ⟨v7, gv7, iv7, hT⟩ := tx_rd_some hT
      refine gx_iald (pc := 22) v7 d_Mo_looseStatic_22 (rfl) iv7 gv7 ?_
      obtain ⟨r9, σ8, cσ8, hT⟩ := tx_ci_some hT
      refine gx_callV (pc := 23) (As := [.int v7]) (rest := []) cm_Mo_powerless lk_Mo_185 (fx_Mo_powerless_c l E σ4 v7 _ cσ8) (rfl) (by decide) rfl rfl tx_fi_Mo_looseStatic_Mo_powerless (Nat.le_of_ble_eq_true rfl) d_Mo_looseStatic_23 ?_
      change gx l E mi_Mo_looseStatic _ σ8 [(0, .ref (E.1 45)), (1, .int x1)] 26 [.int r9]
      refine gx_if_ne (pc := 26) 33 d_Mo_looseStatic_26 rfl (fun h10 => ?_) (fun h10 => ?_)
      · have hT := tx_ifn h10 hT
        refine gx_sub [] rfl ?_
        exact fx_Mo_looseStatic_b33_w  σ8 _ hT
      · have hT := tx_ifp h10 hT
        refine gx_sub [] rfl ?_
        exact fx_Mo_looseStatic_b29_w  σ8 _ hT
theorem d_Mo_owns_0 : decode c_Mo_owns 0 = .ok (.aload_n 0, 1) := by decide +kernel
theorem d_Mo_owns_1 : decode c_Mo_owns 1 = .ok (.iload_n 2, 1) := by decide +kernel
theorem d_Mo_owns_2 : decode c_Mo_owns 2 = .ok (.invokevirtual 121, 3) := by decide +kernel
theorem d_Mo_owns_5 : decode c_Mo_owns 5 = .ok (.ifCond .ne (21), 3) := by decide +kernel
theorem d_Mo_owns_8 : decode c_Mo_owns 8 = .ok (.aload_n 0, 1) := by decide +kernel
theorem d_Mo_owns_9 : decode c_Mo_owns 9 = .ok (.iload_n 1, 1) := by decide +kernel
theorem d_Mo_owns_10 : decode c_Mo_owns 10 = .ok (.aload_n 0, 1) := by decide +kernel
theorem d_Mo_owns_11 : decode c_Mo_owns 11 = .ok (.getfield 16, 3) := by decide +kernel
theorem d_Mo_owns_14 : decode c_Mo_owns 14 = .ok (.iload_n 2, 1) := by decide +kernel
theorem d_Mo_owns_15 : decode c_Mo_owns 15 = .ok (.iaload, 1) := by decide +kernel
theorem d_Mo_owns_16 : decode c_Mo_owns 16 = .ok (.invokevirtual 114, 3) := by decide +kernel
theorem d_Mo_owns_19 : decode c_Mo_owns 19 = .ok (.ifCond .eq (7), 3) := by decide +kernel
theorem d_Mo_owns_22 : decode c_Mo_owns 22 = .ok (.iconst (1), 1) := by decide +kernel
theorem d_Mo_owns_23 : decode c_Mo_owns 23 = .ok (.goto (4), 3) := by decide +kernel
theorem d_Mo_owns_26 : decode c_Mo_owns 26 = .ok (.iconst (0), 1) := by decide +kernel
theorem d_Mo_owns_27 : decode c_Mo_owns 27 = .ok (.ireturn, 1) := by decide +kernel
def fx_Mo_owns_b27 (σ : tx_St) (s0 : Int32) : Option (Int32 × tx_St) := tx_rz s0 σ
def fx_Mo_owns_b26 (σ : tx_St) : Option (Int32 × tx_St) := fx_Mo_owns_b27  σ (0 : Int32)
def fx_Mo_owns (σ : tx_St) (x1 : Int32) (x2 : Int32) : Option (Int32 × tx_St) := tx_ci (fx_Mo_isStatic σ x2) fun r2 σ1 => (if r2 = 0 then tx_rd σ1 48 12 x2 fun v4 => tx_ci (fx_Mo_inLine σ1 x1 v4) fun r6 σ5 => (if r6 = 0 then fx_Mo_owns_b26  σ5 else fx_Mo_owns_b27  σ5 (1 : Int32)) else fx_Mo_owns_b26  σ1)
set_option maxRecDepth 100000 in
set_option maxHeartbeats 4000000 in
theorem fx_Mo_owns_b27_w {l : Launch} {E : tx_E} (σ : tx_St) (s0 : Int32) (t : Int32 × tx_St) (hT : fx_Mo_owns_b27 σ s0 = some t) : gx l E mi_Mo_owns (some (.int t.1), t.2) σ [] 27 [.int s0] := by
  unfold fx_Mo_owns_b27 at hT
  obtain ⟨hz, hT⟩ := tx_rz_some hT
  cases hT
  exact gx_zret (pc := 27) d_Mo_owns_27 rfl hz rfl
set_option maxRecDepth 100000 in
set_option maxHeartbeats 4000000 in
theorem fx_Mo_owns_b26_w {l : Launch} {E : tx_E} (σ : tx_St) (t : Int32 × tx_St) (hT : fx_Mo_owns_b26 σ  = some t) : gx l E mi_Mo_owns (some (.int t.1), t.2) σ [] 26 [] := by
  unfold fx_Mo_owns_b26 at hT
  refine gx_iconst (pc := 26) (0 : Int32) d_Mo_owns_26 (by decide) ?_
  exact fx_Mo_owns_b27_w  σ (0 : Int32) _ hT
set_option maxRecDepth 100000 in
set_option maxHeartbeats 4000000 in
theorem fx_Mo_owns_c (l : Launch) (E : tx_E) (σ : tx_St) (x1 : Int32) (x2 : Int32) (t : Int32 × tx_St) (hT : fx_Mo_owns σ x1 x2 = some t) : tx_MX l E y_Mo_owns mi_Mo_owns (some (.int t.1), t.2) [.ref (E.1 45), .int x1, .int x2] σ := by
  refine tx_MX_of (by decide) rfl (Nat.le_of_ble_eq_true rfl) ?_
  show gx l E mi_Mo_owns (some (.int t.1), t.2) σ [(0, .ref (E.1 45)), (1, .int x1), (2, .int x2)] 0 []
  unfold fx_Mo_owns at hT
  refine gx_aload_n (pc := 0) 0 d_Mo_owns_0 rfl rfl ?_
  refine gx_iload_n (pc := 1) 2 d_Mo_owns_1 rfl rfl ?_
  obtain ⟨r2, σ1, cσ1, hT⟩ := tx_ci_some hT
  refine gx_callV (pc := 2) (As := [.int x2]) (rest := []) cm_Mo_isStatic lk_Mo_121 (fx_Mo_isStatic_c l E σ x2 _ cσ1) (rfl) (by decide) rfl rfl tx_fi_Mo_owns_Mo_isStatic (Nat.le_of_ble_eq_true rfl) d_Mo_owns_2 ?_
  change gx l E mi_Mo_owns _ σ1 [(0, .ref (E.1 45)), (1, .int x1), (2, .int x2)] 5 [.int r2]
  refine gx_if_ne (pc := 5) 26 d_Mo_owns_5 rfl (fun h3 => ?_) (fun h3 => ?_)
  · have hT := tx_ifn h3 hT
    refine gx_sub [] rfl ?_
    exact fx_Mo_owns_b26_w  σ1 _ hT
  · have hT := tx_ifp h3 hT
    refine gx_aload_n (pc := 8) 0 d_Mo_owns_8 rfl rfl ?_
    refine gx_iload_n (pc := 9) 1 d_Mo_owns_9 rfl rfl ?_
    refine gx_aload_n (pc := 10) 0 d_Mo_owns_10 rfl rfl ?_
    refine gx_getR (pc := 11) 48 fl_Mo_16 d_Mo_owns_11 (rfl) (by decide) rfl ?_
    refine gx_iload_n (pc := 14) 2 d_Mo_owns_14 rfl rfl ?_
    obtain ⟨v4, gv4, iv4, hT⟩ := tx_rd_some hT
    refine gx_iald (pc := 15) v4 d_Mo_owns_15 (rfl) iv4 gv4 ?_
    obtain ⟨r6, σ5, cσ5, hT⟩ := tx_ci_some hT
    refine gx_callV (pc := 16) (As := [.int x1, .int v4]) (rest := []) cm_Mo_inLine lk_Mo_114 (fx_Mo_inLine_c l E σ1 x1 v4 _ cσ5) (rfl) (by decide) rfl rfl tx_fi_Mo_owns_Mo_inLine (Nat.le_of_ble_eq_true rfl) d_Mo_owns_16 ?_
    change gx l E mi_Mo_owns _ σ5 [(0, .ref (E.1 45)), (1, .int x1), (2, .int x2)] 19 [.int r6]
    refine gx_if_eq (pc := 19) 26 d_Mo_owns_19 rfl (fun h7 => ?_) (fun h7 => ?_)
    · have hT := tx_ifp h7 hT
      refine gx_sub [] rfl ?_
      exact fx_Mo_owns_b26_w  σ5 _ hT
    · have hT := tx_ifn h7 hT
      refine gx_iconst (pc := 22) (1 : Int32) d_Mo_owns_22 (by decide) ?_
      refine gx_goto (pc := 23) 27 d_Mo_owns_23 rfl ?_
      refine gx_sub [] rfl ?_
      exact fx_Mo_owns_b27_w  σ5 (1 : Int32) _ hT
theorem d_Mo_immutable_0 : decode c_Mo_immutable 0 = .ok (.aload_n 0, 1) := by decide +kernel
theorem d_Mo_immutable_1 : decode c_Mo_immutable 1 = .ok (.iload_n 1, 1) := by decide +kernel
theorem d_Mo_immutable_2 : decode c_Mo_immutable 2 = .ok (.iconst (3), 1) := by decide +kernel
theorem d_Mo_immutable_3 : decode c_Mo_immutable 3 = .ok (.invokevirtual 118, 3) := by decide +kernel
theorem d_Mo_immutable_6 : decode c_Mo_immutable 6 = .ok (.ireturn, 1) := by decide +kernel
def fx_Mo_immutable (σ : tx_St) (x1 : Int32) : Option (Int32 × tx_St) := tx_ci (fx_Mo_marked σ x1 (3 : Int32)) fun r2 σ1 => tx_rz r2 σ1
set_option maxRecDepth 100000 in
set_option maxHeartbeats 4000000 in
theorem fx_Mo_immutable_c (l : Launch) (E : tx_E) (σ : tx_St) (x1 : Int32) (t : Int32 × tx_St) (hT : fx_Mo_immutable σ x1 = some t) : tx_MX l E y_Mo_immutable mi_Mo_immutable (some (.int t.1), t.2) [.ref (E.1 45), .int x1] σ := by
  refine tx_MX_of (by decide) rfl (Nat.le_of_ble_eq_true rfl) ?_
  show gx l E mi_Mo_immutable (some (.int t.1), t.2) σ [(0, .ref (E.1 45)), (1, .int x1)] 0 []
  unfold fx_Mo_immutable at hT
  refine gx_aload_n (pc := 0) 0 d_Mo_immutable_0 rfl rfl ?_
  refine gx_iload_n (pc := 1) 1 d_Mo_immutable_1 rfl rfl ?_
  refine gx_iconst (pc := 2) (3 : Int32) d_Mo_immutable_2 (by decide) ?_
  obtain ⟨r2, σ1, cσ1, hT⟩ := tx_ci_some hT
  refine gx_callV (pc := 3) (As := [.int x1, .int (3 : Int32)]) (rest := []) cm_Mo_marked lk_Mo_118 (fx_Mo_marked_c l E σ x1 (3 : Int32) _ cσ1) (rfl) (by decide) rfl rfl tx_fi_Mo_immutable_Mo_marked (Nat.le_of_ble_eq_true rfl) d_Mo_immutable_3 ?_
  change gx l E mi_Mo_immutable _ σ1 [(0, .ref (E.1 45)), (1, .int x1)] 6 [.int r2]
  obtain ⟨hz, hT⟩ := tx_rz_some hT
  cases hT
  exact gx_zret (pc := 6) d_Mo_immutable_6 rfl hz rfl
theorem d_Mo_looseField_0 : decode c_Mo_looseField 0 = .ok (.iconst (0), 1) := by decide +kernel
theorem d_Mo_looseField_1 : decode c_Mo_looseField 1 = .ok (.istore_n 2, 1) := by decide +kernel
theorem d_Mo_looseField_2 : decode c_Mo_looseField 2 = .ok (.iconst (0), 1) := by decide +kernel
theorem d_Mo_looseField_3 : decode c_Mo_looseField 3 = .ok (.istore_n 3, 1) := by decide +kernel
theorem d_Mo_looseField_4 : decode c_Mo_looseField 4 = .ok (.iload_n 3, 1) := by decide +kernel
theorem d_Mo_looseField_5 : decode c_Mo_looseField 5 = .ok (.aload_n 0, 1) := by decide +kernel
theorem d_Mo_looseField_6 : decode c_Mo_looseField 6 = .ok (.getfield 84, 3) := by decide +kernel
theorem d_Mo_looseField_9 : decode c_Mo_looseField 9 = .ok (.if_icmp .ge (92), 3) := by decide +kernel
theorem d_Mo_looseField_12 : decode c_Mo_looseField 12 = .ok (.aload_n 0, 1) := by decide +kernel
theorem d_Mo_looseField_13 : decode c_Mo_looseField 13 = .ok (.iload_n 3, 1) := by decide +kernel
theorem d_Mo_looseField_14 : decode c_Mo_looseField 14 = .ok (.iload_n 1, 1) := by decide +kernel
theorem d_Mo_looseField_15 : decode c_Mo_looseField 15 = .ok (.invokevirtual 140, 3) := by decide +kernel
theorem d_Mo_looseField_18 : decode c_Mo_looseField 18 = .ok (.ifCond .eq (77), 3) := by decide +kernel
theorem d_Mo_looseField_21 : decode c_Mo_looseField 21 = .ok (.iload_n 2, 1) := by decide +kernel
theorem d_Mo_looseField_22 : decode c_Mo_looseField 22 = .ok (.ifCond .ne (34), 3) := by decide +kernel
theorem d_Mo_looseField_25 : decode c_Mo_looseField 25 = .ok (.aload_n 0, 1) := by decide +kernel
theorem d_Mo_looseField_26 : decode c_Mo_looseField 26 = .ok (.iconst (2), 1) := by decide +kernel
theorem d_Mo_looseField_27 : decode c_Mo_looseField 27 = .ok (.iload_n 3, 1) := by decide +kernel
theorem d_Mo_looseField_28 : decode c_Mo_looseField 28 = .ok (.iadd, 1) := by decide +kernel
theorem d_Mo_looseField_29 : decode c_Mo_looseField 29 = .ok (.invokevirtual 188, 3) := by decide +kernel
theorem d_Mo_looseField_32 : decode c_Mo_looseField 32 = .ok (.ifCond .eq (28), 3) := by decide +kernel
theorem d_Mo_looseField_35 : decode c_Mo_looseField 35 = .ok (.aload_n 0, 1) := by decide +kernel
theorem d_Mo_looseField_36 : decode c_Mo_looseField 36 = .ok (.iload_n 1, 1) := by decide +kernel
theorem d_Mo_looseField_37 : decode c_Mo_looseField 37 = .ok (.invokevirtual 182, 3) := by decide +kernel
theorem d_Mo_looseField_40 : decode c_Mo_looseField 40 = .ok (.ifCond .eq (16), 3) := by decide +kernel
theorem d_Mo_looseField_43 : decode c_Mo_looseField 43 = .ok (.aload_n 0, 1) := by decide +kernel
theorem d_Mo_looseField_44 : decode c_Mo_looseField 44 = .ok (.aload_n 0, 1) := by decide +kernel
theorem d_Mo_looseField_45 : decode c_Mo_looseField 45 = .ok (.getfield 22, 3) := by decide +kernel
theorem d_Mo_looseField_48 : decode c_Mo_looseField 48 = .ok (.iload_n 1, 1) := by decide +kernel
theorem d_Mo_looseField_49 : decode c_Mo_looseField 49 = .ok (.iaload, 1) := by decide +kernel
theorem d_Mo_looseField_50 : decode c_Mo_looseField 50 = .ok (.invokevirtual 188, 3) := by decide +kernel
theorem d_Mo_looseField_53 : decode c_Mo_looseField 53 = .ok (.ifCond .ne (7), 3) := by decide +kernel
theorem d_Mo_looseField_56 : decode c_Mo_looseField 56 = .ok (.iconst (1), 1) := by decide +kernel
theorem d_Mo_looseField_57 : decode c_Mo_looseField 57 = .ok (.goto (4), 3) := by decide +kernel
theorem d_Mo_looseField_60 : decode c_Mo_looseField 60 = .ok (.iconst (0), 1) := by decide +kernel
theorem d_Mo_looseField_61 : decode c_Mo_looseField 61 = .ok (.istore_n 2, 1) := by decide +kernel
theorem d_Mo_looseField_62 : decode c_Mo_looseField 62 = .ok (.iload_n 2, 1) := by decide +kernel
theorem d_Mo_looseField_63 : decode c_Mo_looseField 63 = .ok (.ifCond .ne (26), 3) := by decide +kernel
theorem d_Mo_looseField_66 : decode c_Mo_looseField 66 = .ok (.aload_n 0, 1) := by decide +kernel
theorem d_Mo_looseField_67 : decode c_Mo_looseField 67 = .ok (.iconst (2), 1) := by decide +kernel
theorem d_Mo_looseField_68 : decode c_Mo_looseField 68 = .ok (.iload_n 3, 1) := by decide +kernel
theorem d_Mo_looseField_69 : decode c_Mo_looseField 69 = .ok (.iadd, 1) := by decide +kernel
theorem d_Mo_looseField_70 : decode c_Mo_looseField 70 = .ok (.invokevirtual 185, 3) := by decide +kernel
theorem d_Mo_looseField_73 : decode c_Mo_looseField 73 = .ok (.ifCond .eq (20), 3) := by decide +kernel
theorem d_Mo_looseField_76 : decode c_Mo_looseField 76 = .ok (.aload_n 0, 1) := by decide +kernel
theorem d_Mo_looseField_77 : decode c_Mo_looseField 77 = .ok (.aload_n 0, 1) := by decide +kernel
theorem d_Mo_looseField_78 : decode c_Mo_looseField 78 = .ok (.getfield 22, 3) := by decide +kernel
theorem d_Mo_looseField_81 : decode c_Mo_looseField 81 = .ok (.iload_n 1, 1) := by decide +kernel
theorem d_Mo_looseField_82 : decode c_Mo_looseField 82 = .ok (.iaload, 1) := by decide +kernel
theorem d_Mo_looseField_83 : decode c_Mo_looseField 83 = .ok (.invokevirtual 185, 3) := by decide +kernel
theorem d_Mo_looseField_86 : decode c_Mo_looseField 86 = .ok (.ifCond .ne (7), 3) := by decide +kernel
theorem d_Mo_looseField_89 : decode c_Mo_looseField 89 = .ok (.iconst (1), 1) := by decide +kernel
theorem d_Mo_looseField_90 : decode c_Mo_looseField 90 = .ok (.goto (4), 3) := by decide +kernel
theorem d_Mo_looseField_93 : decode c_Mo_looseField 93 = .ok (.iconst (0), 1) := by decide +kernel
theorem d_Mo_looseField_94 : decode c_Mo_looseField 94 = .ok (.istore_n 2, 1) := by decide +kernel
theorem d_Mo_looseField_95 : decode c_Mo_looseField 95 = .ok (.iinc 3 (1), 3) := by decide +kernel
theorem d_Mo_looseField_98 : decode c_Mo_looseField 98 = .ok (.goto (-94), 3) := by decide +kernel
theorem d_Mo_looseField_101 : decode c_Mo_looseField 101 = .ok (.iload_n 2, 1) := by decide +kernel
theorem d_Mo_looseField_102 : decode c_Mo_looseField 102 = .ok (.ireturn, 1) := by decide +kernel
def fx_Mo_looseField_b95 (k4 : tx_St → Int32 → Int32 → Int32 → Option (Int32 × tx_St)) (σ : tx_St) (x1 : Int32) (x2 : Int32) (x3 : Int32) : Option (Int32 × tx_St) := k4 σ x1 x2 (x3 + (1 : Int32))
def fx_Mo_looseField_b94 (k4 : tx_St → Int32 → Int32 → Int32 → Option (Int32 × tx_St)) (σ : tx_St) (x1 : Int32) (x3 : Int32) (s0 : Int32) : Option (Int32 × tx_St) := fx_Mo_looseField_b95 (k4) σ x1 s0 x3
def fx_Mo_looseField_b89 (k4 : tx_St → Int32 → Int32 → Int32 → Option (Int32 × tx_St)) (σ : tx_St) (x1 : Int32) (x3 : Int32) : Option (Int32 × tx_St) := fx_Mo_looseField_b94 (k4) σ x1 x3 (1 : Int32)
def fx_Mo_looseField_b93 (k4 : tx_St → Int32 → Int32 → Int32 → Option (Int32 × tx_St)) (σ : tx_St) (x1 : Int32) (x3 : Int32) : Option (Int32 × tx_St) := fx_Mo_looseField_b94 (k4) σ x1 x3 (0 : Int32)
def fx_Mo_looseField_b61 (k4 : tx_St → Int32 → Int32 → Int32 → Option (Int32 × tx_St)) (σ : tx_St) (x1 : Int32) (x3 : Int32) (s0 : Int32) : Option (Int32 × tx_St) := (if s0 = 0 then tx_ci (fx_Mo_powerless σ ((2 : Int32) + x3)) fun r18 σ17 => (if r18 = 0 then fx_Mo_looseField_b93 (k4) σ17 x1 x3 else tx_rd σ17 50 12 x1 fun v20 => tx_ci (fx_Mo_powerless σ17 v20) fun r22 σ21 => (if r22 = 0 then fx_Mo_looseField_b89 (k4) σ21 x1 x3 else fx_Mo_looseField_b93 (k4) σ21 x1 x3)) else fx_Mo_looseField_b89 (k4) σ x1 x3)
def fx_Mo_looseField_b56 (k4 : tx_St → Int32 → Int32 → Int32 → Option (Int32 × tx_St)) (σ : tx_St) (x1 : Int32) (x3 : Int32) : Option (Int32 × tx_St) := fx_Mo_looseField_b61 (k4) σ x1 x3 (1 : Int32)
def fx_Mo_looseField_b60 (k4 : tx_St → Int32 → Int32 → Int32 → Option (Int32 × tx_St)) (σ : tx_St) (x1 : Int32) (x3 : Int32) : Option (Int32 × tx_St) := fx_Mo_looseField_b61 (k4) σ x1 x3 (0 : Int32)
def fx_Mo_looseField_b4 : Nat → tx_St → Int32 → Int32 → Int32 → Option (Int32 × tx_St)
  | 0, _, _, _, _ => none
  | n + 1, σ, x1, x2, x3 => (if (σ 45 0) ≤ x3 then tx_rz x2 σ else tx_ci (fx_Mo_owns σ x3 x1) fun r3 σ2 => (if r3 = 0 then fx_Mo_looseField_b95 (fx_Mo_looseField_b4 n) σ2 x1 x2 x3 else (if x2 = 0 then tx_ci (fx_Mo_immutable σ2 ((2 : Int32) + x3)) fun r7 σ6 => (if r7 = 0 then fx_Mo_looseField_b60 (fx_Mo_looseField_b4 n) σ6 x1 x3 else tx_ci (fx_Mo_isFinal σ6 x1) fun r10 σ9 => (if r10 = 0 then fx_Mo_looseField_b56 (fx_Mo_looseField_b4 n) σ9 x1 x3 else tx_rd σ9 50 12 x1 fun v12 => tx_ci (fx_Mo_immutable σ9 v12) fun r14 σ13 => (if r14 = 0 then fx_Mo_looseField_b56 (fx_Mo_looseField_b4 n) σ13 x1 x3 else fx_Mo_looseField_b60 (fx_Mo_looseField_b4 n) σ13 x1 x3))) else fx_Mo_looseField_b56 (fx_Mo_looseField_b4 n) σ2 x1 x3)))
def fx_Mo_looseField (σ : tx_St) (x1 : Int32) : Option (Int32 × tx_St) := fx_Mo_looseField_b4  tx_fu σ x1 (0 : Int32) (0 : Int32)
set_option maxRecDepth 100000 in
set_option maxHeartbeats 4000000 in
theorem fx_Mo_looseField_b95_w {l : Launch} {E : tx_E} (k4 : tx_St → Int32 → Int32 → Int32 → Option (Int32 × tx_St)) (j4 : ∀ (σ : tx_St) (x1 : Int32) (x2 : Int32) (x3 : Int32) (t : Int32 × tx_St), k4 σ x1 x2 x3 = some t → gx l E mi_Mo_looseField (some (.int t.1), t.2) σ [(0, .ref (E.1 45)), (1, .int x1), (2, .int x2), (3, .int x3)] 4 []) (σ : tx_St) (x1 : Int32) (x2 : Int32) (x3 : Int32) (t : Int32 × tx_St) (hT : fx_Mo_looseField_b95 k4 σ x1 x2 x3 = some t) : gx l E mi_Mo_looseField (some (.int t.1), t.2) σ [(0, .ref (E.1 45)), (1, .int x1), (2, .int x2), (3, .int x3)] 95 [] := by
  unfold fx_Mo_looseField_b95 at hT
  refine gx_iinc (pc := 95) (x3 + (1 : Int32)) 3 [(3, .int (x3 + (1 : Int32))), (0, .ref (E.1 45)), (1, .int x1), (2, .int x2)] d_Mo_looseField_95 rfl (tx_inc (by decide)) (Nat.le_of_ble_eq_true rfl) rfl ?_
  refine gx_goto (pc := 98) 4 d_Mo_looseField_98 rfl ?_
  refine gx_sub [1, 2, 3, 0] rfl ?_
  exact j4 σ x1 x2 (x3 + (1 : Int32)) _ hT
set_option maxRecDepth 100000 in
set_option maxHeartbeats 4000000 in
theorem fx_Mo_looseField_b94_w {l : Launch} {E : tx_E} (k4 : tx_St → Int32 → Int32 → Int32 → Option (Int32 × tx_St)) (j4 : ∀ (σ : tx_St) (x1 : Int32) (x2 : Int32) (x3 : Int32) (t : Int32 × tx_St), k4 σ x1 x2 x3 = some t → gx l E mi_Mo_looseField (some (.int t.1), t.2) σ [(0, .ref (E.1 45)), (1, .int x1), (2, .int x2), (3, .int x3)] 4 []) (σ : tx_St) (x1 : Int32) (x3 : Int32) (s0 : Int32) (t : Int32 × tx_St) (hT : fx_Mo_looseField_b94 k4 σ x1 x3 s0 = some t) : gx l E mi_Mo_looseField (some (.int t.1), t.2) σ [(0, .ref (E.1 45)), (1, .int x1), (3, .int x3)] 94 [.int s0] := by
  unfold fx_Mo_looseField_b94 at hT
  refine gx_istore_n (pc := 94) [(2, .int s0), (0, .ref (E.1 45)), (1, .int x1), (3, .int x3)] d_Mo_looseField_94 rfl (Nat.le_of_ble_eq_true rfl) rfl ?_
  refine gx_sub [1, 2, 0, 3] rfl ?_
  exact fx_Mo_looseField_b95_w (k4) (j4) σ x1 s0 x3 _ hT
set_option maxRecDepth 100000 in
set_option maxHeartbeats 4000000 in
theorem fx_Mo_looseField_b89_w {l : Launch} {E : tx_E} (k4 : tx_St → Int32 → Int32 → Int32 → Option (Int32 × tx_St)) (j4 : ∀ (σ : tx_St) (x1 : Int32) (x2 : Int32) (x3 : Int32) (t : Int32 × tx_St), k4 σ x1 x2 x3 = some t → gx l E mi_Mo_looseField (some (.int t.1), t.2) σ [(0, .ref (E.1 45)), (1, .int x1), (2, .int x2), (3, .int x3)] 4 []) (σ : tx_St) (x1 : Int32) (x3 : Int32) (t : Int32 × tx_St) (hT : fx_Mo_looseField_b89 k4 σ x1 x3 = some t) : gx l E mi_Mo_looseField (some (.int t.1), t.2) σ [(0, .ref (E.1 45)), (1, .int x1), (3, .int x3)] 89 [] := by
  unfold fx_Mo_looseField_b89 at hT
  refine gx_iconst (pc := 89) (1 : Int32) d_Mo_looseField_89 (by decide) ?_
  refine gx_goto (pc := 90) 94 d_Mo_looseField_90 rfl ?_
  exact fx_Mo_looseField_b94_w (k4) (j4) σ x1 x3 (1 : Int32) _ hT
set_option maxRecDepth 100000 in
set_option maxHeartbeats 4000000 in
theorem fx_Mo_looseField_b93_w {l : Launch} {E : tx_E} (k4 : tx_St → Int32 → Int32 → Int32 → Option (Int32 × tx_St)) (j4 : ∀ (σ : tx_St) (x1 : Int32) (x2 : Int32) (x3 : Int32) (t : Int32 × tx_St), k4 σ x1 x2 x3 = some t → gx l E mi_Mo_looseField (some (.int t.1), t.2) σ [(0, .ref (E.1 45)), (1, .int x1), (2, .int x2), (3, .int x3)] 4 []) (σ : tx_St) (x1 : Int32) (x3 : Int32) (t : Int32 × tx_St) (hT : fx_Mo_looseField_b93 k4 σ x1 x3 = some t) : gx l E mi_Mo_looseField (some (.int t.1), t.2) σ [(0, .ref (E.1 45)), (1, .int x1), (3, .int x3)] 93 [] := by
  unfold fx_Mo_looseField_b93 at hT
  refine gx_iconst (pc := 93) (0 : Int32) d_Mo_looseField_93 (by decide) ?_
  exact fx_Mo_looseField_b94_w (k4) (j4) σ x1 x3 (0 : Int32) _ hT
set_option maxRecDepth 100000 in
set_option maxHeartbeats 4000000 in
theorem fx_Mo_looseField_b61_w {l : Launch} {E : tx_E} (k4 : tx_St → Int32 → Int32 → Int32 → Option (Int32 × tx_St)) (j4 : ∀ (σ : tx_St) (x1 : Int32) (x2 : Int32) (x3 : Int32) (t : Int32 × tx_St), k4 σ x1 x2 x3 = some t → gx l E mi_Mo_looseField (some (.int t.1), t.2) σ [(0, .ref (E.1 45)), (1, .int x1), (2, .int x2), (3, .int x3)] 4 []) (σ : tx_St) (x1 : Int32) (x3 : Int32) (s0 : Int32) (t : Int32 × tx_St) (hT : fx_Mo_looseField_b61 k4 σ x1 x3 s0 = some t) : gx l E mi_Mo_looseField (some (.int t.1), t.2) σ [(0, .ref (E.1 45)), (1, .int x1), (3, .int x3)] 61 [.int s0] := by
  unfold fx_Mo_looseField_b61 at hT
  refine gx_istore_n (pc := 61) [(2, .int s0), (0, .ref (E.1 45)), (1, .int x1), (3, .int x3)] d_Mo_looseField_61 rfl (Nat.le_of_ble_eq_true rfl) rfl ?_
  refine gx_iload_n (pc := 62) 0 d_Mo_looseField_62 rfl rfl ?_
  refine gx_if_ne (pc := 63) 89 d_Mo_looseField_63 rfl (fun h16 => ?_) (fun h16 => ?_)
  · have hT := tx_ifn h16 hT
    refine gx_sub [1, 2, 3] rfl ?_
    exact fx_Mo_looseField_b89_w (k4) (j4) σ x1 x3 _ hT
  · have hT := tx_ifp h16 hT
    refine gx_aload_n (pc := 66) 1 d_Mo_looseField_66 rfl rfl ?_
    refine gx_iconst (pc := 67) (2 : Int32) d_Mo_looseField_67 (by decide) ?_
    refine gx_iload_n (pc := 68) 3 d_Mo_looseField_68 rfl rfl ?_
    refine gx_iadd (pc := 69) d_Mo_looseField_69 ?_
    obtain ⟨r18, σ17, cσ17, hT⟩ := tx_ci_some hT
    refine gx_callV (pc := 70) (As := [.int ((2 : Int32) + x3)]) (rest := []) cm_Mo_powerless lk_Mo_185 (fx_Mo_powerless_c l E σ ((2 : Int32) + x3) _ cσ17) (rfl) (by decide) rfl rfl tx_fi_Mo_looseField_Mo_powerless (Nat.le_of_ble_eq_true rfl) d_Mo_looseField_70 ?_
    change gx l E mi_Mo_looseField _ σ17 [(2, .int s0), (0, .ref (E.1 45)), (1, .int x1), (3, .int x3)] 73 [.int r18]
    refine gx_if_eq (pc := 73) 93 d_Mo_looseField_73 rfl (fun h19 => ?_) (fun h19 => ?_)
    · have hT := tx_ifp h19 hT
      refine gx_sub [1, 2, 3] rfl ?_
      exact fx_Mo_looseField_b93_w (k4) (j4) σ17 x1 x3 _ hT
    · have hT := tx_ifn h19 hT
      refine gx_aload_n (pc := 76) 1 d_Mo_looseField_76 rfl rfl ?_
      refine gx_aload_n (pc := 77) 1 d_Mo_looseField_77 rfl rfl ?_
      refine gx_getR (pc := 78) 50 fl_Mo_22 d_Mo_looseField_78 (rfl) (by decide) rfl ?_
      refine gx_iload_n (pc := 81) 2 d_Mo_looseField_81 rfl rfl ?_
      obtain ⟨v20, gv20, iv20, hT⟩ := tx_rd_some hT
      refine gx_iald (pc := 82) v20 d_Mo_looseField_82 (rfl) iv20 gv20 ?_
      obtain ⟨r22, σ21, cσ21, hT⟩ := tx_ci_some hT
      refine gx_callV (pc := 83) (As := [.int v20]) (rest := []) cm_Mo_powerless lk_Mo_185 (fx_Mo_powerless_c l E σ17 v20 _ cσ21) (rfl) (by decide) rfl rfl tx_fi_Mo_looseField_Mo_powerless (Nat.le_of_ble_eq_true rfl) d_Mo_looseField_83 ?_
      change gx l E mi_Mo_looseField _ σ21 [(2, .int s0), (0, .ref (E.1 45)), (1, .int x1), (3, .int x3)] 86 [.int r22]
      refine gx_if_ne (pc := 86) 93 d_Mo_looseField_86 rfl (fun h23 => ?_) (fun h23 => ?_)
      · have hT := tx_ifn h23 hT
        refine gx_sub [1, 2, 3] rfl ?_
        exact fx_Mo_looseField_b93_w (k4) (j4) σ21 x1 x3 _ hT
      · have hT := tx_ifp h23 hT
        refine gx_sub [1, 2, 3] rfl ?_
        exact fx_Mo_looseField_b89_w (k4) (j4) σ21 x1 x3 _ hT
set_option maxRecDepth 100000 in
set_option maxHeartbeats 4000000 in
theorem fx_Mo_looseField_b56_w {l : Launch} {E : tx_E} (k4 : tx_St → Int32 → Int32 → Int32 → Option (Int32 × tx_St)) (j4 : ∀ (σ : tx_St) (x1 : Int32) (x2 : Int32) (x3 : Int32) (t : Int32 × tx_St), k4 σ x1 x2 x3 = some t → gx l E mi_Mo_looseField (some (.int t.1), t.2) σ [(0, .ref (E.1 45)), (1, .int x1), (2, .int x2), (3, .int x3)] 4 []) (σ : tx_St) (x1 : Int32) (x3 : Int32) (t : Int32 × tx_St) (hT : fx_Mo_looseField_b56 k4 σ x1 x3 = some t) : gx l E mi_Mo_looseField (some (.int t.1), t.2) σ [(0, .ref (E.1 45)), (1, .int x1), (3, .int x3)] 56 [] := by
  unfold fx_Mo_looseField_b56 at hT
  refine gx_iconst (pc := 56) (1 : Int32) d_Mo_looseField_56 (by decide) ?_
  refine gx_goto (pc := 57) 61 d_Mo_looseField_57 rfl ?_
  exact fx_Mo_looseField_b61_w (k4) (j4) σ x1 x3 (1 : Int32) _ hT
set_option maxRecDepth 100000 in
set_option maxHeartbeats 4000000 in
theorem fx_Mo_looseField_b60_w {l : Launch} {E : tx_E} (k4 : tx_St → Int32 → Int32 → Int32 → Option (Int32 × tx_St)) (j4 : ∀ (σ : tx_St) (x1 : Int32) (x2 : Int32) (x3 : Int32) (t : Int32 × tx_St), k4 σ x1 x2 x3 = some t → gx l E mi_Mo_looseField (some (.int t.1), t.2) σ [(0, .ref (E.1 45)), (1, .int x1), (2, .int x2), (3, .int x3)] 4 []) (σ : tx_St) (x1 : Int32) (x3 : Int32) (t : Int32 × tx_St) (hT : fx_Mo_looseField_b60 k4 σ x1 x3 = some t) : gx l E mi_Mo_looseField (some (.int t.1), t.2) σ [(0, .ref (E.1 45)), (1, .int x1), (3, .int x3)] 60 [] := by
  unfold fx_Mo_looseField_b60 at hT
  refine gx_iconst (pc := 60) (0 : Int32) d_Mo_looseField_60 (by decide) ?_
  exact fx_Mo_looseField_b61_w (k4) (j4) σ x1 x3 (0 : Int32) _ hT
set_option maxRecDepth 100000 in
set_option maxHeartbeats 4000000 in
theorem fx_Mo_looseField_b4_w {l : Launch} {E : tx_E} : ∀ (n : Nat) (σ : tx_St) (x1 : Int32) (x2 : Int32) (x3 : Int32) (t : Int32 × tx_St), fx_Mo_looseField_b4 n σ x1 x2 x3 = some t → gx l E mi_Mo_looseField (some (.int t.1), t.2) σ [(0, .ref (E.1 45)), (1, .int x1), (2, .int x2), (3, .int x3)] 4 [] := by
  intro n
  induction n with
  | zero => intro σ x1 x2 x3 t hT; cases hT
  | succ n ih =>
    intro σ x1 x2 x3 t hT
    rw [fx_Mo_looseField_b4] at hT
    refine gx_iload_n (pc := 4) 3 d_Mo_looseField_4 rfl rfl ?_
    refine gx_aload_n (pc := 5) 0 d_Mo_looseField_5 rfl rfl ?_
    refine gx_getI (pc := 6) (σ 45 0) fl_Mo_84 d_Mo_looseField_6 (rfl) (by decide) rfl rfl ?_
    refine gx_icmp_ge (pc := 9) 101 d_Mo_looseField_9 rfl (fun h1 => ?_) (fun h1 => ?_)
    · have hT := tx_ifp h1 hT
      refine gx_iload_n (pc := 101) 2 d_Mo_looseField_101 rfl rfl ?_
      obtain ⟨hz, hT⟩ := tx_rz_some hT
      cases hT
      exact gx_zret (pc := 102) d_Mo_looseField_102 rfl hz rfl
    · have hT := tx_ifn h1 hT
      refine gx_aload_n (pc := 12) 0 d_Mo_looseField_12 rfl rfl ?_
      refine gx_iload_n (pc := 13) 3 d_Mo_looseField_13 rfl rfl ?_
      refine gx_iload_n (pc := 14) 1 d_Mo_looseField_14 rfl rfl ?_
      obtain ⟨r3, σ2, cσ2, hT⟩ := tx_ci_some hT
      refine gx_callV (pc := 15) (As := [.int x3, .int x1]) (rest := []) cm_Mo_owns lk_Mo_140 (fx_Mo_owns_c l E σ x3 x1 _ cσ2) (rfl) (by decide) rfl rfl tx_fi_Mo_looseField_Mo_owns (Nat.le_of_ble_eq_true rfl) d_Mo_looseField_15 ?_
      change gx l E mi_Mo_looseField _ σ2 [(0, .ref (E.1 45)), (1, .int x1), (2, .int x2), (3, .int x3)] 18 [.int r3]
      refine gx_if_eq (pc := 18) 95 d_Mo_looseField_18 rfl (fun h4 => ?_) (fun h4 => ?_)
      · have hT := tx_ifp h4 hT
        exact fx_Mo_looseField_b95_w (fx_Mo_looseField_b4 n) (ih) σ2 x1 x2 x3 _ hT
      · have hT := tx_ifn h4 hT
        refine gx_iload_n (pc := 21) 2 d_Mo_looseField_21 rfl rfl ?_
        refine gx_if_ne (pc := 22) 56 d_Mo_looseField_22 rfl (fun h5 => ?_) (fun h5 => ?_)
        · have hT := tx_ifn h5 hT
          refine gx_sub [0, 1, 3] rfl ?_
          exact fx_Mo_looseField_b56_w (fx_Mo_looseField_b4 n) (ih) σ2 x1 x3 _ hT
        · have hT := tx_ifp h5 hT
          refine gx_aload_n (pc := 25) 0 d_Mo_looseField_25 rfl rfl ?_
          refine gx_iconst (pc := 26) (2 : Int32) d_Mo_looseField_26 (by decide) ?_
          refine gx_iload_n (pc := 27) 3 d_Mo_looseField_27 rfl rfl ?_
          refine gx_iadd (pc := 28) d_Mo_looseField_28 ?_
          obtain ⟨r7, σ6, cσ6, hT⟩ := tx_ci_some hT
          refine gx_callV (pc := 29) (As := [.int ((2 : Int32) + x3)]) (rest := []) cm_Mo_immutable lk_Mo_188 (fx_Mo_immutable_c l E σ2 ((2 : Int32) + x3) _ cσ6) (rfl) (by decide) rfl rfl tx_fi_Mo_looseField_Mo_immutable (Nat.le_of_ble_eq_true rfl) d_Mo_looseField_29 ?_
          change gx l E mi_Mo_looseField _ σ6 [(0, .ref (E.1 45)), (1, .int x1), (2, .int x2), (3, .int x3)] 32 [.int r7]
          refine gx_if_eq (pc := 32) 60 d_Mo_looseField_32 rfl (fun h8 => ?_) (fun h8 => ?_)
          · have hT := tx_ifp h8 hT
            refine gx_sub [0, 1, 3] rfl ?_
            exact fx_Mo_looseField_b60_w (fx_Mo_looseField_b4 n) (ih) σ6 x1 x3 _ hT
          · have hT := tx_ifn h8 hT
            refine gx_aload_n (pc := 35) 0 d_Mo_looseField_35 rfl rfl ?_
            refine gx_iload_n (pc := 36) 1 d_Mo_looseField_36 rfl rfl ?_
            obtain ⟨r10, σ9, cσ9, hT⟩ := tx_ci_some hT
            refine gx_callV (pc := 37) (As := [.int x1]) (rest := []) cm_Mo_isFinal lk_Mo_182 (fx_Mo_isFinal_c l E σ6 x1 _ cσ9) (rfl) (by decide) rfl rfl tx_fi_Mo_looseField_Mo_isFinal (Nat.le_of_ble_eq_true rfl) d_Mo_looseField_37 ?_
            change gx l E mi_Mo_looseField _ σ9 [(0, .ref (E.1 45)), (1, .int x1), (2, .int x2), (3, .int x3)] 40 [.int r10]
            refine gx_if_eq (pc := 40) 56 d_Mo_looseField_40 rfl (fun h11 => ?_) (fun h11 => ?_)
            · have hT := tx_ifp h11 hT
              refine gx_sub [0, 1, 3] rfl ?_
              exact fx_Mo_looseField_b56_w (fx_Mo_looseField_b4 n) (ih) σ9 x1 x3 _ hT
            · have hT := tx_ifn h11 hT
              refine gx_aload_n (pc := 43) 0 d_Mo_looseField_43 rfl rfl ?_
              refine gx_aload_n (pc := 44) 0 d_Mo_looseField_44 rfl rfl ?_
              refine gx_getR (pc := 45) 50 fl_Mo_22 d_Mo_looseField_45 (rfl) (by decide) rfl ?_
              refine gx_iload_n (pc := 48) 1 d_Mo_looseField_48 rfl rfl ?_
              obtain ⟨v12, gv12, iv12, hT⟩ := tx_rd_some hT
              refine gx_iald (pc := 49) v12 d_Mo_looseField_49 (rfl) iv12 gv12 ?_
              obtain ⟨r14, σ13, cσ13, hT⟩ := tx_ci_some hT
              refine gx_callV (pc := 50) (As := [.int v12]) (rest := []) cm_Mo_immutable lk_Mo_188 (fx_Mo_immutable_c l E σ9 v12 _ cσ13) (rfl) (by decide) rfl rfl tx_fi_Mo_looseField_Mo_immutable (Nat.le_of_ble_eq_true rfl) d_Mo_looseField_50 ?_
              change gx l E mi_Mo_looseField _ σ13 [(0, .ref (E.1 45)), (1, .int x1), (2, .int x2), (3, .int x3)] 53 [.int r14]
              refine gx_if_ne (pc := 53) 60 d_Mo_looseField_53 rfl (fun h15 => ?_) (fun h15 => ?_)
              · have hT := tx_ifn h15 hT
                refine gx_sub [0, 1, 3] rfl ?_
                exact fx_Mo_looseField_b60_w (fx_Mo_looseField_b4 n) (ih) σ13 x1 x3 _ hT
              · have hT := tx_ifp h15 hT
                refine gx_sub [0, 1, 3] rfl ?_
                exact fx_Mo_looseField_b56_w (fx_Mo_looseField_b4 n) (ih) σ13 x1 x3 _ hT
set_option maxRecDepth 100000 in
set_option maxHeartbeats 4000000 in
theorem fx_Mo_looseField_c (l : Launch) (E : tx_E) (σ : tx_St) (x1 : Int32) (t : Int32 × tx_St) (hT : fx_Mo_looseField σ x1 = some t) : tx_MX l E y_Mo_looseField mi_Mo_looseField (some (.int t.1), t.2) [.ref (E.1 45), .int x1] σ := by
  refine tx_MX_of (by decide) rfl (Nat.le_of_ble_eq_true rfl) ?_
  show gx l E mi_Mo_looseField (some (.int t.1), t.2) σ [(0, .ref (E.1 45)), (1, .int x1)] 0 []
  unfold fx_Mo_looseField at hT
  refine gx_iconst (pc := 0) (0 : Int32) d_Mo_looseField_0 (by decide) ?_
  refine gx_istore_n (pc := 1) [(2, .int (0 : Int32)), (0, .ref (E.1 45)), (1, .int x1)] d_Mo_looseField_1 rfl (Nat.le_of_ble_eq_true rfl) rfl ?_
  refine gx_iconst (pc := 2) (0 : Int32) d_Mo_looseField_2 (by decide) ?_
  refine gx_istore_n (pc := 3) [(3, .int (0 : Int32)), (2, .int (0 : Int32)), (0, .ref (E.1 45)), (1, .int x1)] d_Mo_looseField_3 rfl (Nat.le_of_ble_eq_true rfl) rfl ?_
  refine gx_sub [2, 3, 1, 0] rfl ?_
  exact fx_Mo_looseField_b4_w  tx_fu σ x1 (0 : Int32) (0 : Int32) _ hT
