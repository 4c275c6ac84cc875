theorem d_Mo_refuses_0 : decode c_Mo_refuses 0 = .ok (.aload_n 0, 1) := by decide +kernel
theorem d_Mo_refuses_1 : decode c_Mo_refuses 1 = .ok (.getfield 94, 3) := by decide +kernel
theorem d_Mo_refuses_4 : decode c_Mo_refuses 4 = .ok (.ifCond .eq (20), 3) := by decide +kernel
theorem d_Mo_refuses_7 : decode c_Mo_refuses 7 = .ok (.aload_n 0, 1) := by decide +kernel
theorem d_Mo_refuses_8 : decode c_Mo_refuses 8 = .ok (.getfield 264, 3) := by decide +kernel
theorem d_Mo_refuses_11 : decode c_Mo_refuses 11 = .ok (.bipush (40), 2) := by decide +kernel
theorem d_Mo_refuses_13 : decode c_Mo_refuses 13 = .ok (.if_icmp .eq (11), 3) := by decide +kernel
theorem d_Mo_refuses_16 : decode c_Mo_refuses 16 = .ok (.aload_n 0, 1) := by decide +kernel
theorem d_Mo_refuses_17 : decode c_Mo_refuses 17 = .ok (.iload_n 1, 1) := by decide +kernel
theorem d_Mo_refuses_18 : decode c_Mo_refuses 18 = .ok (.invokevirtual 108, 3) := by decide +kernel
theorem d_Mo_refuses_21 : decode c_Mo_refuses 21 = .ok (.ifCond .ne (5), 3) := by decide +kernel
theorem d_Mo_refuses_24 : decode c_Mo_refuses 24 = .ok (.iconst (1), 1) := by decide +kernel
theorem d_Mo_refuses_25 : decode c_Mo_refuses 25 = .ok (.ireturn, 1) := by decide +kernel
theorem d_Mo_refuses_26 : decode c_Mo_refuses 26 = .ok (.aload_n 0, 1) := by decide +kernel
theorem d_Mo_refuses_27 : decode c_Mo_refuses 27 = .ok (.getfield 28, 3) := by decide +kernel
theorem d_Mo_refuses_30 : decode c_Mo_refuses 30 = .ok (.iload_n 1, 1) := by decide +kernel
theorem d_Mo_refuses_31 : decode c_Mo_refuses 31 = .ok (.iaload, 1) := by decide +kernel
theorem d_Mo_refuses_32 : decode c_Mo_refuses 32 = .ok (.ifCond .ne (53), 3) := by decide +kernel
theorem d_Mo_refuses_35 : decode c_Mo_refuses 35 = .ok (.aload_n 0, 1) := by decide +kernel
theorem d_Mo_refuses_36 : decode c_Mo_refuses 36 = .ok (.iload_n 2, 1) := by decide +kernel
theorem d_Mo_refuses_37 : decode c_Mo_refuses 37 = .ok (.invokevirtual 267, 3) := by decide +kernel
theorem d_Mo_refuses_40 : decode c_Mo_refuses 40 = .ok (.ifCond .ne (5), 3) := by decide +kernel
theorem d_Mo_refuses_43 : decode c_Mo_refuses 43 = .ok (.iconst (1), 1) := by decide +kernel
theorem d_Mo_refuses_44 : decode c_Mo_refuses 44 = .ok (.ireturn, 1) := by decide +kernel
theorem d_Mo_refuses_45 : decode c_Mo_refuses 45 = .ok (.aload_n 0, 1) := by decide +kernel
theorem d_Mo_refuses_46 : decode c_Mo_refuses 46 = .ok (.getfield 56, 3) := by decide +kernel
theorem d_Mo_refuses_49 : decode c_Mo_refuses 49 = .ok (.aload_n 0, 1) := by decide +kernel
theorem d_Mo_refuses_50 : decode c_Mo_refuses 50 = .ok (.getfield 62, 3) := by decide +kernel
theorem d_Mo_refuses_53 : decode c_Mo_refuses 53 = .ok (.iload_n 2, 1) := by decide +kernel
theorem d_Mo_refuses_54 : decode c_Mo_refuses 54 = .ok (.iaload, 1) := by decide +kernel
theorem d_Mo_refuses_55 : decode c_Mo_refuses 55 = .ok (.iconst (1), 1) := by decide +kernel
theorem d_Mo_refuses_56 : decode c_Mo_refuses 56 = .ok (.isub, 1) := by decide +kernel
theorem d_Mo_refuses_57 : decode c_Mo_refuses 57 = .ok (.iaload, 1) := by decide +kernel
theorem d_Mo_refuses_58 : decode c_Mo_refuses 58 = .ok (.istore 4, 2) := by decide +kernel
theorem d_Mo_refuses_60 : decode c_Mo_refuses 60 = .ok (.iload 4, 2) := by decide +kernel
theorem d_Mo_refuses_62 : decode c_Mo_refuses 62 = .ok (.iconst (2), 1) := by decide +kernel
theorem d_Mo_refuses_63 : decode c_Mo_refuses 63 = .ok (.if_icmp .lt (20), 3) := by decide +kernel
theorem d_Mo_refuses_66 : decode c_Mo_refuses 66 = .ok (.aload_n 0, 1) := by decide +kernel
theorem d_Mo_refuses_67 : decode c_Mo_refuses 67 = .ok (.iload 4, 2) := by decide +kernel
theorem d_Mo_refuses_69 : decode c_Mo_refuses 69 = .ok (.iconst (2), 1) := by decide +kernel
theorem d_Mo_refuses_70 : decode c_Mo_refuses 70 = .ok (.isub, 1) := by decide +kernel
theorem d_Mo_refuses_71 : decode c_Mo_refuses 71 = .ok (.aload_n 0, 1) := by decide +kernel
theorem d_Mo_refuses_72 : decode c_Mo_refuses 72 = .ok (.getfield 25, 3) := by decide +kernel
theorem d_Mo_refuses_75 : decode c_Mo_refuses 75 = .ok (.iload_n 1, 1) := by decide +kernel
theorem d_Mo_refuses_76 : decode c_Mo_refuses 76 = .ok (.iaload, 1) := by decide +kernel
theorem d_Mo_refuses_77 : decode c_Mo_refuses 77 = .ok (.invokevirtual 114, 3) := by decide +kernel
theorem d_Mo_refuses_80 : decode c_Mo_refuses 80 = .ok (.ifCond .ne (5), 3) := by decide +kernel
theorem d_Mo_refuses_83 : decode c_Mo_refuses 83 = .ok (.iconst (1), 1) := by decide +kernel
theorem d_Mo_refuses_84 : decode c_Mo_refuses 84 = .ok (.ireturn, 1) := by decide +kernel
theorem d_Mo_refuses_85 : decode c_Mo_refuses 85 = .ok (.aload_n 0, 1) := by decide +kernel
theorem d_Mo_refuses_86 : decode c_Mo_refuses 86 = .ok (.getfield 34, 3) := by decide +kernel
theorem d_Mo_refuses_89 : decode c_Mo_refuses 89 = .ok (.iload_n 1, 1) := by decide +kernel
theorem d_Mo_refuses_90 : decode c_Mo_refuses 90 = .ok (.iaload, 1) := by decide +kernel
theorem d_Mo_refuses_91 : decode c_Mo_refuses 91 = .ok (.iconst (1), 1) := by decide +kernel
theorem d_Mo_refuses_92 : decode c_Mo_refuses 92 = .ok (.if_icmp .lt (8), 3) := by decide +kernel
theorem d_Mo_refuses_95 : decode c_Mo_refuses 95 = .ok (.iload_n 3, 1) := by decide +kernel
theorem d_Mo_refuses_96 : decode c_Mo_refuses 96 = .ok (.iconst (-1), 1) := by decide +kernel
theorem d_Mo_refuses_97 : decode c_Mo_refuses 97 = .ok (.if_icmp .ne (5), 3) := by decide +kernel
theorem d_Mo_refuses_100 : decode c_Mo_refuses 100 = .ok (.iconst (0), 1) := by decide +kernel
theorem d_Mo_refuses_101 : decode c_Mo_refuses 101 = .ok (.ireturn, 1) := by decide +kernel
theorem d_Mo_refuses_102 : decode c_Mo_refuses 102 = .ok (.aload_n 0, 1) := by decide +kernel
theorem d_Mo_refuses_103 : decode c_Mo_refuses 103 = .ok (.iload_n 3, 1) := by decide +kernel
theorem d_Mo_refuses_104 : decode c_Mo_refuses 104 = .ok (.invokevirtual 267, 3) := by decide +kernel
theorem d_Mo_refuses_107 : decode c_Mo_refuses 107 = .ok (.ifCond .eq (29), 3) := by decide +kernel
theorem d_Mo_refuses_110 : decode c_Mo_refuses 110 = .ok (.aload_n 0, 1) := by decide +kernel
theorem d_Mo_refuses_111 : decode c_Mo_refuses 111 = .ok (.aload_n 0, 1) := by decide +kernel
theorem d_Mo_refuses_112 : decode c_Mo_refuses 112 = .ok (.getfield 56, 3) := by decide +kernel
theorem d_Mo_refuses_115 : decode c_Mo_refuses 115 = .ok (.aload_n 0, 1) := by decide +kernel
theorem d_Mo_refuses_116 : decode c_Mo_refuses 116 = .ok (.getfield 62, 3) := by decide +kernel
theorem d_Mo_refuses_119 : decode c_Mo_refuses 119 = .ok (.iload_n 3, 1) := by decide +kernel
theorem d_Mo_refuses_120 : decode c_Mo_refuses 120 = .ok (.iaload, 1) := by decide +kernel
theorem d_Mo_refuses_121 : decode c_Mo_refuses 121 = .ok (.iconst (1), 1) := by decide +kernel
theorem d_Mo_refuses_122 : decode c_Mo_refuses 122 = .ok (.isub, 1) := by decide +kernel
theorem d_Mo_refuses_123 : decode c_Mo_refuses 123 = .ok (.iaload, 1) := by decide +kernel
theorem d_Mo_refuses_124 : decode c_Mo_refuses 124 = .ok (.aload_n 0, 1) := by decide +kernel
theorem d_Mo_refuses_125 : decode c_Mo_refuses 125 = .ok (.getfield 34, 3) := by decide +kernel
theorem d_Mo_refuses_128 : decode c_Mo_refuses 128 = .ok (.iload_n 1, 1) := by decide +kernel
theorem d_Mo_refuses_129 : decode c_Mo_refuses 129 = .ok (.iaload, 1) := by decide +kernel
theorem d_Mo_refuses_130 : decode c_Mo_refuses 130 = .ok (.invokevirtual 131, 3) := by decide +kernel
theorem d_Mo_refuses_133 : decode c_Mo_refuses 133 = .ok (.ifCond .ne (7), 3) := by decide +kernel
theorem d_Mo_refuses_136 : decode c_Mo_refuses 136 = .ok (.iconst (1), 1) := by decide +kernel
theorem d_Mo_refuses_137 : decode c_Mo_refuses 137 = .ok (.goto (4), 3) := by decide +kernel
theorem d_Mo_refuses_140 : decode c_Mo_refuses 140 = .ok (.iconst (0), 1) := by decide +kernel
theorem d_Mo_refuses_141 : decode c_Mo_refuses 141 = .ok (.ireturn, 1) := by decide +kernel
def fx_Mo_refuses_b24 (σ : tx_St) : Option (Int32 × tx_St) := some ((1 : Int32), σ)
def fx_Mo_refuses_b100 (σ : tx_St) : Option (Int32 × tx_St) := some ((0 : Int32), σ)
def fx_Mo_refuses_b141 (σ : tx_St) (s0 : Int32) : Option (Int32 × tx_St) := tx_rz s0 σ
def fx_Mo_refuses_b136 (σ : tx_St) : Option (Int32 × tx_St) := fx_Mo_refuses_b141  σ (1 : Int32)
def fx_Mo_refuses_b85 (σ : tx_St) (x1 : Int32) (x3 : Int32) : Option (Int32 × tx_St) := tx_rd σ 54 8 x1 fun v18 => (if v18 < (1 : Int32) then fx_Mo_refuses_b100  σ else (if x3 = (-1 : Int32) then fx_Mo_refuses_b100  σ else tx_ci (fx_Mo_holds σ x3) fun r22 σ21 => (if r22 = 0 then fx_Mo_refuses_b136  σ21 else tx_rd σ21 63 16 x3 fun v24 => tx_rd σ21 61 320 (v24 - (1 : Int32)) fun v25 => tx_rd σ21 54 8 x1 fun v26 => tx_ci (fx_Mo_fits σ21 v25 v26) fun r28 σ27 => (if r28 = 0 then fx_Mo_refuses_b136  σ27 else fx_Mo_refuses_b141  σ27 (0 : Int32)))))
def fx_Mo_refuses_b83 (σ : tx_St) : Option (Int32 × tx_St) := some ((1 : Int32), σ)
def fx_Mo_refuses (σ : tx_St) (x1 : Int32) (x2 : Int32) (x3 : Int32) : Option (Int32 × tx_St) := (if (σ 45 16) = 0 then fx_Mo_refuses_b24  σ else (if (σ 45 25) = (40 : Int32) then fx_Mo_refuses_b24  σ else tx_ci (fx_Mo_isMethod σ x1) fun r4 σ3 => (if r4 = 0 then fx_Mo_refuses_b24  σ3 else tx_rd σ3 52 8 x1 fun v6 => (if v6 = 0 then tx_ci (fx_Mo_holds σ3 x2) fun r9 σ8 => (if r9 = 0 then some ((1 : Int32), σ8) else tx_rd σ8 63 16 x2 fun v11 => tx_rd σ8 61 320 (v11 - (1 : Int32)) fun v12 => (if v12 < (2 : Int32) then fx_Mo_refuses_b83  σ8 else tx_rd σ8 51 8 x1 fun v14 => tx_ci (fx_Mo_inLine σ8 (v12 - (2 : Int32)) v14) fun r16 σ15 => (if r16 = 0 then fx_Mo_refuses_b83  σ15 else fx_Mo_refuses_b85  σ15 x1 x3))) else fx_Mo_refuses_b85  σ3 x1 x3))))
set_option maxRecDepth 100000 in
set_option maxHeartbeats 4000000 in
theorem fx_Mo_refuses_b24_w {l : Launch} {E : tx_E} (σ : tx_St) (t : Int32 × tx_St) (hT : fx_Mo_refuses_b24 σ  = some t) : gx l E mi_Mo_refuses (some (.int t.1), t.2) σ [] 24 [] := by
  unfold fx_Mo_refuses_b24 at hT
  refine gx_iconst (pc := 24) (1 : Int32) d_Mo_refuses_24 (by decide) ?_
  cases hT
  exact gx_zret (pc := 25) d_Mo_refuses_25 rfl (by decide) rfl
set_option maxRecDepth 100000 in
set_option maxHeartbeats 4000000 in
theorem fx_Mo_refuses_b100_w {l : Launch} {E : tx_E} (σ : tx_St) (t : Int32 × tx_St) (hT : fx_Mo_refuses_b100 σ  = some t) : gx l E mi_Mo_refuses (some (.int t.1), t.2) σ [] 100 [] := by
  unfold fx_Mo_refuses_b100 at hT
  refine gx_iconst (pc := 100) (0 : Int32) d_Mo_refuses_100 (by decide) ?_
  cases hT
  exact gx_zret (pc := 101) d_Mo_refuses_101 rfl (by decide) rfl
set_option maxRecDepth 100000 in
set_option maxHeartbeats 4000000 in
theorem fx_Mo_refuses_b141_w {l : Launch} {E : tx_E} (σ : tx_St) (s0 : Int32) (t : Int32 × tx_St) (hT : fx_Mo_refuses_b141 σ s0 = some t) : gx l E mi_Mo_refuses (some (.int t.1), t.2) σ [] 141 [.int s0] := by
  unfold fx_Mo_refuses_b141 at hT
  obtain ⟨hz, hT⟩ := tx_rz_some hT
  cases hT
  exact gx_zret (pc := 141) d_Mo_refuses_141 rfl hz rfl
set_option maxRecDepth 100000 in
set_option maxHeartbeats 4000000 in
theorem fx_Mo_refuses_b136_w {l : Launch} {E : tx_E} (σ : tx_St) (t : Int32 × tx_St) (hT : fx_Mo_refuses_b136 σ  = some t) : gx l E mi_Mo_refuses (some (.int t.1), t.2) σ [] 136 [] := by
  unfold fx_Mo_refuses_b136 at hT
  refine gx_iconst (pc := 136) (1 : Int32) d_Mo_refuses_136 (by decide) ?_
  refine gx_goto (pc := 137) 141 d_Mo_refuses_137 rfl ?_
  exact fx_Mo_refuses_b141_w  σ (1 : Int32) _ hT
set_option maxRecDepth 100000 in
set_option maxHeartbeats 4000000 in
theorem fx_Mo_refuses_b85_w {l : Launch} {E : tx_E} (σ : tx_St) (x1 : Int32) (x3 : Int32) (t : Int32 × tx_St) (hT : fx_Mo_refuses_b85 σ x1 x3 = some t) : gx l E mi_Mo_refuses (some (.int t.1), t.2) σ [(0, .ref (E.1 45)), (1, .int x1), (3, .int x3)] 85 [] := by
  unfold fx_Mo_refuses_b85 at hT
  refine gx_aload_n (pc := 85) 0 d_Mo_refuses_85 rfl rfl ?_
  refine gx_getR (pc := 86) 54 fl_Mo_34 d_Mo_refuses_86 (rfl) (by decide) rfl ?_
  refine gx_iload_n (pc := 89) 1 d_Mo_refuses_89 rfl rfl ?_
  obtain ⟨v18, gv18, iv18, hT⟩ := tx_rd_some hT
  refine gx_iald (pc := 90) v18 d_Mo_refuses_90 (rfl) iv18 gv18 ?_
  refine gx_iconst (pc := 91) (1 : Int32) d_Mo_refuses_91 (by decide) ?_
  refine gx_icmp_lt (pc := 92) 100 d_Mo_refuses_92 rfl (fun h19 => ?_) (fun h19 => ?_)
  · have hT := tx_ifp h19 hT
    refine gx_sub [] rfl ?_
    exact fx_Mo_refuses_b100_w  σ _ hT
  · have hT := tx_ifn h19 hT
    refine gx_iload_n (pc := 95) 2 d_Mo_refuses_95 rfl rfl ?_
    refine gx_iconst (pc := 96) (-1 : Int32) d_Mo_refuses_96 (by decide) ?_
    refine gx_icmp_ne (pc := 97) 102 d_Mo_refuses_97 rfl (fun h20 => ?_) (fun h20 => ?_)
    · have hT := tx_ifn h20 hT
      refine gx_aload_n (pc := 102) 0 d_Mo_refuses_102 rfl rfl ?_
      refine gx_iload_n (pc := 103) 2 d_Mo_refuses_103 rfl rfl ?_
      obtain ⟨r22, σ21, cσ21, hT⟩ := tx_ci_some hT
      refine gx_callV (pc := 104) (As := [.int x3]) (rest := []) cm_Mo_holds lk_Mo_267 (fx_Mo_holds_c l E σ x3 _ cσ21) (rfl) (by decide) rfl rfl tx_fi_Mo_refuses_Mo_holds (Nat.le_of_ble_eq_true rfl) d_Mo_refuses_104 ?_
      change gx l E mi_Mo_refuses _ σ21 [(0, .ref (E.1 45)), (1, .int x1), (3, .int x3)] 107 [.int r22]
      refine gx_if_eq (pc := 107) 136 d_Mo_refuses_107 rfl (fun h23 => ?_) (fun h23 => ?_)
      · have hT := tx_ifp h23 hT
        refine gx_sub [] rfl ?_
        exact fx_Mo_refuses_b136_w  σ21 _ hT
      · have hT := tx_ifn h23 hT
        refine gx_aload_n (pc := 110) 0 d_Mo_refuses_110 rfl rfl ?_
        refine gx_aload_n (pc := 111) 0 d_Mo_refuses_111 rfl rfl ?_
        refine gx_getR (pc := 112) 61 fl_Mo_56 d_Mo_refuses_112 (rfl) (by decide) rfl ?_
        refine gx_aload_n (pc := 115) 0 d_Mo_refuses_115 rfl rfl ?_
        refine gx_getR (pc := 116) 63 fl_Mo_62 d_Mo_refuses_116 (rfl) (by decide) rfl ?_
        refine gx_iload_n (pc := 119) 2 d_Mo_refuses_119 rfl rfl ?_
        obtain ⟨v24, gv24, iv24, hT⟩ := tx_rd_some hT
        refine gx_iald (pc := 120) v24 d_Mo_refuses_120 (rfl) iv24 gv24 ?_
        refine gx_iconst (pc := 121) (1 : Int32) d_Mo_refuses_121 (by decide) ?_
        refine gx_isub (pc := 122) d_Mo_refuses_122 ?_
        obtain ⟨v25, gv25, iv25, hT⟩ := tx_rd_some hT
        refine gx_iald (pc := 123) v25 d_Mo_refuses_123 (rfl) iv25 gv25 ?_
        refine gx_aload_n (pc := 124) 0 d_Mo_refuses_124 rfl rfl ?_
        refine gx_getR (pc := 125) 54 fl_Mo_34 d_Mo_refuses_125 (rfl) (by decide) rfl ?_
        refine gx_iload_n (pc := 128) 1 d_Mo_refuses_128 rfl rfl ?_
        obtain ⟨v26, gv26, iv26, hT⟩ := tx_rd_some hT
        refine gx_iald (pc := 129) v26 d_Mo_refuses_129 (rfl) iv26 gv26 ?_
        obtain ⟨r28, σ27, cσ27, hT⟩ := tx_ci_some hT
        refine gx_callV (pc := 130) (As := [.int v25, .int v26]) (rest := []) cm_Mo_fits lk_Mo_131 (fx_Mo_fits_c l E σ21 v25 v26 _ cσ27) (rfl) (by decide) rfl rfl tx_fi_Mo_refuses_Mo_fits (Nat.le_of_ble_eq_true rfl) d_Mo_refuses_130 ?_
        change gx l E mi_Mo_refuses _ σ27 [(0, .ref (E.1 45)), (1, .int x1), (3, .int x3)] 133 [.int r28]
        refine gx_if_ne (pc := 133) 140 d_Mo_refuses_133 rfl (fun h29 => ?_) (fun h29 => ?_)
        · have hT := tx_ifn h29 hT
          refine gx_iconst (pc := 140) (0 : Int32) d_Mo_refuses_140 (by decide) ?_
          refine gx_sub [] rfl ?_
          exact fx_Mo_refuses_b141_w  σ27 (0 : Int32) _ hT
        · have hT := tx_ifp h29 hT
          refine gx_sub [] rfl ?_
          exact fx_Mo_refuses_b136_w  σ27 _ hT
    · have hT := tx_ifp h20 hT
      refine gx_sub [] rfl ?_
      exact fx_Mo_refuses_b100_w  σ _ hT
set_option maxRecDepth 100000 in
set_option maxHeartbeats 4000000 in
theorem fx_Mo_refuses_b83_w {l : Launch} {E : tx_E} (σ : tx_St) (t : Int32 × tx_St) (hT : fx_Mo_refuses_b83 σ  = some t) : gx l E mi_Mo_refuses (some (.int t.1), t.2) σ [] 83 [] := by
  unfold fx_Mo_refuses_b83 at hT
  refine gx_iconst (pc := 83) (1 : Int32) d_Mo_refuses_83 (by decide) ?_
  cases hT
  exact gx_zret (pc := 84) d_Mo_refuses_84 rfl (by decide) rfl
set_option maxRecDepth 100000 in
set_option maxHeartbeats 4000000 in
theorem fx_Mo_refuses_c (l : Launch) (E : tx_E) (σ : tx_St) (x1 : Int32) (x2 : Int32) (x3 : Int32) (t : Int32 × tx_St) (hT : fx_Mo_refuses σ x1 x2 x3 = some t) : tx_MX l E y_Mo_refuses mi_Mo_refuses (some (.int t.1), t.2) [.ref (E.1 45), .int x1, .int x2, .int x3] σ := by
  refine tx_MX_of (by decide) rfl (Nat.le_of_ble_eq_true rfl) ?_
  show gx l E mi_Mo_refuses (some (.int t.1), t.2) σ [(0, .ref (E.1 45)), (1, .int x1), (2, .int x2), (3, .int x3)] 0 []
  unfold fx_Mo_refuses at hT
  refine gx_aload_n (pc := 0) 0 d_Mo_refuses_0 rfl rfl ?_
  refine gx_getI (pc := 1) (σ 45 16) fl_Mo_94 d_Mo_refuses_1 (rfl) (by decide) rfl rfl ?_
  refine gx_if_eq (pc := 4) 24 d_Mo_refuses_4 rfl (fun h1 => ?_) (fun h1 => ?_)
  · have hT := tx_ifp h1 hT
    refine gx_sub [] rfl ?_
    exact fx_Mo_refuses_b24_w  σ _ hT
  · have hT := tx_ifn h1 hT
    refine gx_aload_n (pc := 7) 0 d_Mo_refuses_7 rfl rfl ?_
    refine gx_getI (pc := 8) (σ 45 25) fl_Mo_264 d_Mo_refuses_8 (rfl) (by decide) rfl rfl ?_
    refine gx_bipush (pc := 11) (40 : Int32) d_Mo_refuses_11 (by decide) ?_
    refine gx_icmp_eq (pc := 13) 24 d_Mo_refuses_13 rfl (fun h2 => ?_) (fun h2 => ?_)
    · have hT := tx_ifp h2 hT
      refine gx_sub [] rfl ?_
      exact fx_Mo_refuses_b24_w  σ _ hT
    · have hT := tx_ifn h2 hT
      refine gx_aload_n (pc := 16) 0 d_Mo_refuses_16 rfl rfl ?_
      refine gx_iload_n (pc := 17) 1 d_Mo_refuses_17 rfl rfl ?_
      obtain ⟨r4, σ3, cσ3, hT⟩ := tx_ci_some hT
      refine gx_callV (pc := 18) (As := [.int x1]) (rest := []) cm_Mo_isMethod lk_Mo_108 (fx_Mo_isMethod_c l E σ x1 _ cσ3) (rfl) (by decide) rfl rfl tx_fi_Mo_refuses_Mo_isMethod (Nat.le_of_ble_eq_true rfl) d_Mo_refuses_18 ?_
      change gx l E mi_Mo_refuses _ σ3 [(0, .ref (E.1 45)), (1, .int x1), (2, .int x2), (3, .int x3)] 21 [.int r4]
      refine gx_if_ne (pc := 21) 26 d_Mo_refuses_21 rfl (fun h5 => ?_) (fun h5 => ?_)
      · have hT := tx_ifn h5 hT
        refine gx_aload_n (pc := 26) 0 d_Mo_refuses_26 rfl rfl ?_
        refine gx_getR (pc := 27) 52 fl_Mo_28 d_Mo_refuses_27 (rfl) (by decide) rfl ?_
        refine gx_iload_n (pc := 30) 1 d_Mo_refuses_30 rfl rfl ?_
        obtain ⟨v6, gv6, iv6, hT⟩ := tx_rd_some hT
        refine gx_iald (pc := 31) v6 d_Mo_refuses_31 (rfl) iv6 gv6 ?_
        refine gx_if_ne (pc := 32) 85 d_Mo_refuses_32 rfl (fun h7 => ?_) (fun h7 => ?_)
        · have hT := tx_ifn h7 hT
          refine gx_sub [0, 1, 3] rfl ?_
          exact fx_Mo_refuses_b85_w  σ3 x1 x3 _ hT
        · have hT := tx_ifp h7 hT
          refine gx_aload_n (pc := 35) 0 d_Mo_refuses_35 rfl rfl ?_
          refine gx_iload_n (pc := 36) 2 d_Mo_refuses_36 rfl rfl ?_
          obtain ⟨r9, σ8, cσ8, hT⟩ := tx_ci_some hT
          refine gx_callV (pc := 37) (As := [.int x2]) (rest := []) cm_Mo_holds lk_Mo_267 (fx_Mo_holds_c l E σ3 x2 _ cσ8) (rfl) (by decide) rfl rfl tx_fi_Mo_refuses_Mo_holds (Nat.le_of_ble_eq_true rfl) d_Mo_refuses_37 ?_
          change gx l E mi_Mo_refuses _ σ8 [(0, .ref (E.1 45)), (1, .int x1), (2, .int x2), (3, .int x3)] 40 [.int r9]
          refine gx_if_ne (pc := 40) 45 d_Mo_refuses_40 rfl (fun h10 => ?_) (fun h10 => ?_)
          · have hT := tx_ifn h10 hT
            refine gx_aload_n (pc := 45) 0 d_Mo_refuses_45 rfl rfl ?_
            refine gx_getR (pc := 46) 61 fl_Mo_56 d_Mo_refuses_46 (rfl) (by decide) rfl ?_
            refine gx_aload_n (pc := 49) 0 d_Mo_refuses_49 rfl rfl ?_
            refine gx_getR (pc := 50) 63 fl_Mo_62 d_Mo_refuses_50 (rfl) (by decide) rfl ?_
            refine gx_iload_n (pc := 53) 2 d_Mo_refuses_53 rfl rfl ?_
            obtain ⟨v11, gv11, iv11, hT⟩ := tx_rd_some hT
            refine gx_iald (pc := 54) v11 d_Mo_refuses_54 (rfl) iv11 gv11 ?_
            refine gx_iconst (pc := 55) (1 : Int32) d_Mo_refuses_55 (by decide) ?_
            refine gx_isub (pc := 56) d_Mo_refuses_56 ?_
            obtain ⟨v12, gv12, iv12, hT⟩ := tx_rd_some hT
            refine gx_iald (pc := 57) v12 d_Mo_refuses_57 (rfl) iv12 gv12 ?_
            refine gx_istore (pc := 58) [(4, .int v12), (0, .ref (E.1 45)), (1, .int x1), (2, .int x2), (3, .int x3)] d_Mo_refuses_58 (Nat.le_of_ble_eq_true rfl) rfl ?_
            refine gx_iload (pc := 60) 0 d_Mo_refuses_60 rfl ?_
            refine gx_iconst (pc := 62) (2 : Int32) d_Mo_refuses_62 (by decide) ?_
            refine gx_icmp_lt (pc := 63) 83 d_Mo_refuses_63 rfl (fun h13 => ?_) (fun h13 => ?_)
            · have hT := tx_ifp h13 hT
              refine gx_sub [] rfl ?_
              exact fx_Mo_refuses_b83_w  σ8 _ hT
            · have hT := tx_ifn h13 hT
              refine gx_aload_n (pc := 66) 1 d_Mo_refuses_66 rfl rfl ?_
              refine gx_iload (pc := 67) 0 d_Mo_refuses_67 rfl ?_
              refine gx_iconst (pc := 69) (2 : Int32) d_Mo_refuses_69 (by decide) ?_
              refine gx_isub (pc := 70) d_Mo_refuses_70 ?_
              refine gx_aload_n (pc := 71) 1 d_Mo_refuses_71 rfl rfl ?_
              refine gx_getR (pc := 72) 51 fl_Mo_25 d_Mo_refuses_72 (rfl) (by decide) rfl ?_
              refine gx_iload_n (pc := 75) 2 d_Mo_refuses_75 rfl rfl ?_
              obtain ⟨v14, gv14, iv14, hT⟩ := tx_rd_some hT
              refine gx_iald (pc := 76) v14 d_Mo_refuses_76 (rfl) iv14 gv14 ?_
              obtain ⟨r16, σ15, cσ15, hT⟩ := tx_ci_some hT
              refine gx_callV (pc := 77) (As := [.int (v12 - (2 : Int32)), .int v14]) (rest := []) cm_Mo_inLine lk_Mo_114 (fx_Mo_inLine_c l E σ8 (v12 - (2 : Int32)) v14 _ cσ15) (rfl) (by decide) rfl rfl tx_fi_Mo_refuses_Mo_inLine (Nat.le_of_ble_eq_true rfl) d_Mo_refuses_77 ?_
              change gx l E mi_Mo_refuses _ σ15 [(4, .int v12), (0, .ref (E.1 45)), (1, .int x1), (2, .int x2), (3, .int x3)] 80 [.int r16]
              refine gx_if_ne (pc := 80) 85 d_Mo_refuses_80 rfl (fun h17 => ?_) (fun h17 => ?_)
              · have hT := tx_ifn h17 hT
                refine gx_sub [1, 2, 4] rfl ?_
                exact fx_Mo_refuses_b85_w  σ15 x1 x3 _ hT
              · have hT := tx_ifp h17 hT
                refine gx_sub [] rfl ?_
                exact fx_Mo_refuses_b83_w  σ15 _ hT
          · have hT := tx_ifp h10 hT
            refine gx_iconst (pc := 43) (1 : Int32) d_Mo_refuses_43 (by decide) ?_
            cases hT
            exact gx_zret (pc := 44) d_Mo_refuses_44 rfl (by decide) rfl
      · have hT := tx_ifp h5 hT
        refine gx_sub [] rfl ?_
        exact fx_Mo_refuses_b24_w  σ3 _ hT
theorem d_Mo_chosen_0 : decode c_Mo_chosen 0 = .ok (.aload_n 0, 1) := by decide +kernel
theorem d_Mo_chosen_1 : decode c_Mo_chosen 1 = .ok (.getfield 28, 3) := by decide +kernel
theorem d_Mo_chosen_4 : decode c_Mo_chosen 4 = .ok (.iload_n 1, 1) := by decide +kernel
theorem d_Mo_chosen_5 : decode c_Mo_chosen 5 = .ok (.iaload, 1) := by decide +kernel
theorem d_Mo_chosen_6 : decode c_Mo_chosen 6 = .ok (.iconst (1), 1) := by decide +kernel
theorem d_Mo_chosen_7 : decode c_Mo_chosen 7 = .ok (.if_icmp .ne (5), 3) := by decide +kernel
theorem d_Mo_chosen_10 : decode c_Mo_chosen 10 = .ok (.iload_n 1, 1) := by decide +kernel
theorem d_Mo_chosen_11 : decode c_Mo_chosen 11 = .ok (.ireturn, 1) := by decide +kernel
theorem d_Mo_chosen_12 : decode c_Mo_chosen 12 = .ok (.aload_n 0, 1) := by decide +kernel
theorem d_Mo_chosen_13 : decode c_Mo_chosen 13 = .ok (.getfield 56, 3) := by decide +kernel
theorem d_Mo_chosen_16 : decode c_Mo_chosen 16 = .ok (.iload_n 2, 1) := by decide +kernel
theorem d_Mo_chosen_17 : decode c_Mo_chosen 17 = .ok (.iconst (1), 1) := by decide +kernel
theorem d_Mo_chosen_18 : decode c_Mo_chosen 18 = .ok (.isub, 1) := by decide +kernel
theorem d_Mo_chosen_19 : decode c_Mo_chosen 19 = .ok (.iaload, 1) := by decide +kernel
theorem d_Mo_chosen_20 : decode c_Mo_chosen 20 = .ok (.iconst (2), 1) := by decide +kernel
theorem d_Mo_chosen_21 : decode c_Mo_chosen 21 = .ok (.isub, 1) := by decide +kernel
theorem d_Mo_chosen_22 : decode c_Mo_chosen 22 = .ok (.istore_n 3, 1) := by decide +kernel
theorem d_Mo_chosen_23 : decode c_Mo_chosen 23 = .ok (.iconst (-1), 1) := by decide +kernel
theorem d_Mo_chosen_24 : decode c_Mo_chosen 24 = .ok (.istore 4, 2) := by decide +kernel
theorem d_Mo_chosen_26 : decode c_Mo_chosen 26 = .ok (.iconst (0), 1) := by decide +kernel
theorem d_Mo_chosen_27 : decode c_Mo_chosen 27 = .ok (.istore 5, 2) := by decide +kernel
theorem d_Mo_chosen_29 : decode c_Mo_chosen 29 = .ok (.iload 5, 2) := by decide +kernel
theorem d_Mo_chosen_31 : decode c_Mo_chosen 31 = .ok (.bipush (8), 2) := by decide +kernel
theorem d_Mo_chosen_33 : decode c_Mo_chosen 33 = .ok (.if_icmp .ge (38), 3) := by decide +kernel
theorem d_Mo_chosen_36 : decode c_Mo_chosen 36 = .ok (.iload_n 3, 1) := by decide +kernel
theorem d_Mo_chosen_37 : decode c_Mo_chosen 37 = .ok (.ifCond .lt (34), 3) := by decide +kernel
theorem d_Mo_chosen_40 : decode c_Mo_chosen 40 = .ok (.iload 4, 2) := by decide +kernel
theorem d_Mo_chosen_42 : decode c_Mo_chosen 42 = .ok (.ifCond .ge (29), 3) := by decide +kernel
theorem d_Mo_chosen_45 : decode c_Mo_chosen 45 = .ok (.aload_n 0, 1) := by decide +kernel
theorem d_Mo_chosen_46 : decode c_Mo_chosen 46 = .ok (.iload_n 3, 1) := by decide +kernel
theorem d_Mo_chosen_47 : decode c_Mo_chosen 47 = .ok (.aload_n 0, 1) := by decide +kernel
theorem d_Mo_chosen_48 : decode c_Mo_chosen 48 = .ok (.getfield 31, 3) := by decide +kernel
theorem d_Mo_chosen_51 : decode c_Mo_chosen 51 = .ok (.iload_n 1, 1) := by decide +kernel
theorem d_Mo_chosen_52 : decode c_Mo_chosen 52 = .ok (.iaload, 1) := by decide +kernel
theorem d_Mo_chosen_53 : decode c_Mo_chosen 53 = .ok (.invokevirtual 104, 3) := by decide +kernel
theorem d_Mo_chosen_56 : decode c_Mo_chosen 56 = .ok (.istore 4, 2) := by decide +kernel
theorem d_Mo_chosen_58 : decode c_Mo_chosen 58 = .ok (.aload_n 0, 1) := by decide +kernel
theorem d_Mo_chosen_59 : decode c_Mo_chosen 59 = .ok (.getfield 7, 3) := by decide +kernel
theorem d_Mo_chosen_62 : decode c_Mo_chosen 62 = .ok (.iload_n 3, 1) := by decide +kernel
theorem d_Mo_chosen_63 : decode c_Mo_chosen 63 = .ok (.iaload, 1) := by decide +kernel
theorem d_Mo_chosen_64 : decode c_Mo_chosen 64 = .ok (.istore_n 3, 1) := by decide +kernel
theorem d_Mo_chosen_65 : decode c_Mo_chosen 65 = .ok (.iinc 5 (1), 3) := by decide +kernel
theorem d_Mo_chosen_68 : decode c_Mo_chosen 68 = .ok (.goto (-39), 3) := by decide +kernel
theorem d_Mo_chosen_71 : decode c_Mo_chosen 71 = .ok (.iload 4, 2) := by decide +kernel
theorem d_Mo_chosen_73 : decode c_Mo_chosen 73 = .ok (.ireturn, 1) := by decide +kernel
def fx_Mo_chosen_b71 (σ : tx_St) (x4 : Int32) : Option (Int32 × tx_St) := some (x4, σ)
def fx_Mo_chosen_b29 : Nat → tx_St → Int32 → Int32 → Int32 → Int32 → Option (Int32 × tx_St)
  | 0, _, _, _, _, _ => none
  | n + 1, σ, x1, x3, x4, x5 => (if (8 : Int32) ≤ x5 then fx_Mo_chosen_b71  σ x4 else (if x3 < 0 then fx_Mo_chosen_b71  σ x4 else (if 0 ≤ x4 then fx_Mo_chosen_b71  σ x4 else tx_rd σ 53 8 x1 fun v7 => tx_ci (fx_Mo_methodOf σ x3 v7) fun r9 σ8 => tx_rd σ8 46 8 x3 fun v10 => fx_Mo_chosen_b29 n σ8 x1 v10 r9 (x5 + (1 : Int32)))))
def fx_Mo_chosen (σ : tx_St) (x1 : Int32) (x2 : Int32) : Option (Int32 × tx_St) := tx_rd σ 52 8 x1 fun v1 => (if v1 = (1 : Int32) then some (x1, σ) else tx_rd σ 61 320 (x2 - (1 : Int32)) fun v3 => fx_Mo_chosen_b29  tx_fu σ x1 (v3 - (2 : Int32)) (-1 : Int32) (0 : Int32))
set_option maxRecDepth 100000 in
set_option maxHeartbeats 4000000 in
theorem fx_Mo_chosen_b71_w {l : Launch} {E : tx_E} (σ : tx_St) (x4 : Int32) (t : Int32 × tx_St) (hT : fx_Mo_chosen_b71 σ x4 = some t) : gx l E mi_Mo_chosen (some (.int t.1), t.2) σ [(4, .int x4)] 71 [] := by
  unfold fx_Mo_chosen_b71 at hT
  refine gx_iload (pc := 71) 0 d_Mo_chosen_71 rfl ?_
  cases hT
  exact gx_iret (pc := 73) d_Mo_chosen_73 rfl rfl
set_option maxRecDepth 100000 in
set_option maxHeartbeats 4000000 in
theorem fx_Mo_chosen_b29_w {l : Launch} {E : tx_E} : ∀ (n : Nat) (σ : tx_St) (x1 : Int32) (x3 : Int32) (x4 : Int32) (x5 : Int32) (t : Int32 × tx_St), fx_Mo_chosen_b29 n σ x1 x3 x4 x5 = some t → gx l E mi_Mo_chosen (some (.int t.1), t.2) σ [(0, .ref (E.1 45)), (1, .int x1), (3, .int x3), (4, .int x4), (5, .int x5)] 29 [] := by
  intro n
  induction n with
  | zero => intro σ x1 x3 x4 x5 t hT; cases hT
  | succ n ih =>
    intro σ x1 x3 x4 x5 t hT
    rw [fx_Mo_chosen_b29] at hT
    refine gx_iload (pc := 29) 4 d_Mo_chosen_29 rfl ?_
    refine gx_bipush (pc := 31) (8 : Int32) d_Mo_chosen_31 (by decide) ?_
    refine gx_icmp_ge (pc := 33) 71 d_Mo_chosen_33 rfl (fun h4 => ?_) (fun h4 => ?_)
    · have hT := tx_ifp h4 hT
      refine gx_sub [3] rfl ?_
      exact fx_Mo_chosen_b71_w  σ x4 _ hT
    · have hT := tx_ifn h4 hT
      refine gx_iload_n (pc := 36) 2 d_Mo_chosen_36 rfl rfl ?_
      refine gx_if_lt (pc := 37) 71 d_Mo_chosen_37 rfl (fun h5 => ?_) (fun h5 => ?_)
      · have hT := tx_ifp h5 hT
        refine gx_sub [3] rfl ?_
        exact fx_Mo_chosen_b71_w  σ x4 _ hT
      · have hT := tx_ifn h5 hT
        refine gx_iload (pc := 40) 3 d_Mo_chosen_40 rfl ?_
        refine gx_if_ge (pc := 42) 71 d_Mo_chosen_42 rfl (fun h6 => ?_) (fun h6 => ?_)
        · have hT := tx_ifp h6 hT
          refine gx_sub [3] rfl ?_
          exact fx_Mo_chosen_b71_w  σ x4 _ hT
        · have hT := tx_ifn h6 hT
          refine gx_aload_n (pc := 45) 0 d_Mo_chosen_45 rfl rfl ?_
          refine gx_iload_n (pc := 46) 2 d_Mo_chosen_46 rfl rfl ?_
          refine gx_aload_n (pc := 47) 0 d_Mo_chosen_47 rfl rfl ?_
          refine gx_getR (pc := 48) 53 fl_Mo_31 d_Mo_chosen_48 (rfl) (by decide) rfl ?_
          refine gx_iload_n (pc := 51) 1 d_Mo_chosen_51 rfl rfl ?_
          obtain ⟨v7, gv7, iv7, hT⟩ := tx_rd_some hT
          refine gx_iald (pc := 52) v7 d_Mo_chosen_52 (rfl) iv7 gv7 ?_
          obtain ⟨r9, σ8, cσ8, hT⟩ := tx_ci_some hT
          refine gx_callV (pc := 53) (As := [.int x3, .int v7]) (rest := []) cm_Mo_methodOf lk_Mo_104 (fx_Mo_methodOf_c l E σ x3 v7 _ cσ8) (rfl) (by decide) rfl rfl tx_fi_Mo_chosen_Mo_methodOf (Nat.le_of_ble_eq_true rfl) d_Mo_chosen_53 ?_
          change gx l E mi_Mo_chosen _ σ8 [(0, .ref (E.1 45)), (1, .int x1), (3, .int x3), (4, .int x4), (5, .int x5)] 56 [.int r9]
          refine gx_istore (pc := 56) [(4, .int r9), (0, .ref (E.1 45)), (1, .int x1), (3, .int x3), (5, .int x5)] d_Mo_chosen_56 (Nat.le_of_ble_eq_true rfl) rfl ?_
          refine gx_aload_n (pc := 58) 1 d_Mo_chosen_58 rfl rfl ?_
          refine gx_getR (pc := 59) 46 fl_Mo_7 d_Mo_chosen_59 (rfl) (by decide) rfl ?_
          refine gx_iload_n (pc := 62) 3 d_Mo_chosen_62 rfl rfl ?_
          obtain ⟨v10, gv10, iv10, hT⟩ := tx_rd_some hT
          refine gx_iald (pc := 63) v10 d_Mo_chosen_63 (rfl) iv10 gv10 ?_
          refine gx_istore_n (pc := 64) [(3, .int v10), (4, .int r9), (0, .ref (E.1 45)), (1, .int x1), (5, .int x5)] d_Mo_chosen_64 rfl (Nat.le_of_ble_eq_true rfl) rfl ?_
          refine gx_iinc (pc := 65) (x5 + (1 : Int32)) 4 [(5, .int (x5 + (1 : Int32))), (3, .int v10), (4, .int r9), (0, .ref (E.1 45)), (1, .int x1)] d_Mo_chosen_65 rfl (tx_inc (by decide)) (Nat.le_of_ble_eq_true rfl) rfl ?_
          refine gx_goto (pc := 68) 29 d_Mo_chosen_68 rfl ?_
          refine gx_sub [3, 4, 1, 2, 0] rfl ?_
          exact ih σ8 x1 v10 r9 (x5 + (1 : Int32)) _ hT
set_option maxRecDepth 100000 in
set_option maxHeartbeats 4000000 in
theorem fx_Mo_chosen_c (l : Launch) (E : tx_E) (σ : tx_St) (x1 : Int32) (x2 : Int32) (t : Int32 × tx_St) (hT : fx_Mo_chosen σ x1 x2 = some t) : tx_MX l E y_Mo_chosen mi_Mo_chosen (some (.int t.1), t.2) [.ref (E.1 45), .int x1, .int x2] σ := by
  refine tx_MX_of (by decide) rfl (Nat.le_of_ble_eq_true rfl) ?_
  show gx l E mi_Mo_chosen (some (.int t.1), t.2) σ [(0, .ref (E.1 45)), (1, .int x1), (2, .int x2)] 0 []
  unfold fx_Mo_chosen at hT
  refine gx_aload_n (pc := 0) 0 d_Mo_chosen_0 rfl rfl ?_
  refine gx_getR (pc := 1) 52 fl_Mo_28 d_Mo_chosen_1 (rfl) (by decide) rfl ?_
  refine gx_iload_n (pc := 4) 1 d_Mo_chosen_4 rfl rfl ?_
  obtain ⟨v1, gv1, iv1, hT⟩ := tx_rd_some hT
  refine gx_iald (pc := 5) v1 d_Mo_chosen_5 (rfl) iv1 gv1 ?_
  refine gx_iconst (pc := 6) (1 : Int32) d_Mo_chosen_6 (by decide) ?_
  refine gx_icmp_ne (pc := 7) 12 d_Mo_chosen_7 rfl (fun h2 => ?_) (fun h2 => ?_)
  · have hT := tx_ifn h2 hT
    refine gx_aload_n (pc := 12) 0 d_Mo_chosen_12 rfl rfl ?_
    refine gx_getR (pc := 13) 61 fl_Mo_56 d_Mo_chosen_13 (rfl) (by decide) rfl ?_
    refine gx_iload_n (pc := 16) 2 d_Mo_chosen_16 rfl rfl ?_
    refine gx_iconst (pc := 17) (1 : Int32) d_Mo_chosen_17 (by decide) ?_
    refine gx_isub (pc := 18) d_Mo_chosen_18 ?_
    obtain ⟨v3, gv3, iv3, hT⟩ := tx_rd_some hT
    refine gx_iald (pc := 19) v3 d_Mo_chosen_19 (rfl) iv3 gv3 ?_
    refine gx_iconst (pc := 20) (2 : Int32) d_Mo_chosen_20 (by decide) ?_
    refine gx_isub (pc := 21) d_Mo_chosen_21 ?_
    refine gx_istore_n (pc := 22) [(3, .int (v3 - (2 : Int32))), (0, .ref (E.1 45)), (1, .int x1), (2, .int x2)] d_Mo_chosen_22 rfl (Nat.le_of_ble_eq_true rfl) rfl ?_
    refine gx_iconst (pc := 23) (-1 : Int32) d_Mo_chosen_23 (by decide) ?_
    refine gx_istore (pc := 24) [(4, .int (-1 : Int32)), (3, .int (v3 - (2 : Int32))), (0, .ref (E.1 45)), (1, .int x1), (2, .int x2)] d_Mo_chosen_24 (Nat.le_of_ble_eq_true rfl) rfl ?_
    refine gx_iconst (pc := 26) (0 : Int32) d_Mo_chosen_26 (by decide) ?_
    refine gx_istore (pc := 27) [(5, .int (0 : Int32)), (4, .int (-1 : Int32)), (3, .int (v3 - (2 : Int32))), (0, .ref (E.1 45)), (1, .int x1), (2, .int x2)] d_Mo_chosen_27 (Nat.le_of_ble_eq_true rfl) rfl ?_
    refine gx_sub [3, 4, 2, 1, 0] rfl ?_
    exact fx_Mo_chosen_b29_w  tx_fu σ x1 (v3 - (2 : Int32)) (-1 : Int32) (0 : Int32) _ hT
  · have hT := tx_ifp h2 hT
    refine gx_iload_n (pc := 10) 1 d_Mo_chosen_10 rfl rfl ?_
    cases hT
    exact gx_iret (pc := 11) d_Mo_chosen_11 rfl rfl
theorem d_Mo_enter_0 : decode c_Mo_enter 0 = .ok (.aload_n 0, 1) := by decide +kernel
theorem d_Mo_enter_1 : decode c_Mo_enter 1 = .ok (.getfield 28, 3) := by decide +kernel
theorem d_Mo_enter_4 : decode c_Mo_enter 4 = .ok (.iload_n 1, 1) := by decide +kernel
theorem d_Mo_enter_5 : decode c_Mo_enter 5 = .ok (.iaload, 1) := by decide +kernel
theorem d_Mo_enter_6 : decode c_Mo_enter 6 = .ok (.ifCond .ne (7), 3) := by decide +kernel
theorem d_Mo_enter_9 : decode c_Mo_enter 9 = .ok (.iconst (1), 1) := by decide +kernel
theorem d_Mo_enter_10 : decode c_Mo_enter 10 = .ok (.goto (4), 3) := by decide +kernel
theorem d_Mo_enter_13 : decode c_Mo_enter 13 = .ok (.iconst (0), 1) := by decide +kernel
theorem d_Mo_enter_14 : decode c_Mo_enter 14 = .ok (.istore 4, 2) := by decide +kernel
theorem d_Mo_enter_16 : decode c_Mo_enter 16 = .ok (.aload_n 0, 1) := by decide +kernel
theorem d_Mo_enter_17 : decode c_Mo_enter 17 = .ok (.getfield 69, 3) := by decide +kernel
theorem d_Mo_enter_20 : decode c_Mo_enter 20 = .ok (.aload_n 0, 1) := by decide +kernel
theorem d_Mo_enter_21 : decode c_Mo_enter 21 = .ok (.getfield 210, 3) := by decide +kernel
theorem d_Mo_enter_24 : decode c_Mo_enter 24 = .ok (.iload_n 1, 1) := by decide +kernel
theorem d_Mo_enter_25 : decode c_Mo_enter 25 = .ok (.iastore, 1) := by decide +kernel
theorem d_Mo_enter_26 : decode c_Mo_enter 26 = .ok (.aload_n 0, 1) := by decide +kernel
theorem d_Mo_enter_27 : decode c_Mo_enter 27 = .ok (.getfield 72, 3) := by decide +kernel
theorem d_Mo_enter_30 : decode c_Mo_enter 30 = .ok (.aload_n 0, 1) := by decide +kernel
theorem d_Mo_enter_31 : decode c_Mo_enter 31 = .ok (.getfield 210, 3) := by decide +kernel
theorem d_Mo_enter_34 : decode c_Mo_enter 34 = .ok (.iconst (0), 1) := by decide +kernel
theorem d_Mo_enter_35 : decode c_Mo_enter 35 = .ok (.iastore, 1) := by decide +kernel
theorem d_Mo_enter_36 : decode c_Mo_enter 36 = .ok (.aload_n 0, 1) := by decide +kernel
theorem d_Mo_enter_37 : decode c_Mo_enter 37 = .ok (.getfield 75, 3) := by decide +kernel
theorem d_Mo_enter_40 : decode c_Mo_enter 40 = .ok (.aload_n 0, 1) := by decide +kernel
theorem d_Mo_enter_41 : decode c_Mo_enter 41 = .ok (.getfield 210, 3) := by decide +kernel
theorem d_Mo_enter_44 : decode c_Mo_enter 44 = .ok (.iconst (0), 1) := by decide +kernel
theorem d_Mo_enter_45 : decode c_Mo_enter 45 = .ok (.iastore, 1) := by decide +kernel
theorem d_Mo_enter_46 : decode c_Mo_enter 46 = .ok (.aload_n 0, 1) := by decide +kernel
theorem d_Mo_enter_47 : decode c_Mo_enter 47 = .ok (.getfield 81, 3) := by decide +kernel
theorem d_Mo_enter_50 : decode c_Mo_enter 50 = .ok (.iconst (3), 1) := by decide +kernel
theorem d_Mo_enter_51 : decode c_Mo_enter 51 = .ok (.aload_n 0, 1) := by decide +kernel
theorem d_Mo_enter_52 : decode c_Mo_enter 52 = .ok (.getfield 210, 3) := by decide +kernel
theorem d_Mo_enter_55 : decode c_Mo_enter 55 = .ok (.imul, 1) := by decide +kernel
theorem d_Mo_enter_56 : decode c_Mo_enter 56 = .ok (.iload 4, 2) := by decide +kernel
theorem d_Mo_enter_58 : decode c_Mo_enter 58 = .ok (.ifCond .eq (7), 3) := by decide +kernel
theorem d_Mo_enter_61 : decode c_Mo_enter 61 = .ok (.iload_n 2, 1) := by decide +kernel
theorem d_Mo_enter_62 : decode c_Mo_enter 62 = .ok (.goto (4), 3) := by decide +kernel
theorem d_Mo_enter_65 : decode c_Mo_enter 65 = .ok (.iload_n 3, 1) := by decide +kernel
theorem d_Mo_enter_66 : decode c_Mo_enter 66 = .ok (.iastore, 1) := by decide +kernel
theorem d_Mo_enter_67 : decode c_Mo_enter 67 = .ok (.aload_n 0, 1) := by decide +kernel
theorem d_Mo_enter_68 : decode c_Mo_enter 68 = .ok (.getfield 81, 3) := by decide +kernel
theorem d_Mo_enter_71 : decode c_Mo_enter 71 = .ok (.iconst (3), 1) := by decide +kernel
theorem d_Mo_enter_72 : decode c_Mo_enter 72 = .ok (.aload_n 0, 1) := by decide +kernel
theorem d_Mo_enter_73 : decode c_Mo_enter 73 = .ok (.getfield 210, 3) := by decide +kernel
theorem d_Mo_enter_76 : decode c_Mo_enter 76 = .ok (.imul, 1) := by decide +kernel
theorem d_Mo_enter_77 : decode c_Mo_enter 77 = .ok (.iconst (1), 1) := by decide +kernel
theorem d_Mo_enter_78 : decode c_Mo_enter 78 = .ok (.iadd, 1) := by decide +kernel
theorem d_Mo_enter_79 : decode c_Mo_enter 79 = .ok (.iload_n 3, 1) := by decide +kernel
theorem d_Mo_enter_80 : decode c_Mo_enter 80 = .ok (.iastore, 1) := by decide +kernel
theorem d_Mo_enter_81 : decode c_Mo_enter 81 = .ok (.aload_n 0, 1) := by decide +kernel
theorem d_Mo_enter_82 : decode c_Mo_enter 82 = .ok (.dup, 1) := by decide +kernel
theorem d_Mo_enter_83 : decode c_Mo_enter 83 = .ok (.getfield 210, 3) := by decide +kernel
theorem d_Mo_enter_86 : decode c_Mo_enter 86 = .ok (.iconst (1), 1) := by decide +kernel
theorem d_Mo_enter_87 : decode c_Mo_enter 87 = .ok (.iadd, 1) := by decide +kernel
theorem d_Mo_enter_88 : decode c_Mo_enter 88 = .ok (.putfield 210, 3) := by decide +kernel
theorem d_Mo_enter_91 : decode c_Mo_enter 91 = .ok (.return_, 1) := by decide +kernel
def fx_Mo_enter_b66 (σ : tx_St) (x3 : Int32) (s0 : Int32) (s1 : Int32) : Option tx_St := tx_wr σ 68 18 s1 s0 fun σ7 => tx_wr σ7 68 18 (((3 : Int32) * (σ7 45 28)) + (1 : Int32)) x3 fun σ8 => tx_pt σ8 45 28 ((σ8 45 28) + (1 : Int32)) fun σ9 => some σ9
def fx_Mo_enter_b14 (σ : tx_St) (x1 : Int32) (x2 : Int32) (x3 : Int32) (s0 : Int32) : Option tx_St := tx_wr σ 64 6 (σ 45 28) x1 fun σ3 => tx_wr σ3 65 6 (σ3 45 28) (0 : Int32) fun σ4 => tx_wr σ4 66 6 (σ4 45 28) (0 : Int32) fun σ5 => (if s0 = 0 then fx_Mo_enter_b66  σ5 x3 x3 ((3 : Int32) * (σ5 45 28)) else fx_Mo_enter_b66  σ5 x3 x2 ((3 : Int32) * (σ5 45 28)))
def fx_Mo_enter (σ : tx_St) (x1 : Int32) (x2 : Int32) (x3 : Int32) : Option tx_St := tx_rd σ 52 8 x1 fun v1 => (if v1 = 0 then fx_Mo_enter_b14  σ x1 x2 x3 (1 : Int32) else fx_Mo_enter_b14  σ x1 x2 x3 (0 : Int32))
set_option maxRecDepth 100000 in
set_option maxHeartbeats 4000000 in
theorem fx_Mo_enter_b66_w {l : Launch} {E : tx_E} (σ : tx_St) (x3 : Int32) (s0 : Int32) (s1 : Int32) (t : tx_St) (hT : fx_Mo_enter_b66 σ x3 s0 s1 = some t) : gx l E mi_Mo_enter (none, t) σ [(0, .ref (E.1 45)), (3, .int x3)] 66 [.int s0, .int s1, .ref (E.1 68)] := by
  unfold fx_Mo_enter_b66 at hT
  obtain ⟨σ7, gσ7, iσ7, hT⟩ := tx_wr_some hT
  refine gx_iast (pc := 66) d_Mo_enter_66 (rfl) iσ7 ?_
  rw [gσ7]
  refine gx_aload_n (pc := 67) 0 d_Mo_enter_67 rfl rfl ?_
  refine gx_getR (pc := 68) 68 fl_Mo_81 d_Mo_enter_68 (rfl) (by decide) rfl ?_
  refine gx_iconst (pc := 71) (3 : Int32) d_Mo_enter_71 (by decide) ?_
  refine gx_aload_n (pc := 72) 0 d_Mo_enter_72 rfl rfl ?_
  refine gx_getI (pc := 73) (σ7 45 28) fl_Mo_210 d_Mo_enter_73 (rfl) (by decide) rfl rfl ?_
  refine gx_imul (pc := 76) d_Mo_enter_76 ?_
  refine gx_iconst (pc := 77) (1 : Int32) d_Mo_enter_77 (by decide) ?_
  refine gx_iadd (pc := 78) d_Mo_enter_78 ?_
  refine gx_iload_n (pc := 79) 1 d_Mo_enter_79 rfl rfl ?_
  obtain ⟨σ8, gσ8, iσ8, hT⟩ := tx_wr_some hT
  refine gx_iast (pc := 80) d_Mo_enter_80 (rfl) iσ8 ?_
  rw [gσ8]
  refine gx_aload_n (pc := 81) 0 d_Mo_enter_81 rfl rfl ?_
  refine gx_dup (pc := 82) d_Mo_enter_82 rfl ?_
  refine gx_getI (pc := 83) (σ8 45 28) fl_Mo_210 d_Mo_enter_83 (rfl) (by decide) rfl rfl ?_
  refine gx_iconst (pc := 86) (1 : Int32) d_Mo_enter_86 (by decide) ?_
  refine gx_iadd (pc := 87) d_Mo_enter_87 ?_
  obtain ⟨σ9, gσ9, hT⟩ := tx_pt_some hT
  refine gx_putI (pc := 88) fp_Mo_210 d_Mo_enter_88 (rfl) (by decide) rfl ?_
  rw [gσ9]
  cases hT
  exact gx_vret (pc := 91) d_Mo_enter_91 rfl rfl
set_option maxRecDepth 100000 in
set_option maxHeartbeats 4000000 in
theorem fx_Mo_enter_b14_w {l : Launch} {E : tx_E} (σ : tx_St) (x1 : Int32) (x2 : Int32) (x3 : Int32) (s0 : Int32) (t : tx_St) (hT : fx_Mo_enter_b14 σ x1 x2 x3 s0 = some t) : gx l E mi_Mo_enter (none, t) σ [(0, .ref (E.1 45)), (1, .int x1), (2, .int x2), (3, .int x3)] 14 [.int s0] := by
  unfold fx_Mo_enter_b14 at hT
  refine gx_istore (pc := 14) [(4, .int s0), (0, .ref (E.1 45)), (1, .int x1), (2, .int x2), (3, .int x3)] d_Mo_enter_14 (Nat.le_of_ble_eq_true rfl) rfl ?_
  refine gx_aload_n (pc := 16) 1 d_Mo_enter_16 rfl rfl ?_
  refine gx_getR (pc := 17) 64 fl_Mo_69 d_Mo_enter_17 (rfl) (by decide) rfl ?_
  refine gx_aload_n (pc := 20) 1 d_Mo_enter_20 rfl rfl ?_
  refine gx_getI (pc := 21) (σ 45 28) fl_Mo_210 d_Mo_enter_21 (rfl) (by decide) rfl rfl ?_
  refine gx_iload_n (pc := 24) 2 d_Mo_enter_24 rfl rfl ?_
  obtain ⟨σ3, gσ3, iσ3, hT⟩ := tx_wr_some hT
  refine gx_iast (pc := 25) d_Mo_enter_25 (rfl) iσ3 ?_
  rw [gσ3]
  refine gx_aload_n (pc := 26) 1 d_Mo_enter_26 rfl rfl ?_
  refine gx_getR (pc := 27) 65 fl_Mo_72 d_Mo_enter_27 (rfl) (by decide) rfl ?_
  refine gx_aload_n (pc := 30) 1 d_Mo_enter_30 rfl rfl ?_
  refine gx_getI (pc := 31) (σ3 45 28) fl_Mo_210 d_Mo_enter_31 (rfl) (by decide) rfl rfl ?_
  refine gx_iconst (pc := 34) (0 : Int32) d_Mo_enter_34 (by decide) ?_
  obtain ⟨σ4, gσ4, iσ4, hT⟩ := tx_wr_some hT
  refine gx_iast (pc := 35) d_Mo_enter_35 (rfl) iσ4 ?_
  rw [gσ4]
  refine gx_aload_n (pc := 36) 1 d_Mo_enter_36 rfl rfl ?_
  refine gx_getR (pc := 37) 66 fl_Mo_75 d_Mo_enter_37 (rfl) (by decide) rfl ?_
  refine gx_aload_n (pc := 40) 1 d_Mo_enter_40 rfl rfl ?_
  refine gx_getI (pc := 41) (σ4 45 28) fl_Mo_210 d_Mo_enter_41 (rfl) (by decide) rfl rfl ?_
  refine gx_iconst (pc := 44) (0 : Int32) d_Mo_enter_44 (by decide) ?_
  obtain ⟨σ5, gσ5, iσ5, hT⟩ := tx_wr_some hT
  refine gx_iast (pc := 45) d_Mo_enter_45 (rfl) iσ5 ?_
  rw [gσ5]
  refine gx_aload_n (pc := 46) 1 d_Mo_enter_46 rfl rfl ?_
  refine gx_getR (pc := 47) 68 fl_Mo_81 d_Mo_enter_47 (rfl) (by decide) rfl ?_
  refine gx_iconst (pc := 50) (3 : Int32) d_Mo_enter_50 (by decide) ?_
  refine gx_aload_n (pc := 51) 1 d_Mo_enter_51 rfl rfl ?_
  refine gx_getI (pc := 52) (σ5 45 28) fl_Mo_210 d_Mo_enter_52 (rfl) (by decide) rfl rfl ?_
  refine gx_imul (pc := 55) d_Mo_enter_55 ?_
  refine gx_iload (pc := 56) 0 d_Mo_enter_56 rfl ?_
  refine gx_if_eq (pc := 58) 65 d_Mo_enter_58 rfl (fun h6 => ?_) (fun h6 => ?_)
  · have hT := tx_ifp h6 hT
    refine gx_iload_n (pc := 65) 4 d_Mo_enter_65 rfl rfl ?_
    refine gx_sub [1, 4] rfl ?_
    exact fx_Mo_enter_b66_w  σ5 x3 x3 ((3 : Int32) * (σ5 45 28)) _ hT
  · have hT := tx_ifn h6 hT
    refine gx_iload_n (pc := 61) 3 d_Mo_enter_61 rfl rfl ?_
    refine gx_goto (pc := 62) 66 d_Mo_enter_62 rfl ?_
    refine gx_sub [1, 4] rfl ?_
    exact fx_Mo_enter_b66_w  σ5 x3 x2 ((3 : Int32) * (σ5 45 28)) _ hT
set_option maxRecDepth 100000 in
set_option maxHeartbeats 4000000 in
theorem fx_Mo_enter_c (l : Launch) (E : tx_E) (σ : tx_St) (x1 : Int32) (x2 : Int32) (x3 : Int32) (t : tx_St) (hT : fx_Mo_enter σ x1 x2 x3 = some t) : tx_MX l E y_Mo_enter mi_Mo_enter (none, t) [.ref (E.1 45), .int x1, .int x2, .int x3] σ := by
  refine tx_MX_of (by decide) rfl (Nat.le_of_ble_eq_true rfl) ?_
  show gx l E mi_Mo_enter (none, t) σ [(0, .ref (E.1 45)), (1, .int x1), (2, .int x2), (3, .int x3)] 0 []
  unfold fx_Mo_enter at hT
  refine gx_aload_n (pc := 0) 0 d_Mo_enter_0 rfl rfl ?_
  refine gx_getR (pc := 1) 52 fl_Mo_28 d_Mo_enter_1 (rfl) (by decide) rfl ?_
  refine gx_iload_n (pc := 4) 1 d_Mo_enter_4 rfl rfl ?_
  obtain ⟨v1, gv1, iv1, hT⟩ := tx_rd_some hT
  refine gx_iald (pc := 5) v1 d_Mo_enter_5 (rfl) iv1 gv1 ?_
  refine gx_if_ne (pc := 6) 13 d_Mo_enter_6 rfl (fun h2 => ?_) (fun h2 => ?_)
  · have hT := tx_ifn h2 hT
    refine gx_iconst (pc := 13) (0 : Int32) d_Mo_enter_13 (by decide) ?_
    exact fx_Mo_enter_b14_w  σ x1 x2 x3 (0 : Int32) _ hT
  · have hT := tx_ifp h2 hT
    refine gx_iconst (pc := 9) (1 : Int32) d_Mo_enter_9 (by decide) ?_
    refine gx_goto (pc := 10) 14 d_Mo_enter_10 rfl ?_
    exact fx_Mo_enter_b14_w  σ x1 x2 x3 (1 : Int32) _ hT
theorem d_Mo_pop_0 : decode c_Mo_pop 0 = .ok (.aload_n 0, 1) := by decide +kernel
theorem d_Mo_pop_1 : decode c_Mo_pop 1 = .ok (.getfield 210, 3) := by decide +kernel
theorem d_Mo_pop_4 : decode c_Mo_pop 4 = .ok (.iconst (1), 1) := by decide +kernel
theorem d_Mo_pop_5 : decode c_Mo_pop 5 = .ok (.isub, 1) := by decide +kernel
theorem d_Mo_pop_6 : decode c_Mo_pop 6 = .ok (.istore_n 1, 1) := by decide +kernel
theorem d_Mo_pop_7 : decode c_Mo_pop 7 = .ok (.aload_n 0, 1) := by decide +kernel
theorem d_Mo_pop_8 : decode c_Mo_pop 8 = .ok (.getfield 75, 3) := by decide +kernel
theorem d_Mo_pop_11 : decode c_Mo_pop 11 = .ok (.iload_n 1, 1) := by decide +kernel
theorem d_Mo_pop_12 : decode c_Mo_pop 12 = .ok (.dup2, 1) := by decide +kernel
theorem d_Mo_pop_13 : decode c_Mo_pop 13 = .ok (.iaload, 1) := by decide +kernel
theorem d_Mo_pop_14 : decode c_Mo_pop 14 = .ok (.iconst (1), 1) := by decide +kernel
theorem d_Mo_pop_15 : decode c_Mo_pop 15 = .ok (.isub, 1) := by decide +kernel
theorem d_Mo_pop_16 : decode c_Mo_pop 16 = .ok (.iastore, 1) := by decide +kernel
theorem d_Mo_pop_17 : decode c_Mo_pop 17 = .ok (.aload_n 0, 1) := by decide +kernel
theorem d_Mo_pop_18 : decode c_Mo_pop 18 = .ok (.getfield 78, 3) := by decide +kernel
theorem d_Mo_pop_21 : decode c_Mo_pop 21 = .ok (.iconst (4), 1) := by decide +kernel
theorem d_Mo_pop_22 : decode c_Mo_pop 22 = .ok (.iload_n 1, 1) := by decide +kernel
theorem d_Mo_pop_23 : decode c_Mo_pop 23 = .ok (.imul, 1) := by decide +kernel
theorem d_Mo_pop_24 : decode c_Mo_pop 24 = .ok (.aload_n 0, 1) := by decide +kernel
theorem d_Mo_pop_25 : decode c_Mo_pop 25 = .ok (.getfield 75, 3) := by decide +kernel
theorem d_Mo_pop_28 : decode c_Mo_pop 28 = .ok (.iload_n 1, 1) := by decide +kernel
theorem d_Mo_pop_29 : decode c_Mo_pop 29 = .ok (.iaload, 1) := by decide +kernel
theorem d_Mo_pop_30 : decode c_Mo_pop 30 = .ok (.iadd, 1) := by decide +kernel
theorem d_Mo_pop_31 : decode c_Mo_pop 31 = .ok (.iaload, 1) := by decide +kernel
theorem d_Mo_pop_32 : decode c_Mo_pop 32 = .ok (.ireturn, 1) := by decide +kernel
def fx_Mo_pop (σ : tx_St) : Option (Int32 × tx_St) := tx_rd σ 66 6 ((σ 45 28) - (1 : Int32)) fun v1 => tx_wr σ 66 6 ((σ 45 28) - (1 : Int32)) (v1 - (1 : Int32)) fun σ2 => tx_rd σ2 66 6 ((σ 45 28) - (1 : Int32)) fun v3 => tx_rd σ2 67 24 (((4 : Int32) * ((σ 45 28) - (1 : Int32))) + v3) fun v4 => some (v4, σ2)
set_option maxRecDepth 100000 in
set_option maxHeartbeats 4000000 in
theorem fx_Mo_pop_c (l : Launch) (E : tx_E) (σ : tx_St) (t : Int32 × tx_St) (hT : fx_Mo_pop σ  = some t) : tx_MX l E y_Mo_pop mi_Mo_pop (some (.int t.1), t.2) [.ref (E.1 45)] σ := by
  refine tx_MX_of (by decide) rfl (Nat.le_of_ble_eq_true rfl) ?_
  show gx l E mi_Mo_pop (some (.int t.1), t.2) σ [(0, .ref (E.1 45))] 0 []
  unfold fx_Mo_pop at hT
  refine gx_aload_n (pc := 0) 0 d_Mo_pop_0 rfl rfl ?_
  refine gx_getI (pc := 1) (σ 45 28) fl_Mo_210 d_Mo_pop_1 (rfl) (by decide) rfl rfl ?_
  refine gx_iconst (pc := 4) (1 : Int32) d_Mo_pop_4 (by decide) ?_
  refine gx_isub (pc := 5) d_Mo_pop_5 ?_
  refine gx_istore_n (pc := 6) [(1, .int ((σ 45 28) - (1 : Int32))), (0, .ref (E.1 45))] d_Mo_pop_6 rfl (Nat.le_of_ble_eq_true rfl) rfl ?_
  refine gx_aload_n (pc := 7) 1 d_Mo_pop_7 rfl rfl ?_
  refine gx_getR (pc := 8) 66 fl_Mo_75 d_Mo_pop_8 (rfl) (by decide) rfl ?_
  refine gx_iload_n (pc := 11) 0 d_Mo_pop_11 rfl rfl ?_
  refine gx_dup2 (pc := 12) d_Mo_pop_12 rfl rfl ?_
  obtain ⟨v1, gv1, iv1, hT⟩ := tx_rd_some hT
  refine gx_iald (pc := 13) v1 d_Mo_pop_13 (rfl) iv1 gv1 ?_
  refine gx_iconst (pc := 14) (1 : Int32) d_Mo_pop_14 (by decide) ?_
  refine gx_isub (pc := 15) d_Mo_pop_15 ?_
  obtain ⟨σ2, gσ2, iσ2, hT⟩ := tx_wr_some hT
  refine gx_iast (pc := 16) d_Mo_pop_16 (rfl) iσ2 ?_
  rw [gσ2]
  refine gx_aload_n (pc := 17) 1 d_Mo_pop_17 rfl rfl ?_
  refine gx_getR (pc := 18) 67 fl_Mo_78 d_Mo_pop_18 (rfl) (by decide) rfl ?_
  refine gx_iconst (pc := 21) (4 : Int32) d_Mo_pop_21 (by decide) ?_
  refine gx_iload_n (pc := 22) 0 d_Mo_pop_22 rfl rfl ?_
  refine gx_imul (pc := 23) d_Mo_pop_23 ?_
  refine gx_aload_n (pc := 24) 1 d_Mo_pop_24 rfl rfl ?_
  refine gx_getR (pc := 25) 66 fl_Mo_75 d_Mo_pop_25 (rfl) (by decide) rfl ?_
  refine gx_iload_n (pc := 28) 0 d_Mo_pop_28 rfl rfl ?_
  obtain ⟨v3, gv3, iv3, hT⟩ := tx_rd_some hT
  refine gx_iald (pc := 29) v3 d_Mo_pop_29 (rfl) iv3 gv3 ?_
  refine gx_iadd (pc := 30) d_Mo_pop_30 ?_
  obtain ⟨v4, gv4, iv4, hT⟩ := tx_rd_some hT
  refine gx_iald (pc := 31) v4 d_Mo_pop_31 (rfl) iv4 gv4 ?_
  cases hT
  exact gx_iret (pc := 32) d_Mo_pop_32 rfl rfl
theorem d_Mo_push_0 : decode c_Mo_push 0 = .ok (.aload_n 0, 1) := by decide +kernel
theorem d_Mo_push_1 : decode c_Mo_push 1 = .ok (.getfield 210, 3) := by decide +kernel
theorem d_Mo_push_4 : decode c_Mo_push 4 = .ok (.iconst (1), 1) := by decide +kernel
theorem d_Mo_push_5 : decode c_Mo_push 5 = .ok (.isub, 1) := by decide +kernel
theorem d_Mo_push_6 : decode c_Mo_push 6 = .ok (.istore_n 2, 1) := by decide +kernel
theorem d_Mo_push_7 : decode c_Mo_push 7 = .ok (.aload_n 0, 1) := by decide +kernel
theorem d_Mo_push_8 : decode c_Mo_push 8 = .ok (.getfield 78, 3) := by decide +kernel
theorem d_Mo_push_11 : decode c_Mo_push 11 = .ok (.iconst (4), 1) := by decide +kernel
theorem d_Mo_push_12 : decode c_Mo_push 12 = .ok (.iload_n 2, 1) := by decide +kernel
theorem d_Mo_push_13 : decode c_Mo_push 13 = .ok (.imul, 1) := by decide +kernel
theorem d_Mo_push_14 : decode c_Mo_push 14 = .ok (.aload_n 0, 1) := by decide +kernel
theorem d_Mo_push_15 : decode c_Mo_push 15 = .ok (.getfield 75, 3) := by decide +kernel
theorem d_Mo_push_18 : decode c_Mo_push 18 = .ok (.iload_n 2, 1) := by decide +kernel
theorem d_Mo_push_19 : decode c_Mo_push 19 = .ok (.iaload, 1) := by decide +kernel
theorem d_Mo_push_20 : decode c_Mo_push 20 = .ok (.iadd, 1) := by decide +kernel
theorem d_Mo_push_21 : decode c_Mo_push 21 = .ok (.iload_n 1, 1) := by decide +kernel
theorem d_Mo_push_22 : decode c_Mo_push 22 = .ok (.iastore, 1) := by decide +kernel
theorem d_Mo_push_23 : decode c_Mo_push 23 = .ok (.aload_n 0, 1) := by decide +kernel
theorem d_Mo_push_24 : decode c_Mo_push 24 = .ok (.getfield 75, 3) := by decide +kernel
theorem d_Mo_push_27 : decode c_Mo_push 27 = .ok (.iload_n 2, 1) := by decide +kernel
theorem d_Mo_push_28 : decode c_Mo_push 28 = .ok (.dup2, 1) := by decide +kernel
theorem d_Mo_push_29 : decode c_Mo_push 29 = .ok (.iaload, 1) := by decide +kernel
theorem d_Mo_push_30 : decode c_Mo_push 30 = .ok (.iconst (1), 1) := by decide +kernel
theorem d_Mo_push_31 : decode c_Mo_push 31 = .ok (.iadd, 1) := by decide +kernel
theorem d_Mo_push_32 : decode c_Mo_push 32 = .ok (.iastore, 1) := by decide +kernel
theorem d_Mo_push_33 : decode c_Mo_push 33 = .ok (.return_, 1) := by decide +kernel
def fx_Mo_push (σ : tx_St) (x1 : Int32) : Option tx_St := tx_rd σ 66 6 ((σ 45 28) - (1 : Int32)) fun v1 => tx_wr σ 67 24 (((4 : Int32) * ((σ 45 28) - (1 : Int32))) + v1) x1 fun σ2 => tx_rd σ2 66 6 ((σ 45 28) - (1 : Int32)) fun v3 => tx_wr σ2 66 6 ((σ 45 28) - (1 : Int32)) (v3 + (1 : Int32)) fun σ4 => some σ4
set_option maxRecDepth 100000 in
set_option maxHeartbeats 4000000 in
theorem fx_Mo_push_c (l : Launch) (E : tx_E) (σ : tx_St) (x1 : Int32) (t : tx_St) (hT : fx_Mo_push σ x1 = some t) : tx_MX l E y_Mo_push mi_Mo_push (none, t) [.ref (E.1 45), .int x1] σ := by
  refine tx_MX_of (by decide) rfl (Nat.le_of_ble_eq_true rfl) ?_
  show gx l E mi_Mo_push (none, t) σ [(0, .ref (E.1 45)), (1, .int x1)] 0 []
  unfold fx_Mo_push at hT
  refine gx_aload_n (pc := 0) 0 d_Mo_push_0 rfl rfl ?_
  refine gx_getI (pc := 1) (σ 45 28) fl_Mo_210 d_Mo_push_1 (rfl) (by decide) rfl rfl ?_
  refine gx_iconst (pc := 4) (1 : Int32) d_Mo_push_4 (by decide) ?_
  refine gx_isub (pc := 5) d_Mo_push_5 ?_
  refine gx_istore_n (pc := 6) [(2, .int ((σ 45 28) - (1 : Int32))), (0, .ref (E.1 45)), (1, .int x1)] d_Mo_push_6 rfl (Nat.le_of_ble_eq_true rfl) rfl ?_
  refine gx_aload_n (pc := 7) 1 d_Mo_push_7 rfl rfl ?_
  refine gx_getR (pc := 8) 67 fl_Mo_78 d_Mo_push_8 (rfl) (by decide) rfl ?_
  refine gx_iconst (pc := 11) (4 : Int32) d_Mo_push_11 (by decide) ?_
  refine gx_iload_n (pc := 12) 0 d_Mo_push_12 rfl rfl ?_
  refine gx_imul (pc := 13) d_Mo_push_13 ?_
  refine gx_aload_n (pc := 14) 1 d_Mo_push_14 rfl rfl ?_
  refine gx_getR (pc := 15) 66 fl_Mo_75 d_Mo_push_15 (rfl) (by decide) rfl ?_
  refine gx_iload_n (pc := 18) 0 d_Mo_push_18 rfl rfl ?_
  obtain ⟨v1, gv1, iv1, hT⟩ := tx_rd_some hT
  refine gx_iald (pc := 19) v1 d_Mo_push_19 (rfl) iv1 gv1 ?_
  refine gx_iadd (pc := 20) d_Mo_push_20 ?_
  refine gx_iload_n (pc := 21) 2 d_Mo_push_21 rfl rfl ?_
  obtain ⟨σ2, gσ2, iσ2, hT⟩ := tx_wr_some hT
  refine gx_iast (pc := 22) d_Mo_push_22 (rfl) iσ2 ?_
  rw [gσ2]
  refine gx_aload_n (pc := 23) 1 d_Mo_push_23 rfl rfl ?_
  refine gx_getR (pc := 24) 66 fl_Mo_75 d_Mo_push_24 (rfl) (by decide) rfl ?_
  refine gx_iload_n (pc := 27) 0 d_Mo_push_27 rfl rfl ?_
  refine gx_dup2 (pc := 28) d_Mo_push_28 rfl rfl ?_
  obtain ⟨v3, gv3, iv3, hT⟩ := tx_rd_some hT
  refine gx_iald (pc := 29) v3 d_Mo_push_29 (rfl) iv3 gv3 ?_
  refine gx_iconst (pc := 30) (1 : Int32) d_Mo_push_30 (by decide) ?_
  refine gx_iadd (pc := 31) d_Mo_push_31 ?_
  obtain ⟨σ4, gσ4, iσ4, hT⟩ := tx_wr_some hT
  refine gx_iast (pc := 32) d_Mo_push_32 (rfl) iσ4 ?_
  rw [gσ4]
  cases hT
  exact gx_vret (pc := 33) d_Mo_push_33 rfl rfl
theorem d_Mo_make_0 : decode c_Mo_make 0 = .ok (.aload_n 0, 1) := by decide +kernel
theorem d_Mo_make_1 : decode c_Mo_make 1 = .ok (.getfield 223, 3) := by decide +kernel
theorem d_Mo_make_4 : decode c_Mo_make 4 = .ok (.bipush (8), 2) := by decide +kernel
theorem d_Mo_make_6 : decode c_Mo_make 6 = .ok (.if_icmp .ne (5), 3) := by decide +kernel
theorem d_Mo_make_9 : decode c_Mo_make 9 = .ok (.iconst (4), 1) := by decide +kernel
theorem d_Mo_make_10 : decode c_Mo_make 10 = .ok (.ireturn, 1) := by decide +kernel
theorem d_Mo_make_11 : decode c_Mo_make 11 = .ok (.aload_n 0, 1) := by decide +kernel
theorem d_Mo_make_12 : decode c_Mo_make 12 = .ok (.dup, 1) := by decide +kernel
theorem d_Mo_make_13 : decode c_Mo_make 13 = .ok (.getfield 223, 3) := by decide +kernel
theorem d_Mo_make_16 : decode c_Mo_make 16 = .ok (.iconst (1), 1) := by decide +kernel
theorem d_Mo_make_17 : decode c_Mo_make 17 = .ok (.iadd, 1) := by decide +kernel
theorem d_Mo_make_18 : decode c_Mo_make 18 = .ok (.putfield 223, 3) := by decide +kernel
theorem d_Mo_make_21 : decode c_Mo_make 21 = .ok (.aload_n 0, 1) := by decide +kernel
theorem d_Mo_make_22 : decode c_Mo_make 22 = .ok (.getfield 56, 3) := by decide +kernel
theorem d_Mo_make_25 : decode c_Mo_make 25 = .ok (.aload_n 0, 1) := by decide +kernel
theorem d_Mo_make_26 : decode c_Mo_make 26 = .ok (.getfield 226, 3) := by decide +kernel
theorem d_Mo_make_29 : decode c_Mo_make 29 = .ok (.iload_n 1, 1) := by decide +kernel
theorem d_Mo_make_30 : decode c_Mo_make 30 = .ok (.iastore, 1) := by decide +kernel
theorem d_Mo_make_31 : decode c_Mo_make 31 = .ok (.iload_n 1, 1) := by decide +kernel
theorem d_Mo_make_32 : decode c_Mo_make 32 = .ok (.iconst (1), 1) := by decide +kernel
theorem d_Mo_make_33 : decode c_Mo_make 33 = .ok (.if_icmp .ne (19), 3) := by decide +kernel
theorem d_Mo_make_36 : decode c_Mo_make 36 = .ok (.aload_n 0, 1) := by decide +kernel
theorem d_Mo_make_37 : decode c_Mo_make 37 = .ok (.getfield 59, 3) := by decide +kernel
theorem d_Mo_make_40 : decode c_Mo_make 40 = .ok (.bipush (12), 2) := by decide +kernel
theorem d_Mo_make_42 : decode c_Mo_make 42 = .ok (.aload_n 0, 1) := by decide +kernel
theorem d_Mo_make_43 : decode c_Mo_make 43 = .ok (.getfield 226, 3) := by decide +kernel
theorem d_Mo_make_46 : decode c_Mo_make 46 = .ok (.imul, 1) := by decide +kernel
theorem d_Mo_make_47 : decode c_Mo_make 47 = .ok (.aload_n 0, 1) := by decide +kernel
theorem d_Mo_make_48 : decode c_Mo_make 48 = .ok (.invokevirtual 213, 3) := by decide +kernel
theorem d_Mo_make_51 : decode c_Mo_make 51 = .ok (.iastore, 1) := by decide +kernel
theorem d_Mo_make_52 : decode c_Mo_make 52 = .ok (.aload_n 0, 1) := by decide +kernel
theorem d_Mo_make_53 : decode c_Mo_make 53 = .ok (.getfield 101, 3) := by decide +kernel
theorem d_Mo_make_56 : decode c_Mo_make 56 = .ok (.iconst (1), 1) := by decide +kernel
theorem d_Mo_make_57 : decode c_Mo_make 57 = .ok (.isub, 1) := by decide +kernel
theorem d_Mo_make_58 : decode c_Mo_make 58 = .ok (.istore_n 2, 1) := by decide +kernel
theorem d_Mo_make_59 : decode c_Mo_make 59 = .ok (.iload_n 2, 1) := by decide +kernel
theorem d_Mo_make_60 : decode c_Mo_make 60 = .ok (.ifCond .lt (43), 3) := by decide +kernel
theorem d_Mo_make_63 : decode c_Mo_make 63 = .ok (.iload_n 1, 1) := by decide +kernel
theorem d_Mo_make_64 : decode c_Mo_make 64 = .ok (.iconst (1), 1) := by decide +kernel
theorem d_Mo_make_65 : decode c_Mo_make 65 = .ok (.if_icmp .le (38), 3) := by decide +kernel
theorem d_Mo_make_68 : decode c_Mo_make 68 = .ok (.aload_n 0, 1) := by decide +kernel
theorem d_Mo_make_69 : decode c_Mo_make 69 = .ok (.iload_n 1, 1) := by decide +kernel
theorem d_Mo_make_70 : decode c_Mo_make 70 = .ok (.iconst (2), 1) := by decide +kernel
theorem d_Mo_make_71 : decode c_Mo_make 71 = .ok (.isub, 1) := by decide +kernel
theorem d_Mo_make_72 : decode c_Mo_make 72 = .ok (.iload_n 2, 1) := by decide +kernel
theorem d_Mo_make_73 : decode c_Mo_make 73 = .ok (.invokevirtual 140, 3) := by decide +kernel
theorem d_Mo_make_76 : decode c_Mo_make 76 = .ok (.ifCond .eq (21), 3) := by decide +kernel
theorem d_Mo_make_79 : decode c_Mo_make 79 = .ok (.aload_n 0, 1) := by decide +kernel
theorem d_Mo_make_80 : decode c_Mo_make 80 = .ok (.getfield 59, 3) := by decide +kernel
theorem d_Mo_make_83 : decode c_Mo_make 83 = .ok (.bipush (12), 2) := by decide +kernel
theorem d_Mo_make_85 : decode c_Mo_make 85 = .ok (.aload_n 0, 1) := by decide +kernel
theorem d_Mo_make_86 : decode c_Mo_make 86 = .ok (.getfield 226, 3) := by decide +kernel
theorem d_Mo_make_89 : decode c_Mo_make 89 = .ok (.imul, 1) := by decide +kernel
theorem d_Mo_make_90 : decode c_Mo_make 90 = .ok (.iload_n 2, 1) := by decide +kernel
theorem d_Mo_make_91 : decode c_Mo_make 91 = .ok (.iadd, 1) := by decide +kernel
theorem d_Mo_make_92 : decode c_Mo_make 92 = .ok (.aload_n 0, 1) := by decide +kernel
theorem d_Mo_make_93 : decode c_Mo_make 93 = .ok (.invokevirtual 213, 3) := by decide +kernel
theorem d_Mo_make_96 : decode c_Mo_make 96 = .ok (.iastore, 1) := by decide +kernel
theorem d_Mo_make_97 : decode c_Mo_make 97 = .ok (.iinc 2 (-1), 3) := by decide +kernel
theorem d_Mo_make_100 : decode c_Mo_make 100 = .ok (.goto (-41), 3) := by decide +kernel
theorem d_Mo_make_103 : decode c_Mo_make 103 = .ok (.aload_n 0, 1) := by decide +kernel
theorem d_Mo_make_104 : decode c_Mo_make 104 = .ok (.dup, 1) := by decide +kernel
theorem d_Mo_make_105 : decode c_Mo_make 105 = .ok (.getfield 226, 3) := by decide +kernel
theorem d_Mo_make_108 : decode c_Mo_make 108 = .ok (.iconst (1), 1) := by decide +kernel
theorem d_Mo_make_109 : decode c_Mo_make 109 = .ok (.iadd, 1) := by decide +kernel
theorem d_Mo_make_110 : decode c_Mo_make 110 = .ok (.putfield 226, 3) := by decide +kernel
theorem d_Mo_make_113 : decode c_Mo_make 113 = .ok (.aload_n 0, 1) := by decide +kernel
theorem d_Mo_make_114 : decode c_Mo_make 114 = .ok (.aload_n 0, 1) := by decide +kernel
theorem d_Mo_make_115 : decode c_Mo_make 115 = .ok (.getfield 226, 3) := by decide +kernel
theorem d_Mo_make_118 : decode c_Mo_make 118 = .ok (.invokevirtual 229, 3) := by decide +kernel
theorem d_Mo_make_121 : decode c_Mo_make 121 = .ok (.iconst (0), 1) := by decide +kernel
theorem d_Mo_make_122 : decode c_Mo_make 122 = .ok (.ireturn, 1) := by decide +kernel
def fx_Mo_make_b103 (σ : tx_St) : Option (Int32 × tx_St) := tx_pt σ 45 20 ((σ 45 20) + (1 : Int32)) fun σ16 => tx_cv (fx_Mo_push σ16 (σ16 45 20)) fun σ17 => some ((0 : Int32), σ17)
def fx_Mo_make_b97 (k59 : tx_St → Int32 → Int32 → Option (Int32 × tx_St)) (σ : tx_St) (x1 : Int32) (x2 : Int32) : Option (Int32 × tx_St) := k59 σ x1 (x2 + (-1 : Int32))
def fx_Mo_make_b59 : Nat → tx_St → Int32 → Int32 → Option (Int32 × tx_St)
  | 0, _, _, _ => none
  | n + 1, σ, x1, x2 => (if x2 < 0 then fx_Mo_make_b103  σ else (if x1 ≤ (1 : Int32) then fx_Mo_make_b103  σ else tx_ci (fx_Mo_owns σ (x1 - (2 : Int32)) x2) fun r11 σ10 => (if r11 = 0 then fx_Mo_make_b97 (fx_Mo_make_b59 n) σ10 x1 x2 else tx_ci (fx_Mo_pop σ10) fun r14 σ13 => tx_wr σ13 62 3840 (((12 : Int32) * (σ10 45 20)) + x2) r14 fun σ15 => fx_Mo_make_b97 (fx_Mo_make_b59 n) σ15 x1 x2)))
def fx_Mo_make_b52 (σ : tx_St) (x1 : Int32) : Option (Int32 × tx_St) := fx_Mo_make_b59  tx_fu σ x1 ((σ 45 3) - (1 : Int32))
def fx_Mo_make (σ : tx_St) (x1 : Int32) : Option (Int32 × tx_St) := (if (σ 45 27) = (8 : Int32) then some ((4 : Int32), σ) else tx_pt σ 45 27 ((σ 45 27) + (1 : Int32)) fun σ2 => tx_wr σ2 61 320 (σ2 45 20) x1 fun σ3 => (if x1 = (1 : Int32) then tx_ci (fx_Mo_pop σ3) fun r6 σ5 => tx_wr σ5 62 3840 ((12 : Int32) * (σ3 45 20)) r6 fun σ7 => fx_Mo_make_b52  σ7 x1 else fx_Mo_make_b52  σ3 x1))
set_option maxRecDepth 100000 in
set_option maxHeartbeats 4000000 in
theorem fx_Mo_make_b103_w {l : Launch} {E : tx_E} (σ : tx_St) (t : Int32 × tx_St) (hT : fx_Mo_make_b103 σ  = some t) : gx l E mi_Mo_make (some (.int t.1), t.2) σ [(0, .ref (E.1 45))] 103 [] := by
  unfold fx_Mo_make_b103 at hT
  refine gx_aload_n (pc := 103) 0 d_Mo_make_103 rfl rfl ?_
  refine gx_dup (pc := 104) d_Mo_make_104 rfl ?_
  refine gx_getI (pc := 105) (σ 45 20) fl_Mo_226 d_Mo_make_105 (rfl) (by decide) rfl rfl ?_
  refine gx_iconst (pc := 108) (1 : Int32) d_Mo_make_108 (by decide) ?_
  refine gx_iadd (pc := 109) d_Mo_make_109 ?_
  obtain ⟨σ16, gσ16, hT⟩ := tx_pt_some hT
  refine gx_putI (pc := 110) fp_Mo_226 d_Mo_make_110 (rfl) (by decide) rfl ?_
  rw [gσ16]
  refine gx_aload_n (pc := 113) 0 d_Mo_make_113 rfl rfl ?_
  refine gx_aload_n (pc := 114) 0 d_Mo_make_114 rfl rfl ?_
  refine gx_getI (pc := 115) (σ16 45 20) fl_Mo_226 d_Mo_make_115 (rfl) (by decide) rfl rfl ?_
  obtain ⟨σ17, cσ17, hT⟩ := tx_cv_some hT
  refine gx_callV (pc := 118) (As := [.int (σ16 45 20)]) (rest := []) cm_Mo_push lk_Mo_229 (fx_Mo_push_c l E σ16 (σ16 45 20) _ cσ17) (rfl) (by decide) rfl rfl tx_fi_Mo_make_Mo_push (Nat.le_of_ble_eq_true rfl) d_Mo_make_118 ?_
  change gx l E mi_Mo_make _ σ17 [(0, .ref (E.1 45))] 121 []
  refine gx_iconst (pc := 121) (0 : Int32) d_Mo_make_121 (by decide) ?_
  cases hT
  exact gx_iret (pc := 122) d_Mo_make_122 rfl rfl
set_option maxRecDepth 100000 in
set_option maxHeartbeats 4000000 in
theorem fx_Mo_make_b97_w {l : Launch} {E : tx_E} (k59 : tx_St → Int32 → Int32 → Option (Int32 × tx_St)) (j59 : ∀ (σ : tx_St) (x1 : Int32) (x2 : Int32) (t : Int32 × tx_St), k59 σ x1 x2 = some t → gx l E mi_Mo_make (some (.int t.1), t.2) σ [(0, .ref (E.1 45)), (1, .int x1), (2, .int x2)] 59 []) (σ : tx_St) (x1 : Int32) (x2 : Int32) (t : Int32 × tx_St) (hT : fx_Mo_make_b97 k59 σ x1 x2 = some t) : gx l E mi_Mo_make (some (.int t.1), t.2) σ [(0, .ref (E.1 45)), (1, .int x1), (2, .int x2)] 97 [] := by
  unfold fx_Mo_make_b97 at hT
  refine gx_iinc (pc := 97) (x2 + (-1 : Int32)) 2 [(2, .int (x2 + (-1 : Int32))), (0, .ref (E.1 45)), (1, .int x1)] d_Mo_make_97 rfl (tx_inc (by decide)) (Nat.le_of_ble_eq_true rfl) rfl ?_
  refine gx_goto (pc := 100) 59 d_Mo_make_100 rfl ?_
  refine gx_sub [1, 2, 0] rfl ?_
  exact j59 σ x1 (x2 + (-1 : Int32)) _ hT
set_option maxRecDepth 100000 in
set_option maxHeartbeats 4000000 in
theorem fx_Mo_make_b59_w {l : Launch} {E : tx_E} : ∀ (n : Nat) (σ : tx_St) (x1 : Int32) (x2 : Int32) (t : Int32 × tx_St), fx_Mo_make_b59 n σ x1 x2 = some t → gx l E mi_Mo_make (some (.int t.1), t.2) σ [(0, .ref (E.1 45)), (1, .int x1), (2, .int x2)] 59 [] := by
  intro n
  induction n with
  | zero => intro σ x1 x2 t hT; cases hT
  | succ n ih =>
    intro σ x1 x2 t hT
    rw [fx_Mo_make_b59] at hT
    refine gx_iload_n (pc := 59) 2 d_Mo_make_59 rfl rfl ?_
    refine gx_if_lt (pc := 60) 103 d_Mo_make_60 rfl (fun h8 => ?_) (fun h8 => ?_)
    · have hT := tx_ifp h8 hT
      refine gx_sub [0] rfl ?_
      exact fx_Mo_make_b103_w  σ _ hT
    · have hT := tx_ifn h8 hT
      refine gx_iload_n (pc := 63) 1 d_Mo_make_63 rfl rfl ?_
      refine gx_iconst (pc := 64) (1 : Int32) d_Mo_make_64 (by decide) ?_
      refine gx_icmp_le (pc := 65) 103 d_Mo_make_65 rfl (fun h9 => ?_) (fun h9 => ?_)
      · have hT := tx_ifp h9 hT
        refine gx_sub [0] rfl ?_
        exact fx_Mo_make_b103_w  σ _ hT
      · have hT := tx_ifn h9 hT
        refine gx_aload_n (pc := 68) 0 d_Mo_make_68 rfl rfl ?_
        refine gx_iload_n (pc := 69) 1 d_Mo_make_69 rfl rfl ?_
        refine gx_iconst (pc := 70) (2 : Int32) d_Mo_make_70 (by decide) ?_
        refine gx_isub (pc := 71) d_Mo_make_71 ?_
        refine gx_iload_n (pc := 72) 2 d_Mo_make_72 rfl rfl ?_
        obtain ⟨r11, σ10, cσ10, hT⟩ := tx_ci_some hT
        refine gx_callV (pc := 73) (As := [.int (x1 - (2 : Int32)), .int x2]) (rest := []) cm_Mo_owns lk_Mo_140 (fx_Mo_owns_c l E σ (x1 - (2 : Int32)) x2 _ cσ10) (rfl) (by decide) rfl rfl tx_fi_Mo_make_Mo_owns (Nat.le_of_ble_eq_true rfl) d_Mo_make_73 ?_
        change gx l E mi_Mo_make _ σ10 [(0, .ref (E.1 45)), (1, .int x1), (2, .int x2)] 76 [.int r11]
        refine gx_if_eq (pc := 76) 97 d_Mo_make_76 rfl (fun h12 => ?_) (fun h12 => ?_)
        · have hT := tx_ifp h12 hT
          exact fx_Mo_make_b97_w (fx_Mo_make_b59 n) (ih) σ10 x1 x2 _ hT
        · have hT := tx_ifn h12 hT
          refine gx_aload_n (pc := 79) 0 d_Mo_make_79 rfl rfl ?_
          refine gx_getR (pc := 80) 62 fl_Mo_59 d_Mo_make_80 (rfl) (by decide) rfl ?_
          refine gx_bipush (pc := 83) (12 : Int32) d_Mo_make_83 (by decide) ?_
          refine gx_aload_n (pc := 85) 0 d_Mo_make_85 rfl rfl ?_
          refine gx_getI (pc := 86) (σ10 45 20) fl_Mo_226 d_Mo_make_86 (rfl) (by decide) rfl rfl ?_
          refine gx_imul (pc := 89) d_Mo_make_89 ?_
          refine gx_iload_n (pc := 90) 2 d_Mo_make_90 rfl rfl ?_
          refine gx_iadd (pc := 91) d_Mo_make_91 ?_
          refine gx_aload_n (pc := 92) 0 d_Mo_make_92 rfl rfl ?_
          obtain ⟨r14, σ13, cσ13, hT⟩ := tx_ci_some hT
          refine gx_callV (pc := 93) (As := []) (rest := [.int (((12 : Int32) * (σ10 45 20)) + x2), .ref (E.1 62)]) cm_Mo_pop lk_Mo_213 (fx_Mo_pop_c l E σ10 _ cσ13) (rfl) (by decide) rfl rfl tx_fi_Mo_make_Mo_pop (Nat.le_of_ble_eq_true rfl) d_Mo_make_93 ?_
          change gx l E mi_Mo_make _ σ13 [(0, .ref (E.1 45)), (1, .int x1), (2, .int x2)] 96 [.int r14, .int (((12 : Int32) * (σ10 45 20)) + x2), .ref (E.1 62)]
          obtain ⟨σ15, gσ15, iσ15, hT⟩ := tx_wr_some hT
          refine gx_iast (pc := 96) d_Mo_make_96 (rfl) iσ15 ?_
          rw [gσ15]
          exact fx_Mo_make_b97_w (fx_Mo_make_b59 n) (ih) σ15 x1 x2 _ hT
set_option maxRecDepth 100000 in
set_option maxHeartbeats 4000000 in
theorem fx_Mo_make_b52_w {l : Launch} {E : tx_E} (σ : tx_St) (x1 : Int32) (t : Int32 × tx_St) (hT : fx_Mo_make_b52 σ x1 = some t) : gx l E mi_Mo_make (some (.int t.1), t.2) σ [(0, .ref (E.1 45)), (1, .int x1)] 52 [] := by
  unfold fx_Mo_make_b52 at hT
  refine gx_aload_n (pc := 52) 0 d_Mo_make_52 rfl rfl ?_
  refine gx_getI (pc := 53) (σ 45 3) fl_Mo_101 d_Mo_make_53 (rfl) (by decide) rfl rfl ?_
  refine gx_iconst (pc := 56) (1 : Int32) d_Mo_make_56 (by decide) ?_
  refine gx_isub (pc := 57) d_Mo_make_57 ?_
  refine gx_istore_n (pc := 58) [(2, .int ((σ 45 3) - (1 : Int32))), (0, .ref (E.1 45)), (1, .int x1)] d_Mo_make_58 rfl (Nat.le_of_ble_eq_true rfl) rfl ?_
  refine gx_sub [1, 2, 0] rfl ?_
  exact fx_Mo_make_b59_w  tx_fu σ x1 ((σ 45 3) - (1 : Int32)) _ hT
set_option maxRecDepth 100000 in
set_option maxHeartbeats 4000000 in
theorem fx_Mo_make_c (l : Launch) (E : tx_E) (σ : tx_St) (x1 : Int32) (t : Int32 × tx_St) (hT : fx_Mo_make σ x1 = some t) : tx_MX l E y_Mo_make mi_Mo_make (some (.int t.1), t.2) [.ref (E.1 45), .int x1] σ := by
  refine tx_MX_of (by decide) rfl (Nat.le_of_ble_eq_true rfl) ?_
  show gx l E mi_Mo_make (some (.int t.1), t.2) σ [(0, .ref (E.1 45)), (1, .int x1)] 0 []
  unfold fx_Mo_make at hT
  refine gx_aload_n (pc := 0) 0 d_Mo_make_0 rfl rfl ?_
  refine gx_getI (pc := 1) (σ 45 27) fl_Mo_223 d_Mo_make_1 (rfl) (by decide) rfl rfl ?_
  refine gx_bipush (pc := 4) (8 : Int32) d_Mo_make_4 (by decide) ?_
  refine gx_icmp_ne (pc := 6) 11 d_Mo_make_6 rfl (fun h1 => ?_) (fun h1 => ?_)
  · have hT := tx_ifn h1 hT
    refine gx_aload_n (pc := 11) 0 d_Mo_make_11 rfl rfl ?_
    refine gx_dup (pc := 12) d_Mo_make_12 rfl ?_
    refine gx_getI (pc := 13) (σ 45 27) fl_Mo_223 d_Mo_make_13 (rfl) (by decide) rfl rfl ?_
    refine gx_iconst (pc := 16) (1 : Int32) d_Mo_make_16 (by decide) ?_
    refine gx_iadd (pc := 17) d_Mo_make_17 ?_
    obtain ⟨σ2, gσ2, hT⟩ := tx_pt_some hT
    refine gx_putI (pc := 18) fp_Mo_223 d_Mo_make_18 (rfl) (by decide) rfl ?_
    rw [gσ2]
    refine gx_aload_n (pc := 21) 0 d_Mo_make_21 rfl rfl ?_
    refine gx_getR (pc := 22) 61 fl_Mo_56 d_Mo_make_22 (rfl) (by decide) rfl ?_
    refine gx_aload_n (pc := 25) 0 d_Mo_make_25 rfl rfl ?_
    refine gx_getI (pc := 26) (σ2 45 20) fl_Mo_226 d_Mo_make_26 (rfl) (by decide) rfl rfl ?_
    refine gx_iload_n (pc := 29) 1 d_Mo_make_29 rfl rfl ?_
    obtain ⟨σ3, gσ3, iσ3, hT⟩ := tx_wr_some hT
    refine gx_iast (pc := 30) d_Mo_make_30 (rfl) iσ3 ?_
    rw [gσ3]
    refine gx_iload_n (pc := 31) 1 d_Mo_make_31 rfl rfl ?_
    refine gx_iconst (pc := 32) (1 : Int32) d_Mo_make_32 (by decide) ?_
    refine gx_icmp_ne (pc := 33) 52 d_Mo_make_33 rfl (fun h4 => ?_) (fun h4 => ?_)
    · have hT := tx_ifn h4 hT
      exact fx_Mo_make_b52_w  σ3 x1 _ hT
    · have hT := tx_ifp h4 hT
      refine gx_aload_n (pc := 36) 0 d_Mo_make_36 rfl rfl ?_
      refine gx_getR (pc := 37) 62 fl_Mo_59 d_Mo_make_37 (rfl) (by decide) rfl ?_
      refine gx_bipush (pc := 40) (12 : Int32) d_Mo_make_40 (by decide) ?_
      refine gx_aload_n (pc := 42) 0 d_Mo_make_42 rfl rfl ?_
      refine gx_getI (pc := 43) (σ3 45 20) fl_Mo_226 d_Mo_make_43 (rfl) (by decide) rfl rfl ?_
      refine gx_imul (pc := 46) d_Mo_make_46 ?_
      refine gx_aload_n (pc := 47) 0 d_Mo_make_47 rfl rfl ?_
      obtain ⟨r6, σ5, cσ5, hT⟩ := tx_ci_some hT
      refine gx_callV (pc := 48) (As := []) (rest := [.int ((12 : Int32) * (σ3 45 20)), .ref (E.1 62)]) cm_Mo_pop lk_Mo_213 (fx_Mo_pop_c l E σ3 _ cσ5) (rfl) (by decide) rfl rfl tx_fi_Mo_make_Mo_pop (Nat.le_of_ble_eq_true rfl) d_Mo_make_48 ?_
      change gx l E mi_Mo_make _ σ5 [(0, .ref (E.1 45)), (1, .int x1)] 51 [.int r6, .int ((12 : Int32) * (σ3 45 20)), .ref (E.1 62)]
      obtain ⟨σ7, gσ7, iσ7, hT⟩ := tx_wr_some hT
      refine gx_iast (pc := 51) d_Mo_make_51 (rfl) iσ7 ?_
      rw [gσ7]
      exact fx_Mo_make_b52_w  σ7 x1 _ hT
  · have hT := tx_ifp h1 hT
    refine gx_iconst (pc := 9) (4 : Int32) d_Mo_make_9 (by decide) ?_
    cases hT
    exact gx_iret (pc := 10) d_Mo_make_10 rfl rfl
theorem d_Mo_slotted_0 : decode c_Mo_slotted 0 = .ok (.iload_n 1, 1) := by decide +kernel
theorem d_Mo_slotted_1 : decode c_Mo_slotted 1 = .ok (.ifCond .eq (10), 3) := by decide +kernel
theorem d_Mo_slotted_4 : decode c_Mo_slotted 4 = .ok (.aload_n 0, 1) := by decide +kernel
theorem d_Mo_slotted_5 : decode c_Mo_slotted 5 = .ok (.invokevirtual 213, 3) := by decide +kernel
theorem d_Mo_slotted_8 : decode c_Mo_slotted 8 = .ok (.goto (4), 3) := by decide +kernel
theorem d_Mo_slotted_11 : decode c_Mo_slotted 11 = .ok (.iconst (0), 1) := by decide +kernel
theorem d_Mo_slotted_12 : decode c_Mo_slotted 12 = .ok (.istore_n 3, 1) := by decide +kernel
theorem d_Mo_slotted_13 : decode c_Mo_slotted 13 = .ok (.aload_n 0, 1) := by decide +kernel
theorem d_Mo_slotted_14 : decode c_Mo_slotted 14 = .ok (.invokevirtual 213, 3) := by decide +kernel
theorem d_Mo_slotted_17 : decode c_Mo_slotted 17 = .ok (.istore 4, 2) := by decide +kernel
theorem d_Mo_slotted_19 : decode c_Mo_slotted 19 = .ok (.iload 4, 2) := by decide +kernel
theorem d_Mo_slotted_21 : decode c_Mo_slotted 21 = .ok (.ifCond .ne (5), 3) := by decide +kernel
theorem d_Mo_slotted_24 : decode c_Mo_slotted 24 = .ok (.iconst (1), 1) := by decide +kernel
theorem d_Mo_slotted_25 : decode c_Mo_slotted 25 = .ok (.ireturn, 1) := by decide +kernel
theorem d_Mo_slotted_26 : decode c_Mo_slotted 26 = .ok (.bipush (12), 2) := by decide +kernel
theorem d_Mo_slotted_28 : decode c_Mo_slotted 28 = .ok (.iload 4, 2) := by decide +kernel
theorem d_Mo_slotted_30 : decode c_Mo_slotted 30 = .ok (.iconst (1), 1) := by decide +kernel
theorem d_Mo_slotted_31 : decode c_Mo_slotted 31 = .ok (.isub, 1) := by decide +kernel
theorem d_Mo_slotted_32 : decode c_Mo_slotted 32 = .ok (.imul, 1) := by decide +kernel
theorem d_Mo_slotted_33 : decode c_Mo_slotted 33 = .ok (.iload_n 2, 1) := by decide +kernel
theorem d_Mo_slotted_34 : decode c_Mo_slotted 34 = .ok (.iadd, 1) := by decide +kernel
theorem d_Mo_slotted_35 : decode c_Mo_slotted 35 = .ok (.istore 5, 2) := by decide +kernel
theorem d_Mo_slotted_37 : decode c_Mo_slotted 37 = .ok (.iload_n 1, 1) := by decide +kernel
theorem d_Mo_slotted_38 : decode c_Mo_slotted 38 = .ok (.ifCond .eq (14), 3) := by decide +kernel
theorem d_Mo_slotted_41 : decode c_Mo_slotted 41 = .ok (.aload_n 0, 1) := by decide +kernel
theorem d_Mo_slotted_42 : decode c_Mo_slotted 42 = .ok (.getfield 59, 3) := by decide +kernel
theorem d_Mo_slotted_45 : decode c_Mo_slotted 45 = .ok (.iload 5, 2) := by decide +kernel
theorem d_Mo_slotted_47 : decode c_Mo_slotted 47 = .ok (.iload_n 3, 1) := by decide +kernel
theorem d_Mo_slotted_48 : decode c_Mo_slotted 48 = .ok (.iastore, 1) := by decide +kernel
theorem d_Mo_slotted_49 : decode c_Mo_slotted 49 = .ok (.goto (14), 3) := by decide +kernel
theorem d_Mo_slotted_52 : decode c_Mo_slotted 52 = .ok (.aload_n 0, 1) := by decide +kernel
theorem d_Mo_slotted_53 : decode c_Mo_slotted 53 = .ok (.aload_n 0, 1) := by decide +kernel
theorem d_Mo_slotted_54 : decode c_Mo_slotted 54 = .ok (.getfield 59, 3) := by decide +kernel
theorem d_Mo_slotted_57 : decode c_Mo_slotted 57 = .ok (.iload 5, 2) := by decide +kernel
theorem d_Mo_slotted_59 : decode c_Mo_slotted 59 = .ok (.iaload, 1) := by decide +kernel
theorem d_Mo_slotted_60 : decode c_Mo_slotted 60 = .ok (.invokevirtual 229, 3) := by decide +kernel
theorem d_Mo_slotted_63 : decode c_Mo_slotted 63 = .ok (.iconst (0), 1) := by decide +kernel
theorem d_Mo_slotted_64 : decode c_Mo_slotted 64 = .ok (.ireturn, 1) := by decide +kernel
def fx_Mo_slotted_b63 (σ : tx_St) : Option (Int32 × tx_St) := some ((0 : Int32), σ)
def fx_Mo_slotted_b12 (σ : tx_St) (x1 : Int32) (x2 : Int32) (s0 : Int32) : Option (Int32 × tx_St) := tx_ci (fx_Mo_pop σ) fun r5 σ4 => (if r5 = 0 then some ((1 : Int32), σ4) else (if x1 = 0 then tx_rd σ4 62 3840 (((12 : Int32) * (r5 - (1 : Int32))) + x2) fun v8 => tx_cv (fx_Mo_push σ4 v8) fun σ9 => fx_Mo_slotted_b63  σ9 else tx_wr σ4 62 3840 (((12 : Int32) * (r5 - (1 : Int32))) + x2) s0 fun σ10 => fx_Mo_slotted_b63  σ10))
def fx_Mo_slotted (σ : tx_St) (x1 : Int32) (x2 : Int32) : Option (Int32 × tx_St) := (if x1 = 0 then fx_Mo_slotted_b12  σ x1 x2 (0 : Int32) else tx_ci (fx_Mo_pop σ) fun r3 σ2 => fx_Mo_slotted_b12  σ2 x1 x2 r3)
set_option maxRecDepth 100000 in
set_option maxHeartbeats 4000000 in
theorem fx_Mo_slotted_b63_w {l : Launch} {E : tx_E} (σ : tx_St) (t : Int32 × tx_St) (hT : fx_Mo_slotted_b63 σ  = some t) : gx l E mi_Mo_slotted (some (.int t.1), t.2) σ [] 63 [] := by
  unfold fx_Mo_slotted_b63 at hT
  refine gx_iconst (pc := 63) (0 : Int32) d_Mo_slotted_63 (by decide) ?_
  cases hT
  exact gx_iret (pc := 64) d_Mo_slotted_64 rfl rfl
set_option maxRecDepth 100000 in
set_option maxHeartbeats 4000000 in
theorem fx_Mo_slotted_b12_w {l : Launch} {E : tx_E} (σ : tx_St) (x1 : Int32) (x2 : Int32) (s0 : Int32) (t : Int32 × tx_St) (hT : fx_Mo_slotted_b12 σ x1 x2 s0 = some t) : gx l E mi_Mo_slotted (some (.int t.1), t.2) σ [(0, .ref (E.1 45)), (1, .int x1), (2, .int x2)] 12 [.int s0] := by
  unfold fx_Mo_slotted_b12 at hT
  refine gx_istore_n (pc := 12) [(3, .int s0), (0, .ref (E.1 45)), (1, .int x1), (2, .int x2)] d_Mo_slotted_12 rfl (Nat.le_of_ble_eq_true rfl) rfl ?_
  refine gx_aload_n (pc := 13) 1 d_Mo_slotted_13 rfl rfl ?_
  obtain ⟨r5, σ4, cσ4, hT⟩ := tx_ci_some hT
  refine gx_callV (pc := 14) (As := []) (rest := []) cm_Mo_pop lk_Mo_213 (fx_Mo_pop_c l E σ _ cσ4) (rfl) (by decide) rfl rfl tx_fi_Mo_slotted_Mo_pop (Nat.le_of_ble_eq_true rfl) d_Mo_slotted_14 ?_
  change gx l E mi_Mo_slotted _ σ4 [(3, .int s0), (0, .ref (E.1 45)), (1, .int x1), (2, .int x2)] 17 [.int r5]
  refine gx_istore (pc := 17) [(4, .int r5), (3, .int s0), (0, .ref (E.1 45)), (1, .int x1), (2, .int x2)] d_Mo_slotted_17 (Nat.le_of_ble_eq_true rfl) rfl ?_
  refine gx_iload (pc := 19) 0 d_Mo_slotted_19 rfl ?_
  refine gx_if_ne (pc := 21) 26 d_Mo_slotted_21 rfl (fun h6 => ?_) (fun h6 => ?_)
  · have hT := tx_ifn h6 hT
    refine gx_bipush (pc := 26) (12 : Int32) d_Mo_slotted_26 (by decide) ?_
    refine gx_iload (pc := 28) 0 d_Mo_slotted_28 rfl ?_
    refine gx_iconst (pc := 30) (1 : Int32) d_Mo_slotted_30 (by decide) ?_
    refine gx_isub (pc := 31) d_Mo_slotted_31 ?_
    refine gx_imul (pc := 32) d_Mo_slotted_32 ?_
    refine gx_iload_n (pc := 33) 4 d_Mo_slotted_33 rfl rfl ?_
    refine gx_iadd (pc := 34) d_Mo_slotted_34 ?_
    refine gx_istore (pc := 35) [(5, .int (((12 : Int32) * (r5 - (1 : Int32))) + x2)), (4, .int r5), (3, .int s0), (0, .ref (E.1 45)), (1, .int x1), (2, .int x2)] d_Mo_slotted_35 (Nat.le_of_ble_eq_true rfl) rfl ?_
    refine gx_iload_n (pc := 37) 4 d_Mo_slotted_37 rfl rfl ?_
    refine gx_if_eq (pc := 38) 52 d_Mo_slotted_38 rfl (fun h7 => ?_) (fun h7 => ?_)
    · have hT := tx_ifp h7 hT
      refine gx_aload_n (pc := 52) 3 d_Mo_slotted_52 rfl rfl ?_
      refine gx_aload_n (pc := 53) 3 d_Mo_slotted_53 rfl rfl ?_
      refine gx_getR (pc := 54) 62 fl_Mo_59 d_Mo_slotted_54 (rfl) (by decide) rfl ?_
      refine gx_iload (pc := 57) 0 d_Mo_slotted_57 rfl ?_
      obtain ⟨v8, gv8, iv8, hT⟩ := tx_rd_some hT
      refine gx_iald (pc := 59) v8 d_Mo_slotted_59 (rfl) iv8 gv8 ?_
      obtain ⟨σ9, cσ9, hT⟩ := tx_cv_some hT
      refine gx_callV (pc := 60) (As := [.int v8]) (rest := []) cm_Mo_push lk_Mo_229 (fx_Mo_push_c l E σ4 v8 _ cσ9) (rfl) (by decide) rfl rfl tx_fi_Mo_slotted_Mo_push (Nat.le_of_ble_eq_true rfl) d_Mo_slotted_60 ?_
      change gx l E mi_Mo_slotted _ σ9 [(5, .int (((12 : Int32) * (r5 - (1 : Int32))) + x2)), (4, .int r5), (3, .int s0), (0, .ref (E.1 45)), (1, .int x1), (2, .int x2)] 63 []
      refine gx_sub [] rfl ?_
      exact fx_Mo_slotted_b63_w  σ9 _ hT
    · have hT := tx_ifn h7 hT
      refine gx_aload_n (pc := 41) 3 d_Mo_slotted_41 rfl rfl ?_
      refine gx_getR (pc := 42) 62 fl_Mo_59 d_Mo_slotted_42 (rfl) (by decide) rfl ?_
      refine gx_iload (pc := 45) 0 d_Mo_slotted_45 rfl ?_
      refine gx_iload_n (pc := 47) 2 d_Mo_slotted_47 rfl rfl ?_
      obtain ⟨σ10, gσ10, iσ10, hT⟩ := tx_wr_some hT
      refine gx_iast (pc := 48) d_Mo_slotted_48 (rfl) iσ10 ?_
      rw [gσ10]
      refine gx_goto (pc := 49) 63 d_Mo_slotted_49 rfl ?_
      refine gx_sub [] rfl ?_
      exact fx_Mo_slotted_b63_w  σ10 _ hT
  · have hT := tx_ifp h6 hT
    refine gx_iconst (pc := 24) (1 : Int32) d_Mo_slotted_24 (by decide) ?_
    cases hT
    exact gx_iret (pc := 25) d_Mo_slotted_25 rfl rfl
set_option maxRecDepth 100000 in
set_option maxHeartbeats 4000000 in
theorem fx_Mo_slotted_c (l : Launch) (E : tx_E) (σ : tx_St) (x1 : Int32) (x2 : Int32) (t : Int32 × tx_St) (hT : fx_Mo_slotted σ x1 x2 = some t) : tx_MX l E y_Mo_slotted mi_Mo_slotted (some (.int t.1), t.2) [.ref (E.1 45), .int x1, .int x2] σ := by
  refine tx_MX_of (by decide) rfl (Nat.le_of_ble_eq_true rfl) ?_
  show gx l E mi_Mo_slotted (some (.int t.1), t.2) σ [(0, .ref (E.1 45)), (1, .int x1), (2, .int x2)] 0 []
  unfold fx_Mo_slotted at hT
  refine gx_iload_n (pc := 0) 1 d_Mo_slotted_0 rfl rfl ?_
  refine gx_if_eq (pc := 1) 11 d_Mo_slotted_1 rfl (fun h1 => ?_) (fun h1 => ?_)
  · have hT := tx_ifp h1 hT
    refine gx_iconst (pc := 11) (0 : Int32) d_Mo_slotted_11 (by decide) ?_
    exact fx_Mo_slotted_b12_w  σ x1 x2 (0 : Int32) _ hT
  · have hT := tx_ifn h1 hT
    refine gx_aload_n (pc := 4) 0 d_Mo_slotted_4 rfl rfl ?_
    obtain ⟨r3, σ2, cσ2, hT⟩ := tx_ci_some hT
    refine gx_callV (pc := 5) (As := []) (rest := []) cm_Mo_pop lk_Mo_213 (fx_Mo_pop_c l E σ _ cσ2) (rfl) (by decide) rfl rfl tx_fi_Mo_slotted_Mo_pop (Nat.le_of_ble_eq_true rfl) d_Mo_slotted_5 ?_
    change gx l E mi_Mo_slotted _ σ2 [(0, .ref (E.1 45)), (1, .int x1), (2, .int x2)] 8 [.int r3]
    refine gx_goto (pc := 8) 12 d_Mo_slotted_8 rfl ?_
    exact fx_Mo_slotted_b12_w  σ2 x1 x2 r3 _ hT
theorem d_Mo_call_0 : decode c_Mo_call 0 = .ok (.aload_n 0, 1) := by decide +kernel
theorem d_Mo_call_1 : decode c_Mo_call 1 = .ok (.getfield 34, 3) := by decide +kernel
theorem d_Mo_call_4 : decode c_Mo_call 4 = .ok (.iload_n 1, 1) := by decide +kernel
theorem d_Mo_call_5 : decode c_Mo_call 5 = .ok (.iaload, 1) := by decide +kernel
theorem d_Mo_call_6 : decode c_Mo_call 6 = .ok (.ifCond .ge (7), 3) := by decide +kernel
theorem d_Mo_call_9 : decode c_Mo_call 9 = .ok (.iconst (0), 1) := by decide +kernel
theorem d_Mo_call_10 : decode c_Mo_call 10 = .ok (.goto (7), 3) := by decide +kernel
theorem d_Mo_call_13 : decode c_Mo_call 13 = .ok (.aload_n 0, 1) := by decide +kernel
theorem d_Mo_call_14 : decode c_Mo_call 14 = .ok (.invokevirtual 213, 3) := by decide +kernel
theorem d_Mo_call_17 : decode c_Mo_call 17 = .ok (.istore_n 2, 1) := by decide +kernel
theorem d_Mo_call_18 : decode c_Mo_call 18 = .ok (.aload_n 0, 1) := by decide +kernel
theorem d_Mo_call_19 : decode c_Mo_call 19 = .ok (.getfield 28, 3) := by decide +kernel
theorem d_Mo_call_22 : decode c_Mo_call 22 = .ok (.iload_n 1, 1) := by decide +kernel
theorem d_Mo_call_23 : decode c_Mo_call 23 = .ok (.iaload, 1) := by decide +kernel
theorem d_Mo_call_24 : decode c_Mo_call 24 = .ok (.iconst (1), 1) := by decide +kernel
theorem d_Mo_call_25 : decode c_Mo_call 25 = .ok (.if_icmp .ne (7), 3) := by decide +kernel
theorem d_Mo_call_28 : decode c_Mo_call 28 = .ok (.iconst (0), 1) := by decide +kernel
theorem d_Mo_call_29 : decode c_Mo_call 29 = .ok (.goto (7), 3) := by decide +kernel
theorem d_Mo_call_32 : decode c_Mo_call 32 = .ok (.aload_n 0, 1) := by decide +kernel
theorem d_Mo_call_33 : decode c_Mo_call 33 = .ok (.invokevirtual 213, 3) := by decide +kernel
theorem d_Mo_call_36 : decode c_Mo_call 36 = .ok (.istore_n 3, 1) := by decide +kernel
theorem d_Mo_call_37 : decode c_Mo_call 37 = .ok (.aload_n 0, 1) := by decide +kernel
theorem d_Mo_call_38 : decode c_Mo_call 38 = .ok (.getfield 28, 3) := by decide +kernel
theorem d_Mo_call_41 : decode c_Mo_call 41 = .ok (.iload_n 1, 1) := by decide +kernel
theorem d_Mo_call_42 : decode c_Mo_call 42 = .ok (.iaload, 1) := by decide +kernel
theorem d_Mo_call_43 : decode c_Mo_call 43 = .ok (.ifCond .ne (9), 3) := by decide +kernel
theorem d_Mo_call_46 : decode c_Mo_call 46 = .ok (.iload_n 3, 1) := by decide +kernel
theorem d_Mo_call_47 : decode c_Mo_call 47 = .ok (.ifCond .ne (5), 3) := by decide +kernel
theorem d_Mo_call_50 : decode c_Mo_call 50 = .ok (.iconst (1), 1) := by decide +kernel
theorem d_Mo_call_51 : decode c_Mo_call 51 = .ok (.ireturn, 1) := by decide +kernel
theorem d_Mo_call_52 : decode c_Mo_call 52 = .ok (.aload_n 0, 1) := by decide +kernel
theorem d_Mo_call_53 : decode c_Mo_call 53 = .ok (.getfield 210, 3) := by decide +kernel
theorem d_Mo_call_56 : decode c_Mo_call 56 = .ok (.bipush (6), 2) := by decide +kernel
theorem d_Mo_call_58 : decode c_Mo_call 58 = .ok (.if_icmp .ne (5), 3) := by decide +kernel
theorem d_Mo_call_61 : decode c_Mo_call 61 = .ok (.iconst (3), 1) := by decide +kernel
theorem d_Mo_call_62 : decode c_Mo_call 62 = .ok (.ireturn, 1) := by decide +kernel
theorem d_Mo_call_63 : decode c_Mo_call 63 = .ok (.aload_n 0, 1) := by decide +kernel
theorem d_Mo_call_64 : decode c_Mo_call 64 = .ok (.aload_n 0, 1) := by decide +kernel
theorem d_Mo_call_65 : decode c_Mo_call 65 = .ok (.iload_n 1, 1) := by decide +kernel
theorem d_Mo_call_66 : decode c_Mo_call 66 = .ok (.iload_n 3, 1) := by decide +kernel
theorem d_Mo_call_67 : decode c_Mo_call 67 = .ok (.invokevirtual 216, 3) := by decide +kernel
theorem d_Mo_call_70 : decode c_Mo_call 70 = .ok (.iload_n 3, 1) := by decide +kernel
theorem d_Mo_call_71 : decode c_Mo_call 71 = .ok (.iload_n 2, 1) := by decide +kernel
theorem d_Mo_call_72 : decode c_Mo_call 72 = .ok (.invokevirtual 219, 3) := by decide +kernel
theorem d_Mo_call_75 : decode c_Mo_call 75 = .ok (.iconst (0), 1) := by decide +kernel
theorem d_Mo_call_76 : decode c_Mo_call 76 = .ok (.ireturn, 1) := by decide +kernel
def fx_Mo_call_b52 (σ : tx_St) (x1 : Int32) (x2 : Int32) (x3 : Int32) : Option (Int32 × tx_St) := (if (σ 45 28) = (6 : Int32) then some ((3 : Int32), σ) else tx_ci (fx_Mo_chosen σ x1 x3) fun r14 σ13 => tx_cv (fx_Mo_enter σ13 r14 x3 x2) fun σ15 => some ((0 : Int32), σ15))
def fx_Mo_call_b36 (σ : tx_St) (x1 : Int32) (x2 : Int32) (s0 : Int32) : Option (Int32 × tx_St) := tx_rd σ 52 8 x1 fun v9 => (if v9 = 0 then (if s0 = 0 then some ((1 : Int32), σ) else fx_Mo_call_b52  σ x1 x2 s0) else fx_Mo_call_b52  σ x1 x2 s0)
def fx_Mo_call_b17 (σ : tx_St) (x1 : Int32) (s0 : Int32) : Option (Int32 × tx_St) := tx_rd σ 52 8 x1 fun v5 => (if v5 = (1 : Int32) then fx_Mo_call_b36  σ x1 s0 (0 : Int32) else tx_ci (fx_Mo_pop σ) fun r8 σ7 => fx_Mo_call_b36  σ7 x1 s0 r8)
def fx_Mo_call (σ : tx_St) (x1 : Int32) : Option (Int32 × tx_St) := tx_rd σ 54 8 x1 fun v1 => (if 0 ≤ v1 then tx_ci (fx_Mo_pop σ) fun r4 σ3 => fx_Mo_call_b17  σ3 x1 r4 else fx_Mo_call_b17  σ x1 (0 : Int32))
set_option maxRecDepth 100000 in
set_option maxHeartbeats 4000000 in
theorem fx_Mo_call_b52_w {l : Launch} {E : tx_E} (σ : tx_St) (x1 : Int32) (x2 : Int32) (x3 : Int32) (t : Int32 × tx_St) (hT : fx_Mo_call_b52 σ x1 x2 x3 = some t) : gx l E mi_Mo_call (some (.int t.1), t.2) σ [(0, .ref (E.1 45)), (1, .int x1), (2, .int x2), (3, .int x3)] 52 [] := by
  unfold fx_Mo_call_b52 at hT
  refine gx_aload_n (pc := 52) 0 d_Mo_call_52 rfl rfl ?_
  refine gx_getI (pc := 53) (σ 45 28) fl_Mo_210 d_Mo_call_53 (rfl) (by decide) rfl rfl ?_
  refine gx_bipush (pc := 56) (6 : Int32) d_Mo_call_56 (by decide) ?_
  refine gx_icmp_ne (pc := 58) 63 d_Mo_call_58 rfl (fun h12 => ?_) (fun h12 => ?_)
  · have hT := tx_ifn h12 hT
    refine gx_aload_n (pc := 63) 0 d_Mo_call_63 rfl rfl ?_
    refine gx_aload_n (pc := 64) 0 d_Mo_call_64 rfl rfl ?_
    refine gx_iload_n (pc := 65) 1 d_Mo_call_65 rfl rfl ?_
    refine gx_iload_n (pc := 66) 3 d_Mo_call_66 rfl rfl ?_
    obtain ⟨r14, σ13, cσ13, hT⟩ := tx_ci_some hT
    refine gx_callV (pc := 67) (As := [.int x1, .int x3]) (rest := [.ref (E.1 45)]) cm_Mo_chosen lk_Mo_216 (fx_Mo_chosen_c l E σ x1 x3 _ cσ13) (rfl) (by decide) rfl rfl tx_fi_Mo_call_Mo_chosen (Nat.le_of_ble_eq_true rfl) d_Mo_call_67 ?_
    change gx l E mi_Mo_call _ σ13 [(0, .ref (E.1 45)), (1, .int x1), (2, .int x2), (3, .int x3)] 70 [.int r14, .ref (E.1 45)]
    refine gx_iload_n (pc := 70) 3 d_Mo_call_70 rfl rfl ?_
    refine gx_iload_n (pc := 71) 2 d_Mo_call_71 rfl rfl ?_
    obtain ⟨σ15, cσ15, hT⟩ := tx_cv_some hT
    refine gx_callV (pc := 72) (As := [.int r14, .int x3, .int x2]) (rest := []) cm_Mo_enter lk_Mo_219 (fx_Mo_enter_c l E σ13 r14 x3 x2 _ cσ15) (rfl) (by decide) rfl rfl tx_fi_Mo_call_Mo_enter (Nat.le_of_ble_eq_true rfl) d_Mo_call_72 ?_
    change gx l E mi_Mo_call _ σ15 [(0, .ref (E.1 45)), (1, .int x1), (2, .int x2), (3, .int x3)] 75 []
    refine gx_iconst (pc := 75) (0 : Int32) d_Mo_call_75 (by decide) ?_
    cases hT
    exact gx_iret (pc := 76) d_Mo_call_76 rfl rfl
  · have hT := tx_ifp h12 hT
    refine gx_iconst (pc := 61) (3 : Int32) d_Mo_call_61 (by decide) ?_
    cases hT
    exact gx_iret (pc := 62) d_Mo_call_62 rfl rfl
set_option maxRecDepth 100000 in
set_option maxHeartbeats 4000000 in
theorem fx_Mo_call_b36_w {l : Launch} {E : tx_E} (σ : tx_St) (x1 : Int32) (x2 : Int32) (s0 : Int32) (t : Int32 × tx_St) (hT : fx_Mo_call_b36 σ x1 x2 s0 = some t) : gx l E mi_Mo_call (some (.int t.1), t.2) σ [(0, .ref (E.1 45)), (1, .int x1), (2, .int x2)] 36 [.int s0] := by
  unfold fx_Mo_call_b36 at hT
  refine gx_istore_n (pc := 36) [(3, .int s0), (0, .ref (E.1 45)), (1, .int x1), (2, .int x2)] d_Mo_call_36 rfl (Nat.le_of_ble_eq_true rfl) rfl ?_
  refine gx_aload_n (pc := 37) 1 d_Mo_call_37 rfl rfl ?_
  refine gx_getR (pc := 38) 52 fl_Mo_28 d_Mo_call_38 (rfl) (by decide) rfl ?_
  refine gx_iload_n (pc := 41) 2 d_Mo_call_41 rfl rfl ?_
  obtain ⟨v9, gv9, iv9, hT⟩ := tx_rd_some hT
  refine gx_iald (pc := 42) v9 d_Mo_call_42 (rfl) iv9 gv9 ?_
  refine gx_if_ne (pc := 43) 52 d_Mo_call_43 rfl (fun h10 => ?_) (fun h10 => ?_)
  · have hT := tx_ifn h10 hT
    refine gx_sub [1, 2, 3, 0] rfl ?_
    exact fx_Mo_call_b52_w  σ x1 x2 s0 _ hT
  · have hT := tx_ifp h10 hT
    refine gx_iload_n (pc := 46) 0 d_Mo_call_46 rfl rfl ?_
    refine gx_if_ne (pc := 47) 52 d_Mo_call_47 rfl (fun h11 => ?_) (fun h11 => ?_)
    · have hT := tx_ifn h11 hT
      refine gx_sub [1, 2, 3, 0] rfl ?_
      exact fx_Mo_call_b52_w  σ x1 x2 s0 _ hT
    · have hT := tx_ifp h11 hT
      refine gx_iconst (pc := 50) (1 : Int32) d_Mo_call_50 (by decide) ?_
      cases hT
      exact gx_iret (pc := 51) d_Mo_call_51 rfl rfl
set_option maxRecDepth 100000 in
set_option maxHeartbeats 4000000 in
theorem fx_Mo_call_b17_w {l : Launch} {E : tx_E} (σ : tx_St) (x1 : Int32) (s0 : Int32) (t : Int32 × tx_St) (hT : fx_Mo_call_b17 σ x1 s0 = some t) : gx l E mi_Mo_call (some (.int t.1), t.2) σ [(0, .ref (E.1 45)), (1, .int x1)] 17 [.int s0] := by
  unfold fx_Mo_call_b17 at hT
  refine gx_istore_n (pc := 17) [(2, .int s0), (0, .ref (E.1 45)), (1, .int x1)] d_Mo_call_17 rfl (Nat.le_of_ble_eq_true rfl) rfl ?_
  refine gx_aload_n (pc := 18) 1 d_Mo_call_18 rfl rfl ?_
  refine gx_getR (pc := 19) 52 fl_Mo_28 d_Mo_call_19 (rfl) (by decide) rfl ?_
  refine gx_iload_n (pc := 22) 2 d_Mo_call_22 rfl rfl ?_
  obtain ⟨v5, gv5, iv5, hT⟩ := tx_rd_some hT
  refine gx_iald (pc := 23) v5 d_Mo_call_23 (rfl) iv5 gv5 ?_
  refine gx_iconst (pc := 24) (1 : Int32) d_Mo_call_24 (by decide) ?_
  refine gx_icmp_ne (pc := 25) 32 d_Mo_call_25 rfl (fun h6 => ?_) (fun h6 => ?_)
  · have hT := tx_ifn h6 hT
    refine gx_aload_n (pc := 32) 1 d_Mo_call_32 rfl rfl ?_
    obtain ⟨r8, σ7, cσ7, hT⟩ := tx_ci_some hT
    refine gx_callV (pc := 33) (As := []) (rest := []) cm_Mo_pop lk_Mo_213 (fx_Mo_pop_c l E σ _ cσ7) (rfl) (by decide) rfl rfl tx_fi_Mo_call_Mo_pop (Nat.le_of_ble_eq_true rfl) d_Mo_call_33 ?_
    change gx l E mi_Mo_call _ σ7 [(2, .int s0), (0, .ref (E.1 45)), (1, .int x1)] 36 [.int r8]
    refine gx_sub [1, 2, 0] rfl ?_
    exact fx_Mo_call_b36_w  σ7 x1 s0 r8 _ hT
  · have hT := tx_ifp h6 hT
    refine gx_iconst (pc := 28) (0 : Int32) d_Mo_call_28 (by decide) ?_
    refine gx_goto (pc := 29) 36 d_Mo_call_29 rfl ?_
    refine gx_sub [1, 2, 0] rfl ?_
    exact fx_Mo_call_b36_w  σ x1 s0 (0 : Int32) _ hT
set_option maxRecDepth 100000 in
set_option maxHeartbeats 4000000 in
theorem fx_Mo_call_c (l : Launch) (E : tx_E) (σ : tx_St) (x1 : Int32) (t : Int32 × tx_St) (hT : fx_Mo_call σ x1 = some t) : tx_MX l E y_Mo_call mi_Mo_call (some (.int t.1), t.2) [.ref (E.1 45), .int x1] σ := by
  refine tx_MX_of (by decide) rfl (Nat.le_of_ble_eq_true rfl) ?_
  show gx l E mi_Mo_call (some (.int t.1), t.2) σ [(0, .ref (E.1 45)), (1, .int x1)] 0 []
  unfold fx_Mo_call at hT
  refine gx_aload_n (pc := 0) 0 d_Mo_call_0 rfl rfl ?_
  refine gx_getR (pc := 1) 54 fl_Mo_34 d_Mo_call_1 (rfl) (by decide) rfl ?_
  refine gx_iload_n (pc := 4) 1 d_Mo_call_4 rfl rfl ?_
  obtain ⟨v1, gv1, iv1, hT⟩ := tx_rd_some hT
  refine gx_iald (pc := 5) v1 d_Mo_call_5 (rfl) iv1 gv1 ?_
  refine gx_if_ge (pc := 6) 13 d_Mo_call_6 rfl (fun h2 => ?_) (fun h2 => ?_)
  · have hT := tx_ifp h2 hT
    refine gx_aload_n (pc := 13) 0 d_Mo_call_13 rfl rfl ?_
    obtain ⟨r4, σ3, cσ3, hT⟩ := tx_ci_some hT
    refine gx_callV (pc := 14) (As := []) (rest := []) cm_Mo_pop lk_Mo_213 (fx_Mo_pop_c l E σ _ cσ3) (rfl) (by decide) rfl rfl tx_fi_Mo_call_Mo_pop (Nat.le_of_ble_eq_true rfl) d_Mo_call_14 ?_
    change gx l E mi_Mo_call _ σ3 [(0, .ref (E.1 45)), (1, .int x1)] 17 [.int r4]
    exact fx_Mo_call_b17_w  σ3 x1 r4 _ hT
  · have hT := tx_ifn h2 hT
    refine gx_iconst (pc := 9) (0 : Int32) d_Mo_call_9 (by decide) ?_
    refine gx_goto (pc := 10) 17 d_Mo_call_10 rfl ?_
    exact fx_Mo_call_b17_w  σ x1 (0 : Int32) _ hT
theorem d_Mo_sum_0 : decode c_Mo_sum 0 = .ok (.aload_n 0, 1) := by decide +kernel
theorem d_Mo_sum_1 : decode c_Mo_sum 1 = .ok (.invokevirtual 213, 3) := by decide +kernel
theorem d_Mo_sum_4 : decode c_Mo_sum 4 = .ok (.istore_n 2, 1) := by decide +kernel
theorem d_Mo_sum_5 : decode c_Mo_sum 5 = .ok (.aload_n 0, 1) := by decide +kernel
theorem d_Mo_sum_6 : decode c_Mo_sum 6 = .ok (.invokevirtual 213, 3) := by decide +kernel
theorem d_Mo_sum_9 : decode c_Mo_sum 9 = .ok (.istore_n 3, 1) := by decide +kernel
theorem d_Mo_sum_10 : decode c_Mo_sum 10 = .ok (.aload_n 0, 1) := by decide +kernel
theorem d_Mo_sum_11 : decode c_Mo_sum 11 = .ok (.iload_n 1, 1) := by decide +kernel
theorem d_Mo_sum_12 : decode c_Mo_sum 12 = .ok (.iconst (3), 1) := by decide +kernel
theorem d_Mo_sum_13 : decode c_Mo_sum 13 = .ok (.if_icmp .ne (9), 3) := by decide +kernel
theorem d_Mo_sum_16 : decode c_Mo_sum 16 = .ok (.iload_n 3, 1) := by decide +kernel
theorem d_Mo_sum_17 : decode c_Mo_sum 17 = .ok (.iload_n 2, 1) := by decide +kernel
theorem d_Mo_sum_18 : decode c_Mo_sum 18 = .ok (.iadd, 1) := by decide +kernel
theorem d_Mo_sum_19 : decode c_Mo_sum 19 = .ok (.goto (24), 3) := by decide +kernel
theorem d_Mo_sum_22 : decode c_Mo_sum 22 = .ok (.iload_n 1, 1) := by decide +kernel
theorem d_Mo_sum_23 : decode c_Mo_sum 23 = .ok (.iconst (4), 1) := by decide +kernel
theorem d_Mo_sum_24 : decode c_Mo_sum 24 = .ok (.if_icmp .ne (9), 3) := by decide +kernel
theorem d_Mo_sum_27 : decode c_Mo_sum 27 = .ok (.iload_n 3, 1) := by decide +kernel
theorem d_Mo_sum_28 : decode c_Mo_sum 28 = .ok (.iload_n 2, 1) := by decide +kernel
theorem d_Mo_sum_29 : decode c_Mo_sum 29 = .ok (.isub, 1) := by decide +kernel
theorem d_Mo_sum_30 : decode c_Mo_sum 30 = .ok (.goto (13), 3) := by decide +kernel
theorem d_Mo_sum_33 : decode c_Mo_sum 33 = .ok (.iload_n 3, 1) := by decide +kernel
theorem d_Mo_sum_34 : decode c_Mo_sum 34 = .ok (.iload_n 2, 1) := by decide +kernel
theorem d_Mo_sum_35 : decode c_Mo_sum 35 = .ok (.if_icmp .ne (7), 3) := by decide +kernel
theorem d_Mo_sum_38 : decode c_Mo_sum 38 = .ok (.iconst (1), 1) := by decide +kernel
theorem d_Mo_sum_39 : decode c_Mo_sum 39 = .ok (.goto (4), 3) := by decide +kernel
theorem d_Mo_sum_42 : decode c_Mo_sum 42 = .ok (.iconst (0), 1) := by decide +kernel
theorem d_Mo_sum_43 : decode c_Mo_sum 43 = .ok (.invokevirtual 229, 3) := by decide +kernel
theorem d_Mo_sum_46 : decode c_Mo_sum 46 = .ok (.return_, 1) := by decide +kernel
def fx_Mo_sum_b43 (σ : tx_St) (s0 : Int32) : Option tx_St := tx_cv (fx_Mo_push σ s0) fun σ8 => some σ8
def fx_Mo_sum (σ : tx_St) (x1 : Int32) : Option tx_St := tx_ci (fx_Mo_pop σ) fun r2 σ1 => tx_ci (fx_Mo_pop σ1) fun r4 σ3 => (if x1 = (3 : Int32) then fx_Mo_sum_b43  σ3 (r4 + r2) else (if x1 = (4 : Int32) then fx_Mo_sum_b43  σ3 (r4 - r2) else (if r4 = r2 then fx_Mo_sum_b43  σ3 (1 : Int32) else fx_Mo_sum_b43  σ3 (0 : Int32))))
set_option maxRecDepth 100000 in
set_option maxHeartbeats 4000000 in
theorem fx_Mo_sum_b43_w {l : Launch} {E : tx_E} (σ : tx_St) (s0 : Int32) (t : tx_St) (hT : fx_Mo_sum_b43 σ s0 = some t) : gx l E mi_Mo_sum (none, t) σ [] 43 [.int s0, .ref (E.1 45)] := by
  unfold fx_Mo_sum_b43 at hT
  obtain ⟨σ8, cσ8, hT⟩ := tx_cv_some hT
  refine gx_callV (pc := 43) (As := [.int s0]) (rest := []) cm_Mo_push lk_Mo_229 (fx_Mo_push_c l E σ s0 _ cσ8) (rfl) (by decide) rfl rfl tx_fi_Mo_sum_Mo_push (Nat.le_of_ble_eq_true rfl) d_Mo_sum_43 ?_
  change gx l E mi_Mo_sum _ σ8 [] 46 []
  cases hT
  exact gx_vret (pc := 46) d_Mo_sum_46 rfl rfl
set_option maxRecDepth 100000 in
set_option maxHeartbeats 4000000 in
theorem fx_Mo_sum_c (l : Launch) (E : tx_E) (σ : tx_St) (x1 : Int32) (t : tx_St) (hT : fx_Mo_sum σ x1 = some t) : tx_MX l E y_Mo_sum mi_Mo_sum (none, t) [.ref (E.1 45), .int x1] σ := by
  refine tx_MX_of (by decide) rfl (Nat.le_of_ble_eq_true rfl) ?_
  show gx l E mi_Mo_sum (none, t) σ [(0, .ref (E.1 45)), (1, .int x1)] 0 []
  unfold fx_Mo_sum at hT
  refine gx_aload_n (pc := 0) 0 d_Mo_sum_0 rfl rfl ?_
  obtain ⟨r2, σ1, cσ1, hT⟩ := tx_ci_some hT
  refine gx_callV (pc := 1) (As := []) (rest := []) cm_Mo_pop lk_Mo_213 (fx_Mo_pop_c l E σ _ cσ1) (rfl) (by decide) rfl rfl tx_fi_Mo_sum_Mo_pop (Nat.le_of_ble_eq_true rfl) d_Mo_sum_1 ?_
  change gx l E mi_Mo_sum _ σ1 [(0, .ref (E.1 45)), (1, .int x1)] 4 [.int r2]
  refine gx_istore_n (pc := 4) [(2, .int r2), (0, .ref (E.1 45)), (1, .int x1)] d_Mo_sum_4 rfl (Nat.le_of_ble_eq_true rfl) rfl ?_
  refine gx_aload_n (pc := 5) 1 d_Mo_sum_5 rfl rfl ?_
  obtain ⟨r4, σ3, cσ3, hT⟩ := tx_ci_some hT
  refine gx_callV (pc := 6) (As := []) (rest := []) cm_Mo_pop lk_Mo_213 (fx_Mo_pop_c l E σ1 _ cσ3) (rfl) (by decide) rfl rfl tx_fi_Mo_sum_Mo_pop (Nat.le_of_ble_eq_true rfl) d_Mo_sum_6 ?_
  change gx l E mi_Mo_sum _ σ3 [(2, .int r2), (0, .ref (E.1 45)), (1, .int x1)] 9 [.int r4]
  refine gx_istore_n (pc := 9) [(3, .int r4), (2, .int r2), (0, .ref (E.1 45)), (1, .int x1)] d_Mo_sum_9 rfl (Nat.le_of_ble_eq_true rfl) rfl ?_
  refine gx_aload_n (pc := 10) 2 d_Mo_sum_10 rfl rfl ?_
  refine gx_iload_n (pc := 11) 3 d_Mo_sum_11 rfl rfl ?_
  refine gx_iconst (pc := 12) (3 : Int32) d_Mo_sum_12 (by decide) ?_
  refine gx_icmp_ne (pc := 13) 22 d_Mo_sum_13 rfl (fun h5 => ?_) (fun h5 => ?_)
  · have hT := tx_ifn h5 hT
    refine gx_iload_n (pc := 22) 3 d_Mo_sum_22 rfl rfl ?_
    refine gx_iconst (pc := 23) (4 : Int32) d_Mo_sum_23 (by decide) ?_
    refine gx_icmp_ne (pc := 24) 33 d_Mo_sum_24 rfl (fun h6 => ?_) (fun h6 => ?_)
    · have hT := tx_ifn h6 hT
      refine gx_iload_n (pc := 33) 0 d_Mo_sum_33 rfl rfl ?_
      refine gx_iload_n (pc := 34) 1 d_Mo_sum_34 rfl rfl ?_
      refine gx_icmp_ne (pc := 35) 42 d_Mo_sum_35 rfl (fun h7 => ?_) (fun h7 => ?_)
      · have hT := tx_ifn h7 hT
        refine gx_iconst (pc := 42) (0 : Int32) d_Mo_sum_42 (by decide) ?_
        refine gx_sub [] rfl ?_
        exact fx_Mo_sum_b43_w  σ3 (0 : Int32) _ hT
      · have hT := tx_ifp h7 hT
        refine gx_iconst (pc := 38) (1 : Int32) d_Mo_sum_38 (by decide) ?_
        refine gx_goto (pc := 39) 43 d_Mo_sum_39 rfl ?_
        refine gx_sub [] rfl ?_
        exact fx_Mo_sum_b43_w  σ3 (1 : Int32) _ hT
    · have hT := tx_ifp h6 hT
      refine gx_iload_n (pc := 27) 0 d_Mo_sum_27 rfl rfl ?_
      refine gx_iload_n (pc := 28) 1 d_Mo_sum_28 rfl rfl ?_
      refine gx_isub (pc := 29) d_Mo_sum_29 ?_
      refine gx_goto (pc := 30) 43 d_Mo_sum_30 rfl ?_
      refine gx_sub [] rfl ?_
      exact fx_Mo_sum_b43_w  σ3 (r4 - r2) _ hT
  · have hT := tx_ifp h5 hT
    refine gx_iload_n (pc := 16) 0 d_Mo_sum_16 rfl rfl ?_
    refine gx_iload_n (pc := 17) 1 d_Mo_sum_17 rfl rfl ?_
    refine gx_iadd (pc := 18) d_Mo_sum_18 ?_
    refine gx_goto (pc := 19) 43 d_Mo_sum_19 rfl ?_
    refine gx_sub [] rfl ?_
    exact fx_Mo_sum_b43_w  σ3 (r4 + r2) _ hT
theorem d_Mo_bits_0 : decode c_Mo_bits 0 = .ok (.iconst (0), 1) := by decide +kernel
theorem d_Mo_bits_1 : decode c_Mo_bits 1 = .ok (.istore_n 1, 1) := by decide +kernel
theorem d_Mo_bits_2 : decode c_Mo_bits 2 = .ok (.iconst (0), 1) := by decide +kernel
theorem d_Mo_bits_3 : decode c_Mo_bits 3 = .ok (.istore_n 2, 1) := by decide +kernel
theorem d_Mo_bits_4 : decode c_Mo_bits 4 = .ok (.iload_n 2, 1) := by decide +kernel
theorem d_Mo_bits_5 : decode c_Mo_bits 5 = .ok (.bipush (32), 2) := by decide +kernel
theorem d_Mo_bits_7 : decode c_Mo_bits 7 = .ok (.if_icmp .ge (17), 3) := by decide +kernel
theorem d_Mo_bits_10 : decode c_Mo_bits 10 = .ok (.iload_n 1, 1) := by decide +kernel
theorem d_Mo_bits_11 : decode c_Mo_bits 11 = .ok (.iload_n 0, 1) := by decide +kernel
theorem d_Mo_bits_12 : decode c_Mo_bits 12 = .ok (.iload_n 2, 1) := by decide +kernel
theorem d_Mo_bits_13 : decode c_Mo_bits 13 = .ok (.ishr, 1) := by decide +kernel
theorem d_Mo_bits_14 : decode c_Mo_bits 14 = .ok (.iconst (1), 1) := by decide +kernel
theorem d_Mo_bits_15 : decode c_Mo_bits 15 = .ok (.iand, 1) := by decide +kernel
theorem d_Mo_bits_16 : decode c_Mo_bits 16 = .ok (.iadd, 1) := by decide +kernel
theorem d_Mo_bits_17 : decode c_Mo_bits 17 = .ok (.istore_n 1, 1) := by decide +kernel
theorem d_Mo_bits_18 : decode c_Mo_bits 18 = .ok (.iinc 2 (1), 3) := by decide +kernel
theorem d_Mo_bits_21 : decode c_Mo_bits 21 = .ok (.goto (-17), 3) := by decide +kernel
theorem d_Mo_bits_24 : decode c_Mo_bits 24 = .ok (.iload_n 1, 1) := by decide +kernel
theorem d_Mo_bits_25 : decode c_Mo_bits 25 = .ok (.ireturn, 1) := by decide +kernel
def fx_Mo_bits_b4 : Nat → tx_St → Int32 → Int32 → Int32 → Option (Int32 × tx_St)
  | 0, _, _, _, _ => none
  | n + 1, σ, x0, x1, x2 => (if (32 : Int32) ≤ x2 then some (x1, σ) else fx_Mo_bits_b4 n σ x0 (x1 + ((x0 >>> (x2 &&& 31)) &&& (1 : Int32))) (x2 + (1 : Int32)))
def fx_Mo_bits (σ : tx_St) (x0 : Int32) : Option (Int32 × tx_St) := fx_Mo_bits_b4  tx_fu σ x0 (0 : Int32) (0 : Int32)
set_option maxRecDepth 100000 in
set_option maxHeartbeats 4000000 in
theorem fx_Mo_bits_b4_w {l : Launch} {E : tx_E} : ∀ (n : Nat) (σ : tx_St) (x0 : Int32) (x1 : Int32) (x2 : Int32) (t : Int32 × tx_St), fx_Mo_bits_b4 n σ x0 x1 x2 = some t → gx l E mi_Mo_bits (some (.int t.1), t.2) σ [(0, .int x0), (1, .int x1), (2, .int x2)] 4 [] := by
  intro n
  induction n with
  | zero => intro σ x0 x1 x2 t hT; cases hT
  | succ n ih =>
    intro σ x0 x1 x2 t hT
    rw [fx_Mo_bits_b4] at hT
    refine gx_iload_n (pc := 4) 2 d_Mo_bits_4 rfl rfl ?_
    refine gx_bipush (pc := 5) (32 : Int32) d_Mo_bits_5 (by decide) ?_
    refine gx_icmp_ge (pc := 7) 24 d_Mo_bits_7 rfl (fun h1 => ?_) (fun h1 => ?_)
    · have hT := tx_ifp h1 hT
      refine gx_iload_n (pc := 24) 1 d_Mo_bits_24 rfl rfl ?_
      cases hT
      exact gx_iret (pc := 25) d_Mo_bits_25 rfl rfl
    · have hT := tx_ifn h1 hT
      refine gx_iload_n (pc := 10) 1 d_Mo_bits_10 rfl rfl ?_
      refine gx_iload_n (pc := 11) 0 d_Mo_bits_11 rfl rfl ?_
      refine gx_iload_n (pc := 12) 2 d_Mo_bits_12 rfl rfl ?_
      refine gx_ishr (pc := 13) d_Mo_bits_13 ?_
      refine gx_iconst (pc := 14) (1 : Int32) d_Mo_bits_14 (by decide) ?_
      refine gx_iand (pc := 15) d_Mo_bits_15 ?_
      refine gx_iadd (pc := 16) d_Mo_bits_16 ?_
      refine gx_istore_n (pc := 17) [(1, .int (x1 + ((x0 >>> (x2 &&& 31)) &&& (1 : Int32)))), (0, .int x0), (2, .int x2)] d_Mo_bits_17 rfl (Nat.le_of_ble_eq_true rfl) rfl ?_
      refine gx_iinc (pc := 18) (x2 + (1 : Int32)) 2 [(2, .int (x2 + (1 : Int32))), (1, .int (x1 + ((x0 >>> (x2 &&& 31)) &&& (1 : Int32)))), (0, .int x0)] d_Mo_bits_18 rfl (tx_inc (by decide)) (Nat.le_of_ble_eq_true rfl) rfl ?_
      refine gx_goto (pc := 21) 4 d_Mo_bits_21 rfl ?_
      refine gx_sub [2, 1, 0] rfl ?_
      exact ih σ x0 (x1 + ((x0 >>> (x2 &&& 31)) &&& (1 : Int32))) (x2 + (1 : Int32)) _ hT
set_option maxRecDepth 100000 in
set_option maxHeartbeats 4000000 in
theorem fx_Mo_bits_c (l : Launch) (E : tx_E) (σ : tx_St) (x0 : Int32) (t : Int32 × tx_St) (hT : fx_Mo_bits σ x0 = some t) : tx_MX l E y_Mo_bits mi_Mo_bits (some (.int t.1), t.2) [.int x0] σ := by
  refine tx_MX_of (by decide) rfl (Nat.le_of_ble_eq_true rfl) ?_
  show gx l E mi_Mo_bits (some (.int t.1), t.2) σ [(0, .int x0)] 0 []
  unfold fx_Mo_bits at hT
  refine gx_iconst (pc := 0) (0 : Int32) d_Mo_bits_0 (by decide) ?_
  refine gx_istore_n (pc := 1) [(1, .int (0 : Int32)), (0, .int x0)] d_Mo_bits_1 rfl (Nat.le_of_ble_eq_true rfl) rfl ?_
  refine gx_iconst (pc := 2) (0 : Int32) d_Mo_bits_2 (by decide) ?_
  refine gx_istore_n (pc := 3) [(2, .int (0 : Int32)), (1, .int (0 : Int32)), (0, .int x0)] d_Mo_bits_3 rfl (Nat.le_of_ble_eq_true rfl) rfl ?_
  refine gx_sub [2, 1, 0] rfl ?_
  exact fx_Mo_bits_b4_w  tx_fu σ x0 (0 : Int32) (0 : Int32) _ hT
theorem d_Mo_library_0 : decode c_Mo_library 0 = .ok (.aload_n 0, 1) := by decide +kernel
theorem d_Mo_library_1 : decode c_Mo_library 1 = .ok (.invokevirtual 213, 3) := by decide +kernel
theorem d_Mo_library_4 : decode c_Mo_library 4 = .ok (.istore_n 2, 1) := by decide +kernel
theorem d_Mo_library_5 : decode c_Mo_library 5 = .ok (.aload_n 0, 1) := by decide +kernel
theorem d_Mo_library_6 : decode c_Mo_library 6 = .ok (.iload_n 1, 1) := by decide +kernel
theorem d_Mo_library_7 : decode c_Mo_library 7 = .ok (.iconst (1), 1) := by decide +kernel
theorem d_Mo_library_8 : decode c_Mo_library 8 = .ok (.if_icmp .ne (10), 3) := by decide +kernel
theorem d_Mo_library_11 : decode c_Mo_library 11 = .ok (.iload_n 2, 1) := by decide +kernel
theorem d_Mo_library_12 : decode c_Mo_library 12 = .ok (.invokestatic 233, 3) := by decide +kernel
theorem d_Mo_library_15 : decode c_Mo_library 15 = .ok (.goto (13), 3) := by decide +kernel
theorem d_Mo_library_18 : decode c_Mo_library 18 = .ok (.iload_n 2, 1) := by decide +kernel
theorem d_Mo_library_19 : decode c_Mo_library 19 = .ok (.ifCond .ge (8), 3) := by decide +kernel
theorem d_Mo_library_22 : decode c_Mo_library 22 = .ok (.iload_n 2, 1) := by decide +kernel
theorem d_Mo_library_23 : decode c_Mo_library 23 = .ok (.ineg, 1) := by decide +kernel
theorem d_Mo_library_24 : decode c_Mo_library 24 = .ok (.goto (4), 3) := by decide +kernel
theorem d_Mo_library_27 : decode c_Mo_library 27 = .ok (.iload_n 2, 1) := by decide +kernel
theorem d_Mo_library_28 : decode c_Mo_library 28 = .ok (.invokevirtual 229, 3) := by decide +kernel
theorem d_Mo_library_31 : decode c_Mo_library 31 = .ok (.return_, 1) := by decide +kernel
def fx_Mo_library_b28 (σ : tx_St) (s0 : Int32) : Option tx_St := tx_cv (fx_Mo_push σ s0) fun σ7 => some σ7
def fx_Mo_library (σ : tx_St) (x1 : Int32) : Option tx_St := tx_ci (fx_Mo_pop σ) fun r2 σ1 => (if x1 = (1 : Int32) then tx_ci (fx_Mo_bits σ1 r2) fun r6 σ5 => fx_Mo_library_b28  σ5 r6 else (if 0 ≤ r2 then fx_Mo_library_b28  σ1 r2 else fx_Mo_library_b28  σ1 (-r2)))
set_option maxRecDepth 100000 in
set_option maxHeartbeats 4000000 in
theorem fx_Mo_library_b28_w {l : Launch} {E : tx_E} (σ : tx_St) (s0 : Int32) (t : tx_St) (hT : fx_Mo_library_b28 σ s0 = some t) : gx l E mi_Mo_library (none, t) σ [] 28 [.int s0, .ref (E.1 45)] := by
  unfold fx_Mo_library_b28 at hT
  obtain ⟨σ7, cσ7, hT⟩ := tx_cv_some hT
  refine gx_callV (pc := 28) (As := [.int s0]) (rest := []) cm_Mo_push lk_Mo_229 (fx_Mo_push_c l E σ s0 _ cσ7) (rfl) (by decide) rfl rfl tx_fi_Mo_library_Mo_push (Nat.le_of_ble_eq_true rfl) d_Mo_library_28 ?_
  change gx l E mi_Mo_library _ σ7 [] 31 []
  cases hT
  exact gx_vret (pc := 31) d_Mo_library_31 rfl rfl
set_option maxRecDepth 100000 in
set_option maxHeartbeats 4000000 in
theorem fx_Mo_library_c (l : Launch) (E : tx_E) (σ : tx_St) (x1 : Int32) (t : tx_St) (hT : fx_Mo_library σ x1 = some t) : tx_MX l E y_Mo_library mi_Mo_library (none, t) [.ref (E.1 45), .int x1] σ := by
  refine tx_MX_of (by decide) rfl (Nat.le_of_ble_eq_true rfl) ?_
  show gx l E mi_Mo_library (none, t) σ [(0, .ref (E.1 45)), (1, .int x1)] 0 []
  unfold fx_Mo_library at hT
  refine gx_aload_n (pc := 0) 0 d_Mo_library_0 rfl rfl ?_
  obtain ⟨r2, σ1, cσ1, hT⟩ := tx_ci_some hT
  refine gx_callV (pc := 1) (As := []) (rest := []) cm_Mo_pop lk_Mo_213 (fx_Mo_pop_c l E σ _ cσ1) (rfl) (by decide) rfl rfl tx_fi_Mo_library_Mo_pop (Nat.le_of_ble_eq_true rfl) d_Mo_library_1 ?_
  change gx l E mi_Mo_library _ σ1 [(0, .ref (E.1 45)), (1, .int x1)] 4 [.int r2]
  refine gx_istore_n (pc := 4) [(2, .int r2), (0, .ref (E.1 45)), (1, .int x1)] d_Mo_library_4 rfl (Nat.le_of_ble_eq_true rfl) rfl ?_
  refine gx_aload_n (pc := 5) 1 d_Mo_library_5 rfl rfl ?_
  refine gx_iload_n (pc := 6) 2 d_Mo_library_6 rfl rfl ?_
  refine gx_iconst (pc := 7) (1 : Int32) d_Mo_library_7 (by decide) ?_
  refine gx_icmp_ne (pc := 8) 18 d_Mo_library_8 rfl (fun h3 => ?_) (fun h3 => ?_)
  · have hT := tx_ifn h3 hT
    refine gx_iload_n (pc := 18) 0 d_Mo_library_18 rfl rfl ?_
    refine gx_if_ge (pc := 19) 27 d_Mo_library_19 rfl (fun h4 => ?_) (fun h4 => ?_)
    · have hT := tx_ifp h4 hT
      refine gx_iload_n (pc := 27) 0 d_Mo_library_27 rfl rfl ?_
      refine gx_sub [] rfl ?_
      exact fx_Mo_library_b28_w  σ1 r2 _ hT
    · have hT := tx_ifn h4 hT
      refine gx_iload_n (pc := 22) 0 d_Mo_library_22 rfl rfl ?_
      refine gx_ineg (pc := 23) d_Mo_library_23 ?_
      refine gx_goto (pc := 24) 28 d_Mo_library_24 rfl ?_
      refine gx_sub [] rfl ?_
      exact fx_Mo_library_b28_w  σ1 (-r2) _ hT
  · have hT := tx_ifp h3 hT
    refine gx_iload_n (pc := 11) 0 d_Mo_library_11 rfl rfl ?_
    obtain ⟨r6, σ5, cσ5, hT⟩ := tx_ci_some hT
    refine gx_callS (pc := 12) (As := [.int r2]) (rest := [.ref (E.1 45)]) cm_Mo_bits lk_Mo_233 (fx_Mo_bits_c l E σ1 r2 _ cσ5) rfl rfl tx_fi_Mo_library_Mo_bits (Nat.le_of_ble_eq_true rfl) d_Mo_library_12 ?_
    change gx l E mi_Mo_library _ σ5 [(2, .int r2), (0, .ref (E.1 45)), (1, .int x1)] 15 [.int r6, .ref (E.1 45)]
    refine gx_goto (pc := 15) 28 d_Mo_library_15 rfl ?_
    refine gx_sub [] rfl ?_
    exact fx_Mo_library_b28_w  σ5 r6 _ hT
theorem d_Mo_back_0 : decode c_Mo_back 0 = .ok (.aload_n 0, 1) := by decide +kernel
theorem d_Mo_back_1 : decode c_Mo_back 1 = .ok (.invokevirtual 213, 3) := by decide +kernel
theorem d_Mo_back_4 : decode c_Mo_back 4 = .ok (.istore_n 1, 1) := by decide +kernel
theorem d_Mo_back_5 : decode c_Mo_back 5 = .ok (.aload_n 0, 1) := by decide +kernel
theorem d_Mo_back_6 : decode c_Mo_back 6 = .ok (.dup, 1) := by decide +kernel
theorem d_Mo_back_7 : decode c_Mo_back 7 = .ok (.getfield 210, 3) := by decide +kernel
theorem d_Mo_back_10 : decode c_Mo_back 10 = .ok (.iconst (1), 1) := by decide +kernel
theorem d_Mo_back_11 : decode c_Mo_back 11 = .ok (.isub, 1) := by decide +kernel
theorem d_Mo_back_12 : decode c_Mo_back 12 = .ok (.putfield 210, 3) := by decide +kernel
theorem d_Mo_back_15 : decode c_Mo_back 15 = .ok (.aload_n 0, 1) := by decide +kernel
theorem d_Mo_back_16 : decode c_Mo_back 16 = .ok (.iload_n 1, 1) := by decide +kernel
theorem d_Mo_back_17 : decode c_Mo_back 17 = .ok (.putfield 236, 3) := by decide +kernel
theorem d_Mo_back_20 : decode c_Mo_back 20 = .ok (.aload_n 0, 1) := by decide +kernel
theorem d_Mo_back_21 : decode c_Mo_back 21 = .ok (.getfield 210, 3) := by decide +kernel
theorem d_Mo_back_24 : decode c_Mo_back 24 = .ok (.ifCond .le (8), 3) := by decide +kernel
theorem d_Mo_back_27 : decode c_Mo_back 27 = .ok (.aload_n 0, 1) := by decide +kernel
theorem d_Mo_back_28 : decode c_Mo_back 28 = .ok (.iload_n 1, 1) := by decide +kernel
theorem d_Mo_back_29 : decode c_Mo_back 29 = .ok (.invokevirtual 229, 3) := by decide +kernel
theorem d_Mo_back_32 : decode c_Mo_back 32 = .ok (.return_, 1) := by decide +kernel
def fx_Mo_back_b32 (σ : tx_St) : Option tx_St := some σ
def fx_Mo_back (σ : tx_St) : Option tx_St := tx_ci (fx_Mo_pop σ) fun r2 σ1 => tx_pt σ1 45 28 ((σ1 45 28) - (1 : Int32)) fun σ3 => tx_pt σ3 45 34 r2 fun σ4 => (if (σ4 45 28) ≤ 0 then fx_Mo_back_b32  σ4 else tx_cv (fx_Mo_push σ4 r2) fun σ6 => fx_Mo_back_b32  σ6)
set_option maxRecDepth 100000 in
set_option maxHeartbeats 4000000 in
theorem fx_Mo_back_b32_w {l : Launch} {E : tx_E} (σ : tx_St) (t : tx_St) (hT : fx_Mo_back_b32 σ  = some t) : gx l E mi_Mo_back (none, t) σ [] 32 [] := by
  unfold fx_Mo_back_b32 at hT
  cases hT
  exact gx_vret (pc := 32) d_Mo_back_32 rfl rfl
set_option maxRecDepth 100000 in
set_option maxHeartbeats 4000000 in
theorem fx_Mo_back_c (l : Launch) (E : tx_E) (σ : tx_St) (t : tx_St) (hT : fx_Mo_back σ  = some t) : tx_MX l E y_Mo_back mi_Mo_back (none, t) [.ref (E.1 45)] σ := by
  refine tx_MX_of (by decide) rfl (Nat.le_of_ble_eq_true rfl) ?_
  show gx l E mi_Mo_back (none, t) σ [(0, .ref (E.1 45))] 0 []
  unfold fx_Mo_back at hT
  refine gx_aload_n (pc := 0) 0 d_Mo_back_0 rfl rfl ?_
  obtain ⟨r2, σ1, cσ1, hT⟩ := tx_ci_some hT
  refine gx_callV (pc := 1) (As := []) (rest := []) cm_Mo_pop lk_Mo_213 (fx_Mo_pop_c l E σ _ cσ1) (rfl) (by decide) rfl rfl tx_fi_Mo_back_Mo_pop (Nat.le_of_ble_eq_true rfl) d_Mo_back_1 ?_
  change gx l E mi_Mo_back _ σ1 [(0, .ref (E.1 45))] 4 [.int r2]
  refine gx_istore_n (pc := 4) [(1, .int r2), (0, .ref (E.1 45))] d_Mo_back_4 rfl (Nat.le_of_ble_eq_true rfl) rfl ?_
  refine gx_aload_n (pc := 5) 1 d_Mo_back_5 rfl rfl ?_
  refine gx_dup (pc := 6) d_Mo_back_6 rfl ?_
  refine gx_getI (pc := 7) (σ1 45 28) fl_Mo_210 d_Mo_back_7 (rfl) (by decide) rfl rfl ?_
  refine gx_iconst (pc := 10) (1 : Int32) d_Mo_back_10 (by decide) ?_
  refine gx_isub (pc := 11) d_Mo_back_11 ?_
  obtain ⟨σ3, gσ3, hT⟩ := tx_pt_some hT
  refine gx_putI (pc := 12) fp_Mo_210 d_Mo_back_12 (rfl) (by decide) rfl ?_
  rw [gσ3]
  refine gx_aload_n (pc := 15) 1 d_Mo_back_15 rfl rfl ?_
  refine gx_iload_n (pc := 16) 0 d_Mo_back_16 rfl rfl ?_
  obtain ⟨σ4, gσ4, hT⟩ := tx_pt_some hT
  refine gx_putI (pc := 17) fp_Mo_236 d_Mo_back_17 (rfl) (by decide) rfl ?_
  rw [gσ4]
  refine gx_aload_n (pc := 20) 1 d_Mo_back_20 rfl rfl ?_
  refine gx_getI (pc := 21) (σ4 45 28) fl_Mo_210 d_Mo_back_21 (rfl) (by decide) rfl rfl ?_
  refine gx_if_le (pc := 24) 32 d_Mo_back_24 rfl (fun h5 => ?_) (fun h5 => ?_)
  · have hT := tx_ifp h5 hT
    refine gx_sub [] rfl ?_
    exact fx_Mo_back_b32_w  σ4 _ hT
  · have hT := tx_ifn h5 hT
    refine gx_aload_n (pc := 27) 1 d_Mo_back_27 rfl rfl ?_
    refine gx_iload_n (pc := 28) 0 d_Mo_back_28 rfl rfl ?_
    obtain ⟨σ6, cσ6, hT⟩ := tx_cv_some hT
    refine gx_callV (pc := 29) (As := [.int r2]) (rest := []) cm_Mo_push lk_Mo_229 (fx_Mo_push_c l E σ4 r2 _ cσ6) (rfl) (by decide) rfl rfl tx_fi_Mo_back_Mo_push (Nat.le_of_ble_eq_true rfl) d_Mo_back_29 ?_
    change gx l E mi_Mo_back _ σ6 [(1, .int r2), (0, .ref (E.1 45))] 32 []
    refine gx_sub [] rfl ?_
    exact fx_Mo_back_b32_w  σ6 _ hT
