theorem d_Mo_unlike_0 : decode c_Mo_unlike 0 = .ok (.iconst (0), 1) := by decide +kernel
theorem d_Mo_unlike_1 : decode c_Mo_unlike 1 = .ok (.istore_n 2, 1) := by decide +kernel
theorem d_Mo_unlike_2 : decode c_Mo_unlike 2 = .ok (.iconst (0), 1) := by decide +kernel
theorem d_Mo_unlike_3 : decode c_Mo_unlike 3 = .ok (.istore_n 3, 1) := by decide +kernel
theorem d_Mo_unlike_4 : decode c_Mo_unlike 4 = .ok (.iload_n 3, 1) := by decide +kernel
theorem d_Mo_unlike_5 : decode c_Mo_unlike 5 = .ok (.aload_n 0, 1) := by decide +kernel
theorem d_Mo_unlike_6 : decode c_Mo_unlike 6 = .ok (.getfield 91, 3) := by decide +kernel
theorem d_Mo_unlike_9 : decode c_Mo_unlike 9 = .ok (.if_icmp .ge (140), 3) := by decide +kernel
theorem d_Mo_unlike_12 : decode c_Mo_unlike 12 = .ok (.aload_n 0, 1) := by decide +kernel
theorem d_Mo_unlike_13 : decode c_Mo_unlike 13 = .ok (.getfield 25, 3) := by decide +kernel
theorem d_Mo_unlike_16 : decode c_Mo_unlike 16 = .ok (.iload_n 3, 1) := by decide +kernel
theorem d_Mo_unlike_17 : decode c_Mo_unlike 17 = .ok (.iaload, 1) := by decide +kernel
theorem d_Mo_unlike_18 : decode c_Mo_unlike 18 = .ok (.aload_n 0, 1) := by decide +kernel
theorem d_Mo_unlike_19 : decode c_Mo_unlike 19 = .ok (.getfield 25, 3) := by decide +kernel
theorem d_Mo_unlike_22 : decode c_Mo_unlike 22 = .ok (.iload_n 1, 1) := by decide +kernel
theorem d_Mo_unlike_23 : decode c_Mo_unlike 23 = .ok (.iaload, 1) := by decide +kernel
theorem d_Mo_unlike_24 : decode c_Mo_unlike 24 = .ok (.if_icmp .eq (41), 3) := by decide +kernel
theorem d_Mo_unlike_27 : decode c_Mo_unlike 27 = .ok (.aload_n 0, 1) := by decide +kernel
theorem d_Mo_unlike_28 : decode c_Mo_unlike 28 = .ok (.aload_n 0, 1) := by decide +kernel
theorem d_Mo_unlike_29 : decode c_Mo_unlike 29 = .ok (.getfield 25, 3) := by decide +kernel
theorem d_Mo_unlike_32 : decode c_Mo_unlike 32 = .ok (.iload_n 1, 1) := by decide +kernel
theorem d_Mo_unlike_33 : decode c_Mo_unlike 33 = .ok (.iaload, 1) := by decide +kernel
theorem d_Mo_unlike_34 : decode c_Mo_unlike 34 = .ok (.aload_n 0, 1) := by decide +kernel
theorem d_Mo_unlike_35 : decode c_Mo_unlike 35 = .ok (.getfield 25, 3) := by decide +kernel
theorem d_Mo_unlike_38 : decode c_Mo_unlike 38 = .ok (.iload_n 3, 1) := by decide +kernel
theorem d_Mo_unlike_39 : decode c_Mo_unlike 39 = .ok (.iaload, 1) := by decide +kernel
theorem d_Mo_unlike_40 : decode c_Mo_unlike 40 = .ok (.invokevirtual 114, 3) := by decide +kernel
theorem d_Mo_unlike_43 : decode c_Mo_unlike 43 = .ok (.ifCond .eq (22), 3) := by decide +kernel
theorem d_Mo_unlike_46 : decode c_Mo_unlike 46 = .ok (.aload_n 0, 1) := by decide +kernel
theorem d_Mo_unlike_47 : decode c_Mo_unlike 47 = .ok (.getfield 31, 3) := by decide +kernel
theorem d_Mo_unlike_50 : decode c_Mo_unlike 50 = .ok (.iload_n 3, 1) := by decide +kernel
theorem d_Mo_unlike_51 : decode c_Mo_unlike 51 = .ok (.iaload, 1) := by decide +kernel
theorem d_Mo_unlike_52 : decode c_Mo_unlike 52 = .ok (.aload_n 0, 1) := by decide +kernel
theorem d_Mo_unlike_53 : decode c_Mo_unlike 53 = .ok (.getfield 31, 3) := by decide +kernel
theorem d_Mo_unlike_56 : decode c_Mo_unlike 56 = .ok (.iload_n 1, 1) := by decide +kernel
theorem d_Mo_unlike_57 : decode c_Mo_unlike 57 = .ok (.iaload, 1) := by decide +kernel
theorem d_Mo_unlike_58 : decode c_Mo_unlike 58 = .ok (.if_icmp .ne (7), 3) := by decide +kernel
theorem d_Mo_unlike_61 : decode c_Mo_unlike 61 = .ok (.iconst (1), 1) := by decide +kernel
theorem d_Mo_unlike_62 : decode c_Mo_unlike 62 = .ok (.goto (4), 3) := by decide +kernel
theorem d_Mo_unlike_65 : decode c_Mo_unlike 65 = .ok (.iconst (0), 1) := by decide +kernel
theorem d_Mo_unlike_66 : decode c_Mo_unlike 66 = .ok (.istore 4, 2) := by decide +kernel
theorem d_Mo_unlike_68 : decode c_Mo_unlike 68 = .ok (.aload_n 0, 1) := by decide +kernel
theorem d_Mo_unlike_69 : decode c_Mo_unlike 69 = .ok (.getfield 28, 3) := by decide +kernel
theorem d_Mo_unlike_72 : decode c_Mo_unlike 72 = .ok (.iload_n 3, 1) := by decide +kernel
theorem d_Mo_unlike_73 : decode c_Mo_unlike 73 = .ok (.iaload, 1) := by decide +kernel
theorem d_Mo_unlike_74 : decode c_Mo_unlike 74 = .ok (.ifCond .ne (46), 3) := by decide +kernel
theorem d_Mo_unlike_77 : decode c_Mo_unlike 77 = .ok (.aload_n 0, 1) := by decide +kernel
theorem d_Mo_unlike_78 : decode c_Mo_unlike 78 = .ok (.getfield 28, 3) := by decide +kernel
theorem d_Mo_unlike_81 : decode c_Mo_unlike 81 = .ok (.iload_n 1, 1) := by decide +kernel
theorem d_Mo_unlike_82 : decode c_Mo_unlike 82 = .ok (.iaload, 1) := by decide +kernel
theorem d_Mo_unlike_83 : decode c_Mo_unlike 83 = .ok (.ifCond .ne (37), 3) := by decide +kernel
theorem d_Mo_unlike_86 : decode c_Mo_unlike 86 = .ok (.aload_n 0, 1) := by decide +kernel
theorem d_Mo_unlike_87 : decode c_Mo_unlike 87 = .ok (.getfield 34, 3) := by decide +kernel
theorem d_Mo_unlike_90 : decode c_Mo_unlike 90 = .ok (.iload_n 3, 1) := by decide +kernel
theorem d_Mo_unlike_91 : decode c_Mo_unlike 91 = .ok (.iaload, 1) := by decide +kernel
theorem d_Mo_unlike_92 : decode c_Mo_unlike 92 = .ok (.aload_n 0, 1) := by decide +kernel
theorem d_Mo_unlike_93 : decode c_Mo_unlike 93 = .ok (.getfield 34, 3) := by decide +kernel
theorem d_Mo_unlike_96 : decode c_Mo_unlike 96 = .ok (.iload_n 1, 1) := by decide +kernel
theorem d_Mo_unlike_97 : decode c_Mo_unlike 97 = .ok (.iaload, 1) := by decide +kernel
theorem d_Mo_unlike_98 : decode c_Mo_unlike 98 = .ok (.if_icmp .ne (22), 3) := by decide +kernel
theorem d_Mo_unlike_101 : decode c_Mo_unlike 101 = .ok (.aload_n 0, 1) := by decide +kernel
theorem d_Mo_unlike_102 : decode c_Mo_unlike 102 = .ok (.getfield 37, 3) := by decide +kernel
theorem d_Mo_unlike_105 : decode c_Mo_unlike 105 = .ok (.iload_n 3, 1) := by decide +kernel
theorem d_Mo_unlike_106 : decode c_Mo_unlike 106 = .ok (.iaload, 1) := by decide +kernel
theorem d_Mo_unlike_107 : decode c_Mo_unlike 107 = .ok (.aload_n 0, 1) := by decide +kernel
theorem d_Mo_unlike_108 : decode c_Mo_unlike 108 = .ok (.getfield 37, 3) := by decide +kernel
theorem d_Mo_unlike_111 : decode c_Mo_unlike 111 = .ok (.iload_n 1, 1) := by decide +kernel
theorem d_Mo_unlike_112 : decode c_Mo_unlike 112 = .ok (.iaload, 1) := by decide +kernel
theorem d_Mo_unlike_113 : decode c_Mo_unlike 113 = .ok (.if_icmp .ne (7), 3) := by decide +kernel
theorem d_Mo_unlike_116 : decode c_Mo_unlike 116 = .ok (.iconst (1), 1) := by decide +kernel
theorem d_Mo_unlike_117 : decode c_Mo_unlike 117 = .ok (.goto (4), 3) := by decide +kernel
theorem d_Mo_unlike_120 : decode c_Mo_unlike 120 = .ok (.iconst (0), 1) := by decide +kernel
theorem d_Mo_unlike_121 : decode c_Mo_unlike 121 = .ok (.istore 5, 2) := by decide +kernel
theorem d_Mo_unlike_123 : decode c_Mo_unlike 123 = .ok (.iload_n 2, 1) := by decide +kernel
theorem d_Mo_unlike_124 : decode c_Mo_unlike 124 = .ok (.ifCond .ne (13), 3) := by decide +kernel
theorem d_Mo_unlike_127 : decode c_Mo_unlike 127 = .ok (.iload 4, 2) := by decide +kernel
theorem d_Mo_unlike_129 : decode c_Mo_unlike 129 = .ok (.ifCond .eq (12), 3) := by decide +kernel
theorem d_Mo_unlike_132 : decode c_Mo_unlike 132 = .ok (.iload 5, 2) := by decide +kernel
theorem d_Mo_unlike_134 : decode c_Mo_unlike 134 = .ok (.ifCond .ne (7), 3) := by decide +kernel
theorem d_Mo_unlike_137 : decode c_Mo_unlike 137 = .ok (.iconst (1), 1) := by decide +kernel
theorem d_Mo_unlike_138 : decode c_Mo_unlike 138 = .ok (.goto (4), 3) := by decide +kernel
theorem d_Mo_unlike_141 : decode c_Mo_unlike 141 = .ok (.iconst (0), 1) := by decide +kernel
theorem d_Mo_unlike_142 : decode c_Mo_unlike 142 = .ok (.istore_n 2, 1) := by decide +kernel
theorem d_Mo_unlike_143 : decode c_Mo_unlike 143 = .ok (.iinc 3 (1), 3) := by decide +kernel
theorem d_Mo_unlike_146 : decode c_Mo_unlike 146 = .ok (.goto (-142), 3) := by decide +kernel
theorem d_Mo_unlike_149 : decode c_Mo_unlike 149 = .ok (.iload_n 2, 1) := by decide +kernel
theorem d_Mo_unlike_150 : decode c_Mo_unlike 150 = .ok (.ireturn, 1) := by decide +kernel
def fx_Mo_unlike_b142 (k4 : tx_St → Int32 → Int32 → Int32 → Option (Int32 × tx_St)) (σ : tx_St) (x1 : Int32) (x3 : Int32) (s0 : Int32) : Option (Int32 × tx_St) := k4 σ x1 s0 (x3 + (1 : Int32))
def fx_Mo_unlike_b137 (k4 : tx_St → Int32 → Int32 → Int32 → Option (Int32 × tx_St)) (σ : tx_St) (x1 : Int32) (x3 : Int32) : Option (Int32 × tx_St) := fx_Mo_unlike_b142 (k4) σ x1 x3 (1 : Int32)
def fx_Mo_unlike_b141 (k4 : tx_St → Int32 → Int32 → Int32 → Option (Int32 × tx_St)) (σ : tx_St) (x1 : Int32) (x3 : Int32) : Option (Int32 × tx_St) := fx_Mo_unlike_b142 (k4) σ x1 x3 (0 : Int32)
def fx_Mo_unlike_b121 (k4 : tx_St → Int32 → Int32 → Int32 → Option (Int32 × tx_St)) (σ : tx_St) (x1 : Int32) (x2 : Int32) (x3 : Int32) (x4 : Int32) (s0 : Int32) : Option (Int32 × tx_St) := (if x2 = 0 then (if x4 = 0 then fx_Mo_unlike_b141 (k4) σ x1 x3 else (if s0 = 0 then fx_Mo_unlike_b137 (k4) σ x1 x3 else fx_Mo_unlike_b141 (k4) σ x1 x3)) else fx_Mo_unlike_b137 (k4) σ x1 x3)
def fx_Mo_unlike_b120 (k4 : tx_St → Int32 → Int32 → Int32 → Option (Int32 × tx_St)) (σ : tx_St) (x1 : Int32) (x2 : Int32) (x3 : Int32) (x4 : Int32) : Option (Int32 × tx_St) := fx_Mo_unlike_b121 (k4) σ x1 x2 x3 x4 (0 : Int32)
def fx_Mo_unlike_b66 (k4 : tx_St → Int32 → Int32 → Int32 → Option (Int32 × tx_St)) (σ : tx_St) (x1 : Int32) (x2 : Int32) (x3 : Int32) (s0 : Int32) : Option (Int32 × tx_St) := tx_rd σ 52 8 x3 fun v13 => (if v13 = 0 then tx_rd σ 52 8 x1 fun v15 => (if v15 = 0 then tx_rd σ 54 8 x3 fun v17 => tx_rd σ 54 8 x1 fun v18 => (if v17 = v18 then tx_rd σ 55 8 x3 fun v20 => tx_rd σ 55 8 x1 fun v21 => (if v20 = v21 then fx_Mo_unlike_b121 (k4) σ x1 x2 x3 s0 (1 : Int32) else fx_Mo_unlike_b120 (k4) σ x1 x2 x3 s0) else fx_Mo_unlike_b120 (k4) σ x1 x2 x3 s0) else fx_Mo_unlike_b120 (k4) σ x1 x2 x3 s0) else fx_Mo_unlike_b120 (k4) σ x1 x2 x3 s0)
def fx_Mo_unlike_b65 (k4 : tx_St → Int32 → Int32 → Int32 → Option (Int32 × tx_St)) (σ : tx_St) (x1 : Int32) (x2 : Int32) (x3 : Int32) : Option (Int32 × tx_St) := fx_Mo_unlike_b66 (k4) σ x1 x2 x3 (0 : Int32)
def fx_Mo_unlike_b4 : Nat → tx_St → Int32 → Int32 → Int32 → Option (Int32 × tx_St)
  | 0, _, _, _, _ => none
  | n + 1, σ, x1, x2, x3 => (if (σ 45 7) ≤ x3 then tx_rz x2 σ else tx_rd σ 51 8 x3 fun v2 => tx_rd σ 51 8 x1 fun v3 => (if v2 = v3 then fx_Mo_unlike_b65 (fx_Mo_unlike_b4 n) σ x1 x2 x3 else tx_rd σ 51 8 x1 fun v5 => tx_rd σ 51 8 x3 fun v6 => tx_ci (fx_Mo_inLine σ v5 v6) fun r8 σ7 => (if r8 = 0 then fx_Mo_unlike_b65 (fx_Mo_unlike_b4 n) σ7 x1 x2 x3 else tx_rd σ7 53 8 x3 fun v10 => tx_rd σ7 53 8 x1 fun v11 => (if v10 = v11 then fx_Mo_unlike_b66 (fx_Mo_unlike_b4 n) σ7 x1 x2 x3 (1 : Int32) else fx_Mo_unlike_b65 (fx_Mo_unlike_b4 n) σ7 x1 x2 x3))))
def fx_Mo_unlike (σ : tx_St) (x1 : Int32) : Option (Int32 × tx_St) := fx_Mo_unlike_b4  tx_fu σ x1 (0 : Int32) (0 : Int32)
set_option maxRecDepth 100000 in
set_option maxHeartbeats 4000000 in
theorem fx_Mo_unlike_b142_w {l : Launch} {E : tx_E} (k4 : tx_St → Int32 → Int32 → Int32 → Option (Int32 × tx_St)) (j4 : ∀ (σ : tx_St) (x1 : Int32) (x2 : Int32) (x3 : Int32) (t : Int32 × tx_St), k4 σ x1 x2 x3 = some t → gx l E mi_Mo_unlike (some (.int t.1), t.2) σ [(0, .ref (E.1 45)), (1, .int x1), (2, .int x2), (3, .int x3)] 4 []) (σ : tx_St) (x1 : Int32) (x3 : Int32) (s0 : Int32) (t : Int32 × tx_St) (hT : fx_Mo_unlike_b142 k4 σ x1 x3 s0 = some t) : gx l E mi_Mo_unlike (some (.int t.1), t.2) σ [(0, .ref (E.1 45)), (1, .int x1), (3, .int x3)] 142 [.int s0] := by
  unfold fx_Mo_unlike_b142 at hT
  refine gx_istore_n (pc := 142) [(2, .int s0), (0, .ref (E.1 45)), (1, .int x1), (3, .int x3)] d_Mo_unlike_142 rfl (Nat.le_of_ble_eq_true rfl) rfl ?_
  refine gx_iinc (pc := 143) (x3 + (1 : Int32)) 3 [(3, .int (x3 + (1 : Int32))), (2, .int s0), (0, .ref (E.1 45)), (1, .int x1)] d_Mo_unlike_143 rfl (tx_inc (by decide)) (Nat.le_of_ble_eq_true rfl) rfl ?_
  refine gx_goto (pc := 146) 4 d_Mo_unlike_146 rfl ?_
  refine gx_sub [2, 3, 1, 0] rfl ?_
  exact j4 σ x1 s0 (x3 + (1 : Int32)) _ hT
set_option maxRecDepth 100000 in
set_option maxHeartbeats 4000000 in
theorem fx_Mo_unlike_b137_w {l : Launch} {E : tx_E} (k4 : tx_St → Int32 → Int32 → Int32 → Option (Int32 × tx_St)) (j4 : ∀ (σ : tx_St) (x1 : Int32) (x2 : Int32) (x3 : Int32) (t : Int32 × tx_St), k4 σ x1 x2 x3 = some t → gx l E mi_Mo_unlike (some (.int t.1), t.2) σ [(0, .ref (E.1 45)), (1, .int x1), (2, .int x2), (3, .int x3)] 4 []) (σ : tx_St) (x1 : Int32) (x3 : Int32) (t : Int32 × tx_St) (hT : fx_Mo_unlike_b137 k4 σ x1 x3 = some t) : gx l E mi_Mo_unlike (some (.int t.1), t.2) σ [(0, .ref (E.1 45)), (1, .int x1), (3, .int x3)] 137 [] := by
  unfold fx_Mo_unlike_b137 at hT
  refine gx_iconst (pc := 137) (1 : Int32) d_Mo_unlike_137 (by decide) ?_
  refine gx_goto (pc := 138) 142 d_Mo_unlike_138 rfl ?_
  exact fx_Mo_unlike_b142_w (k4) (j4) σ x1 x3 (1 : Int32) _ hT
set_option maxRecDepth 100000 in
set_option maxHeartbeats 4000000 in
theorem fx_Mo_unlike_b141_w {l : Launch} {E : tx_E} (k4 : tx_St → Int32 → Int32 → Int32 → Option (Int32 × tx_St)) (j4 : ∀ (σ : tx_St) (x1 : Int32) (x2 : Int32) (x3 : Int32) (t : Int32 × tx_St), k4 σ x1 x2 x3 = some t → gx l E mi_Mo_unlike (some (.int t.1), t.2) σ [(0, .ref (E.1 45)), (1, .int x1), (2, .int x2), (3, .int x3)] 4 []) (σ : tx_St) (x1 : Int32) (x3 : Int32) (t : Int32 × tx_St) (hT : fx_Mo_unlike_b141 k4 σ x1 x3 = some t) : gx l E mi_Mo_unlike (some (.int t.1), t.2) σ [(0, .ref (E.1 45)), (1, .int x1), (3, .int x3)] 141 [] := by
  unfold fx_Mo_unlike_b141 at hT
  refine gx_iconst (pc := 141) (0 : Int32) d_Mo_unlike_141 (by decide) ?_
  exact fx_Mo_unlike_b142_w (k4) (j4) σ x1 x3 (0 : Int32) _ hT
set_option maxRecDepth 100000 in
set_option maxHeartbeats 4000000 in
theorem fx_Mo_unlike_b121_w {l : Launch} {E : tx_E} (k4 : tx_St → Int32 → Int32 → Int32 → Option (Int32 × tx_St)) (j4 : ∀ (σ : tx_St) (x1 : Int32) (x2 : Int32) (x3 : Int32) (t : Int32 × tx_St), k4 σ x1 x2 x3 = some t → gx l E mi_Mo_unlike (some (.int t.1), t.2) σ [(0, .ref (E.1 45)), (1, .int x1), (2, .int x2), (3, .int x3)] 4 []) (σ : tx_St) (x1 : Int32) (x2 : Int32) (x3 : Int32) (x4 : Int32) (s0 : Int32) (t : Int32 × tx_St) (hT : fx_Mo_unlike_b121 k4 σ x1 x2 x3 x4 s0 = some t) : gx l E mi_Mo_unlike (some (.int t.1), t.2) σ [(0, .ref (E.1 45)), (1, .int x1), (2, .int x2), (3, .int x3), (4, .int x4)] 121 [.int s0] := by
  unfold fx_Mo_unlike_b121 at hT
  refine gx_istore (pc := 121) [(5, .int s0), (0, .ref (E.1 45)), (1, .int x1), (2, .int x2), (3, .int x3), (4, .int x4)] d_Mo_unlike_121 (Nat.le_of_ble_eq_true rfl) rfl ?_
  refine gx_iload_n (pc := 123) 3 d_Mo_unlike_123 rfl rfl ?_
  refine gx_if_ne (pc := 124) 137 d_Mo_unlike_124 rfl (fun h23 => ?_) (fun h23 => ?_)
  · have hT := tx_ifn h23 hT
    refine gx_sub [1, 2, 4] rfl ?_
    exact fx_Mo_unlike_b137_w (k4) (j4) σ x1 x3 _ hT
  · have hT := tx_ifp h23 hT
    refine gx_iload (pc := 127) 5 d_Mo_unlike_127 rfl ?_
    refine gx_if_eq (pc := 129) 141 d_Mo_unlike_129 rfl (fun h24 => ?_) (fun h24 => ?_)
    · have hT := tx_ifp h24 hT
      refine gx_sub [1, 2, 4] rfl ?_
      exact fx_Mo_unlike_b141_w (k4) (j4) σ x1 x3 _ hT
    · have hT := tx_ifn h24 hT
      refine gx_iload (pc := 132) 0 d_Mo_unlike_132 rfl ?_
      refine gx_if_ne (pc := 134) 141 d_Mo_unlike_134 rfl (fun h25 => ?_) (fun h25 => ?_)
      · have hT := tx_ifn h25 hT
        refine gx_sub [1, 2, 4] rfl ?_
        exact fx_Mo_unlike_b141_w (k4) (j4) σ x1 x3 _ hT
      · have hT := tx_ifp h25 hT
        refine gx_sub [1, 2, 4] rfl ?_
        exact fx_Mo_unlike_b137_w (k4) (j4) σ x1 x3 _ hT
set_option maxRecDepth 100000 in
set_option maxHeartbeats 4000000 in
theorem fx_Mo_unlike_b120_w {l : Launch} {E : tx_E} (k4 : tx_St → Int32 → Int32 → Int32 → Option (Int32 × tx_St)) (j4 : ∀ (σ : tx_St) (x1 : Int32) (x2 : Int32) (x3 : Int32) (t : Int32 × tx_St), k4 σ x1 x2 x3 = some t → gx l E mi_Mo_unlike (some (.int t.1), t.2) σ [(0, .ref (E.1 45)), (1, .int x1), (2, .int x2), (3, .int x3)] 4 []) (σ : tx_St) (x1 : Int32) (x2 : Int32) (x3 : Int32) (x4 : Int32) (t : Int32 × tx_St) (hT : fx_Mo_unlike_b120 k4 σ x1 x2 x3 x4 = some t) : gx l E mi_Mo_unlike (some (.int t.1), t.2) σ [(0, .ref (E.1 45)), (1, .int x1), (2, .int x2), (3, .int x3), (4, .int x4)] 120 [] := by
  unfold fx_Mo_unlike_b120 at hT
  refine gx_iconst (pc := 120) (0 : Int32) d_Mo_unlike_120 (by decide) ?_
  exact fx_Mo_unlike_b121_w (k4) (j4) σ x1 x2 x3 x4 (0 : Int32) _ hT
set_option maxRecDepth 100000 in
set_option maxHeartbeats 4000000 in
theorem fx_Mo_unlike_b66_w {l : Launch} {E : tx_E} (k4 : tx_St → Int32 → Int32 → Int32 → Option (Int32 × tx_St)) (j4 : ∀ (σ : tx_St) (x1 : Int32) (x2 : Int32) (x3 : Int32) (t : Int32 × tx_St), k4 σ x1 x2 x3 = some t → gx l E mi_Mo_unlike (some (.int t.1), t.2) σ [(0, .ref (E.1 45)), (1, .int x1), (2, .int x2), (3, .int x3)] 4 []) (σ : tx_St) (x1 : Int32) (x2 : Int32) (x3 : Int32) (s0 : Int32) (t : Int32 × tx_St) (hT : fx_Mo_unlike_b66 k4 σ x1 x2 x3 s0 = some t) : gx l E mi_Mo_unlike (some (.int t.1), t.2) σ [(0, .ref (E.1 45)), (1, .int x1), (2, .int x2), (3, .int x3)] 66 [.int s0] := by
  unfold fx_Mo_unlike_b66 at hT
  refine gx_istore (pc := 66) [(4, .int s0), (0, .ref (E.1 45)), (1, .int x1), (2, .int x2), (3, .int x3)] d_Mo_unlike_66 (Nat.le_of_ble_eq_true rfl) rfl ?_
  refine gx_aload_n (pc := 68) 1 d_Mo_unlike_68 rfl rfl ?_
  refine gx_getR (pc := 69) 52 fl_Mo_28 d_Mo_unlike_69 (rfl) (by decide) rfl ?_
  refine gx_iload_n (pc := 72) 4 d_Mo_unlike_72 rfl rfl ?_
  obtain ⟨v13, gv13, iv13, hT⟩ := tx_rd_some hT
  refine gx_iald (pc := 73) v13 d_Mo_unlike_73 (rfl) iv13 gv13 ?_
  refine gx_if_ne (pc := 74) 120 d_Mo_unlike_74 rfl (fun h14 => ?_) (fun h14 => ?_)
  · have hT := tx_ifn h14 hT
    refine gx_sub [1, 2, 3, 4, 0] rfl ?_
    exact fx_Mo_unlike_b120_w (k4) (j4) σ x1 x2 x3 s0 _ hT
  · have hT := tx_ifp h14 hT
    refine gx_aload_n (pc := 77) 1 d_Mo_unlike_77 rfl rfl ?_
    refine gx_getR (pc := 78) 52 fl_Mo_28 d_Mo_unlike_78 (rfl) (by decide) rfl ?_
    refine gx_iload_n (pc := 81) 2 d_Mo_unlike_81 rfl rfl ?_
    obtain ⟨v15, gv15, iv15, hT⟩ := tx_rd_some hT
    refine gx_iald (pc := 82) v15 d_Mo_unlike_82 (rfl) iv15 gv15 ?_
    refine gx_if_ne (pc := 83) 120 d_Mo_unlike_83 rfl (fun h16 => ?_) (fun h16 => ?_)
    · have hT := tx_ifn h16 hT
      refine gx_sub [1, 2, 3, 4, 0] rfl ?_
      exact fx_Mo_unlike_b120_w (k4) (j4) σ x1 x2 x3 s0 _ hT
    · have hT := tx_ifp h16 hT
      refine gx_aload_n (pc := 86) 1 d_Mo_unlike_86 rfl rfl ?_
      refine gx_getR (pc := 87) 54 fl_Mo_34 d_Mo_unlike_87 (rfl) (by decide) rfl ?_
      refine gx_iload_n (pc := 90) 4 d_Mo_unlike_90 rfl rfl ?_
      obtain ⟨v17, gv17, iv17, hT⟩ := tx_rd_some hT
      refine gx_iald (pc := 91) v17 d_Mo_unlike_91 (rfl) iv17 gv17 ?_
      refine gx_aload_n (pc := 92) 1 d_Mo_unlike_92 rfl rfl ?_
      refine gx_getR (pc := 93) 54 fl_Mo_34 d_Mo_unlike_93 (rfl) (by decide) rfl ?_
      refine gx_iload_n (pc := 96) 2 d_Mo_unlike_96 rfl rfl ?_
      obtain ⟨v18, gv18, iv18, hT⟩ := tx_rd_some hT
      refine gx_iald (pc := 97) v18 d_Mo_unlike_97 (rfl) iv18 gv18 ?_
      refine gx_icmp_ne (pc := 98) 120 d_Mo_unlike_98 rfl (fun h19 => ?_) (fun h19 => ?_)
      · have hT := tx_ifn h19 hT
        refine gx_sub [1, 2, 3, 4, 0] rfl ?_
        exact fx_Mo_unlike_b120_w (k4) (j4) σ x1 x2 x3 s0 _ hT
      · have hT := tx_ifp h19 hT
        refine gx_aload_n (pc := 101) 1 d_Mo_unlike_101 rfl rfl ?_
        refine gx_getR (pc := 102) 55 fl_Mo_37 d_Mo_unlike_102 (rfl) (by decide) rfl ?_
        refine gx_iload_n (pc := 105) 4 d_Mo_unlike_105 rfl rfl ?_
        obtain ⟨v20, gv20, iv20, hT⟩ := tx_rd_some hT
        refine gx_iald (pc := 106) v20 d_Mo_unlike_106 (rfl) iv20 gv20 ?_
        refine gx_aload_n (pc := 107) 1 d_Mo_unlike_107 rfl rfl ?_
        refine gx_getR (pc := 108) 55 fl_Mo_37 d_Mo_unlike_108 (rfl) (by decide) rfl ?_
        refine gx_iload_n (pc := 111) 2 d_Mo_unlike_111 rfl rfl ?_
        obtain ⟨v21, gv21, iv21, hT⟩ := tx_rd_some hT
        refine gx_iald (pc := 112) v21 d_Mo_unlike_112 (rfl) iv21 gv21 ?_
        refine gx_icmp_ne (pc := 113) 120 d_Mo_unlike_113 rfl (fun h22 => ?_) (fun h22 => ?_)
        · have hT := tx_ifn h22 hT
          refine gx_sub [1, 2, 3, 4, 0] rfl ?_
          exact fx_Mo_unlike_b120_w (k4) (j4) σ x1 x2 x3 s0 _ hT
        · have hT := tx_ifp h22 hT
          refine gx_iconst (pc := 116) (1 : Int32) d_Mo_unlike_116 (by decide) ?_
          refine gx_goto (pc := 117) 121 d_Mo_unlike_117 rfl ?_
          refine gx_sub [1, 2, 3, 4, 0] rfl ?_
          exact fx_Mo_unlike_b121_w (k4) (j4) σ x1 x2 x3 s0 (1 : Int32) _ hT
set_option maxRecDepth 100000 in
set_option maxHeartbeats 4000000 in
theorem fx_Mo_unlike_b65_w {l : Launch} {E : tx_E} (k4 : tx_St → Int32 → Int32 → Int32 → Option (Int32 × tx_St)) (j4 : ∀ (σ : tx_St) (x1 : Int32) (x2 : Int32) (x3 : Int32) (t : Int32 × tx_St), k4 σ x1 x2 x3 = some t → gx l E mi_Mo_unlike (some (.int t.1), t.2) σ [(0, .ref (E.1 45)), (1, .int x1), (2, .int x2), (3, .int x3)] 4 []) (σ : tx_St) (x1 : Int32) (x2 : Int32) (x3 : Int32) (t : Int32 × tx_St) (hT : fx_Mo_unlike_b65 k4 σ x1 x2 x3 = some t) : gx l E mi_Mo_unlike (some (.int t.1), t.2) σ [(0, .ref (E.1 45)), (1, .int x1), (2, .int x2), (3, .int x3)] 65 [] := by
  unfold fx_Mo_unlike_b65 at hT
  refine gx_iconst (pc := 65) (0 : Int32) d_Mo_unlike_65 (by decide) ?_
  exact fx_Mo_unlike_b66_w (k4) (j4) σ x1 x2 x3 (0 : Int32) _ hT
set_option maxRecDepth 100000 in
set_option maxHeartbeats 4000000 in
theorem fx_Mo_unlike_b4_w {l : Launch} {E : tx_E} : ∀ (n : Nat) (σ : tx_St) (x1 : Int32) (x2 : Int32) (x3 : Int32) (t : Int32 × tx_St), fx_Mo_unlike_b4 n σ x1 x2 x3 = some t → gx l E mi_Mo_unlike (some (.int t.1), t.2) σ [(0, .ref (E.1 45)), (1, .int x1), (2, .int x2), (3, .int x3)] 4 [] := by
  intro n
  induction n with
  | zero => intro σ x1 x2 x3 t hT; cases hT
  | succ n ih =>
    intro σ x1 x2 x3 t hT
    rw [fx_Mo_unlike_b4] at hT
    refine gx_iload_n (pc := 4) 3 d_Mo_unlike_4 rfl rfl ?_
    refine gx_aload_n (pc := 5) 0 d_Mo_unlike_5 rfl rfl ?_
    refine gx_getI (pc := 6) (σ 45 7) fl_Mo_91 d_Mo_unlike_6 (rfl) (by decide) rfl rfl ?_
    refine gx_icmp_ge (pc := 9) 149 d_Mo_unlike_9 rfl (fun h1 => ?_) (fun h1 => ?_)
    · have hT := tx_ifp h1 hT
      refine gx_iload_n (pc := 149) 2 d_Mo_unlike_149 rfl rfl ?_
      obtain ⟨hz, hT⟩ := tx_rz_some hT
      cases hT
      exact gx_zret (pc := 150) d_Mo_unlike_150 rfl hz rfl
    · have hT := tx_ifn h1 hT
      refine gx_aload_n (pc := 12) 0 d_Mo_unlike_12 rfl rfl ?_
      refine gx_getR (pc := 13) 51 fl_Mo_25 d_Mo_unlike_13 (rfl) (by decide) rfl ?_
      refine gx_iload_n (pc := 16) 3 d_Mo_unlike_16 rfl rfl ?_
      obtain ⟨v2, gv2, iv2, hT⟩ := tx_rd_some hT
      refine gx_iald (pc := 17) v2 d_Mo_unlike_17 (rfl) iv2 gv2 ?_
      refine gx_aload_n (pc := 18) 0 d_Mo_unlike_18 rfl rfl ?_
      refine gx_getR (pc := 19) 51 fl_Mo_25 d_Mo_unlike_19 (rfl) (by decide) rfl ?_
      refine gx_iload_n (pc := 22) 1 d_Mo_unlike_22 rfl rfl ?_
      obtain ⟨v3, gv3, iv3, hT⟩ := tx_rd_some hT
      refine gx_iald (pc := 23) v3 d_Mo_unlike_23 (rfl) iv3 gv3 ?_
      refine gx_icmp_eq (pc := 24) 65 d_Mo_unlike_24 rfl (fun h4 => ?_) (fun h4 => ?_)
      · have hT := tx_ifp h4 hT
        exact fx_Mo_unlike_b65_w (fx_Mo_unlike_b4 n) (ih) σ x1 x2 x3 _ hT
      · have hT := tx_ifn h4 hT
        refine gx_aload_n (pc := 27) 0 d_Mo_unlike_27 rfl rfl ?_
        refine gx_aload_n (pc := 28) 0 d_Mo_unlike_28 rfl rfl ?_
        refine gx_getR (pc := 29) 51 fl_Mo_25 d_Mo_unlike_29 (rfl) (by decide) rfl ?_
        refine gx_iload_n (pc := 32) 1 d_Mo_unlike_32 rfl rfl ?_
        obtain ⟨v5, gv5, iv5, hT⟩ := tx_rd_some hT
        refine gx_iald (pc := 33) v5 d_Mo_unlike_33 (rfl) iv5 gv5 ?_
        refine gx_aload_n (pc := 34) 0 d_Mo_unlike_34 rfl rfl ?_
        refine gx_getR (pc := 35) 51 fl_Mo_25 d_Mo_unlike_35 (rfl) (by decide) rfl ?_
        refine gx_iload_n (pc := 38) 3 d_Mo_unlike_38 rfl rfl ?_
        obtain ⟨v6, gv6, iv6, hT⟩ := tx_rd_some hT
        refine gx_iald (pc := 39) v6 d_Mo_unlike_39 (rfl) iv6 gv6 ?_
        obtain ⟨r8, σ7, cσ7, hT⟩ := tx_ci_some hT
        refine gx_callV (pc := 40) (As := [.int v5, .int v6]) (rest := []) cm_Mo_inLine lk_Mo_114 (fx_Mo_inLine_c l E σ v5 v6 _ cσ7) (rfl) (by decide) rfl rfl tx_fi_Mo_unlike_Mo_inLine (Nat.le_of_ble_eq_true rfl) d_Mo_unlike_40 ?_
        change gx l E mi_Mo_unlike _ σ7 [(0, .ref (E.1 45)), (1, .int x1), (2, .int x2), (3, .int x3)] 43 [.int r8]
        refine gx_if_eq (pc := 43) 65 d_Mo_unlike_43 rfl (fun h9 => ?_) (fun h9 => ?_)
        · have hT := tx_ifp h9 hT
          exact fx_Mo_unlike_b65_w (fx_Mo_unlike_b4 n) (ih) σ7 x1 x2 x3 _ hT
        · have hT := tx_ifn h9 hT
          refine gx_aload_n (pc := 46) 0 d_Mo_unlike_46 rfl rfl ?_
          refine gx_getR (pc := 47) 53 fl_Mo_31 d_Mo_unlike_47 (rfl) (by decide) rfl ?_
          refine gx_iload_n (pc := 50) 3 d_Mo_unlike_50 rfl rfl ?_
          obtain ⟨v10, gv10, iv10, hT⟩ := tx_rd_some hT
          refine gx_iald (pc := 51) v10 d_Mo_unlike_51 (rfl) iv10 gv10 ?_
          refine gx_aload_n (pc := 52) 0 d_Mo_unlike_52 rfl rfl ?_
          refine gx_getR (pc := 53) 53 fl_Mo_31 d_Mo_unlike_53 (rfl) (by decide) rfl ?_
          refine gx_iload_n (pc := 56) 1 d_Mo_unlike_56 rfl rfl ?_
          obtain ⟨v11, gv11, iv11, hT⟩ := tx_rd_some hT
          refine gx_iald (pc := 57) v11 d_Mo_unlike_57 (rfl) iv11 gv11 ?_
          refine gx_icmp_ne (pc := 58) 65 d_Mo_unlike_58 rfl (fun h12 => ?_) (fun h12 => ?_)
          · have hT := tx_ifn h12 hT
            exact fx_Mo_unlike_b65_w (fx_Mo_unlike_b4 n) (ih) σ7 x1 x2 x3 _ hT
          · have hT := tx_ifp h12 hT
            refine gx_iconst (pc := 61) (1 : Int32) d_Mo_unlike_61 (by decide) ?_
            refine gx_goto (pc := 62) 66 d_Mo_unlike_62 rfl ?_
            exact fx_Mo_unlike_b66_w (fx_Mo_unlike_b4 n) (ih) σ7 x1 x2 x3 (1 : Int32) _ hT
set_option maxRecDepth 100000 in
set_option maxHeartbeats 4000000 in
theorem fx_Mo_unlike_c (l : Launch) (E : tx_E) (σ : tx_St) (x1 : Int32) (t : Int32 × tx_St) (hT : fx_Mo_unlike σ x1 = some t) : tx_MX l E y_Mo_unlike mi_Mo_unlike (some (.int t.1), t.2) [.ref (E.1 45), .int x1] σ := by
  refine tx_MX_of (by decide) rfl (Nat.le_of_ble_eq_true rfl) ?_
  show gx l E mi_Mo_unlike (some (.int t.1), t.2) σ [(0, .ref (E.1 45)), (1, .int x1)] 0 []
  unfold fx_Mo_unlike at hT
  refine gx_iconst (pc := 0) (0 : Int32) d_Mo_unlike_0 (by decide) ?_
  refine gx_istore_n (pc := 1) [(2, .int (0 : Int32)), (0, .ref (E.1 45)), (1, .int x1)] d_Mo_unlike_1 rfl (Nat.le_of_ble_eq_true rfl) rfl ?_
  refine gx_iconst (pc := 2) (0 : Int32) d_Mo_unlike_2 (by decide) ?_
  refine gx_istore_n (pc := 3) [(3, .int (0 : Int32)), (2, .int (0 : Int32)), (0, .ref (E.1 45)), (1, .int x1)] d_Mo_unlike_3 rfl (Nat.le_of_ble_eq_true rfl) rfl ?_
  refine gx_sub [2, 3, 1, 0] rfl ?_
  exact fx_Mo_unlike_b4_w  tx_fu σ x1 (0 : Int32) (0 : Int32) _ hT
theorem d_Mo_led_0 : decode c_Mo_led 0 = .ok (.iload_n 2, 1) := by decide +kernel
theorem d_Mo_led_1 : decode c_Mo_led 1 = .ok (.ifCond .lt (13), 3) := by decide +kernel
theorem d_Mo_led_4 : decode c_Mo_led 4 = .ok (.iload_n 2, 1) := by decide +kernel
theorem d_Mo_led_5 : decode c_Mo_led 5 = .ok (.aload_n 0, 1) := by decide +kernel
theorem d_Mo_led_6 : decode c_Mo_led 6 = .ok (.getfield 40, 3) := by decide +kernel
theorem d_Mo_led_9 : decode c_Mo_led 9 = .ok (.iload_n 1, 1) := by decide +kernel
theorem d_Mo_led_10 : decode c_Mo_led 10 = .ok (.iaload, 1) := by decide +kernel
theorem d_Mo_led_11 : decode c_Mo_led 11 = .ok (.if_icmp .lt (5), 3) := by decide +kernel
theorem d_Mo_led_14 : decode c_Mo_led 14 = .ok (.iconst (0), 1) := by decide +kernel
theorem d_Mo_led_15 : decode c_Mo_led 15 = .ok (.ireturn, 1) := by decide +kernel
theorem d_Mo_led_16 : decode c_Mo_led 16 = .ok (.bipush (12), 2) := by decide +kernel
theorem d_Mo_led_18 : decode c_Mo_led 18 = .ok (.iload_n 1, 1) := by decide +kernel
theorem d_Mo_led_19 : decode c_Mo_led 19 = .ok (.imul, 1) := by decide +kernel
theorem d_Mo_led_20 : decode c_Mo_led 20 = .ok (.iload_n 2, 1) := by decide +kernel
theorem d_Mo_led_21 : decode c_Mo_led 21 = .ok (.iadd, 1) := by decide +kernel
theorem d_Mo_led_22 : decode c_Mo_led 22 = .ok (.istore 4, 2) := by decide +kernel
theorem d_Mo_led_24 : decode c_Mo_led 24 = .ok (.aload_n 0, 1) := by decide +kernel
theorem d_Mo_led_25 : decode c_Mo_led 25 = .ok (.getfield 52, 3) := by decide +kernel
theorem d_Mo_led_28 : decode c_Mo_led 28 = .ok (.iload 4, 2) := by decide +kernel
theorem d_Mo_led_30 : decode c_Mo_led 30 = .ok (.baload, 1) := by decide +kernel
theorem d_Mo_led_31 : decode c_Mo_led 31 = .ok (.ifCond .eq (20), 3) := by decide +kernel
theorem d_Mo_led_34 : decode c_Mo_led 34 = .ok (.aload_n 0, 1) := by decide +kernel
theorem d_Mo_led_35 : decode c_Mo_led 35 = .ok (.getfield 49, 3) := by decide +kernel
theorem d_Mo_led_38 : decode c_Mo_led 38 = .ok (.iload 4, 2) := by decide +kernel
theorem d_Mo_led_40 : decode c_Mo_led 40 = .ok (.iaload, 1) := by decide +kernel
theorem d_Mo_led_41 : decode c_Mo_led 41 = .ok (.iload_n 3, 1) := by decide +kernel
theorem d_Mo_led_42 : decode c_Mo_led 42 = .ok (.if_icmp .ne (7), 3) := by decide +kernel
theorem d_Mo_led_45 : decode c_Mo_led 45 = .ok (.iconst (1), 1) := by decide +kernel
theorem d_Mo_led_46 : decode c_Mo_led 46 = .ok (.goto (4), 3) := by decide +kernel
theorem d_Mo_led_49 : decode c_Mo_led 49 = .ok (.iconst (0), 1) := by decide +kernel
theorem d_Mo_led_50 : decode c_Mo_led 50 = .ok (.ireturn, 1) := by decide +kernel
theorem d_Mo_led_51 : decode c_Mo_led 51 = .ok (.aload_n 0, 1) := by decide +kernel
theorem d_Mo_led_52 : decode c_Mo_led 52 = .ok (.getfield 52, 3) := by decide +kernel
theorem d_Mo_led_55 : decode c_Mo_led 55 = .ok (.iload 4, 2) := by decide +kernel
theorem d_Mo_led_57 : decode c_Mo_led 57 = .ok (.iconst (1), 1) := by decide +kernel
theorem d_Mo_led_58 : decode c_Mo_led 58 = .ok (.bastore, 1) := by decide +kernel
theorem d_Mo_led_59 : decode c_Mo_led 59 = .ok (.aload_n 0, 1) := by decide +kernel
theorem d_Mo_led_60 : decode c_Mo_led 60 = .ok (.getfield 49, 3) := by decide +kernel
theorem d_Mo_led_63 : decode c_Mo_led 63 = .ok (.iload 4, 2) := by decide +kernel
theorem d_Mo_led_65 : decode c_Mo_led 65 = .ok (.iload_n 3, 1) := by decide +kernel
theorem d_Mo_led_66 : decode c_Mo_led 66 = .ok (.iastore, 1) := by decide +kernel
theorem d_Mo_led_67 : decode c_Mo_led 67 = .ok (.aload_n 0, 1) := by decide +kernel
theorem d_Mo_led_68 : decode c_Mo_led 68 = .ok (.iconst (1), 1) := by decide +kernel
theorem d_Mo_led_69 : decode c_Mo_led 69 = .ok (.putfield 169, 3) := by decide +kernel
theorem d_Mo_led_72 : decode c_Mo_led 72 = .ok (.iconst (1), 1) := by decide +kernel
theorem d_Mo_led_73 : decode c_Mo_led 73 = .ok (.ireturn, 1) := by decide +kernel
def fx_Mo_led_b14 (σ : tx_St) : Option (Int32 × tx_St) := some ((0 : Int32), σ)
def fx_Mo_led_b50 (σ : tx_St) (s0 : Int32) : Option (Int32 × tx_St) := tx_rz s0 σ
def fx_Mo_led (σ : tx_St) (x1 : Int32) (x2 : Int32) (x3 : Int32) : Option (Int32 × tx_St) := (if x2 < 0 then fx_Mo_led_b14  σ else tx_rd σ 56 8 x1 fun v2 => (if x2 < v2 then tx_rd σ 60 96 (((12 : Int32) * x1) + x2) fun v4 => (if v4 = 0 then tx_wz σ 60 96 (((12 : Int32) * x1) + x2) (1 : Int32) fun σ6 => tx_wr σ6 59 96 (((12 : Int32) * x1) + x2) x3 fun σ7 => tx_pz σ7 45 19 (1 : Int32) fun σ8 => some ((1 : Int32), σ8) else tx_rd σ 59 96 (((12 : Int32) * x1) + x2) fun v9 => (if v9 = x3 then fx_Mo_led_b50  σ (1 : Int32) else fx_Mo_led_b50  σ (0 : Int32))) else fx_Mo_led_b14  σ))
set_option maxRecDepth 100000 in
set_option maxHeartbeats 4000000 in
theorem fx_Mo_led_b14_w {l : Launch} {E : tx_E} (σ : tx_St) (t : Int32 × tx_St) (hT : fx_Mo_led_b14 σ  = some t) : gx l E mi_Mo_led (some (.int t.1), t.2) σ [] 14 [] := by
  unfold fx_Mo_led_b14 at hT
  refine gx_iconst (pc := 14) (0 : Int32) d_Mo_led_14 (by decide) ?_
  cases hT
  exact gx_zret (pc := 15) d_Mo_led_15 rfl (by decide) rfl
set_option maxRecDepth 100000 in
set_option maxHeartbeats 4000000 in
theorem fx_Mo_led_b50_w {l : Launch} {E : tx_E} (σ : tx_St) (s0 : Int32) (t : Int32 × tx_St) (hT : fx_Mo_led_b50 σ s0 = some t) : gx l E mi_Mo_led (some (.int t.1), t.2) σ [] 50 [.int s0] := by
  unfold fx_Mo_led_b50 at hT
  obtain ⟨hz, hT⟩ := tx_rz_some hT
  cases hT
  exact gx_zret (pc := 50) d_Mo_led_50 rfl hz rfl
set_option maxRecDepth 100000 in
set_option maxHeartbeats 4000000 in
theorem fx_Mo_led_c (l : Launch) (E : tx_E) (σ : tx_St) (x1 : Int32) (x2 : Int32) (x3 : Int32) (t : Int32 × tx_St) (hT : fx_Mo_led σ x1 x2 x3 = some t) : tx_MX l E y_Mo_led mi_Mo_led (some (.int t.1), t.2) [.ref (E.1 45), .int x1, .int x2, .int x3] σ := by
  refine tx_MX_of (by decide) rfl (Nat.le_of_ble_eq_true rfl) ?_
  show gx l E mi_Mo_led (some (.int t.1), t.2) σ [(0, .ref (E.1 45)), (1, .int x1), (2, .int x2), (3, .int x3)] 0 []
  unfold fx_Mo_led at hT
  refine gx_iload_n (pc := 0) 2 d_Mo_led_0 rfl rfl ?_
  refine gx_if_lt (pc := 1) 14 d_Mo_led_1 rfl (fun h1 => ?_) (fun h1 => ?_)
  · have hT := tx_ifp h1 hT
    refine gx_sub [] rfl ?_
    exact fx_Mo_led_b14_w  σ _ hT
  · have hT := tx_ifn h1 hT
    refine gx_iload_n (pc := 4) 2 d_Mo_led_4 rfl rfl ?_
    refine gx_aload_n (pc := 5) 0 d_Mo_led_5 rfl rfl ?_
    refine gx_getR (pc := 6) 56 fl_Mo_40 d_Mo_led_6 (rfl) (by decide) rfl ?_
    refine gx_iload_n (pc := 9) 1 d_Mo_led_9 rfl rfl ?_
    obtain ⟨v2, gv2, iv2, hT⟩ := tx_rd_some hT
    refine gx_iald (pc := 10) v2 d_Mo_led_10 (rfl) iv2 gv2 ?_
    refine gx_icmp_lt (pc := 11) 16 d_Mo_led_11 rfl (fun h3 => ?_) (fun h3 => ?_)
    · have hT := tx_ifp h3 hT
      refine gx_bipush (pc := 16) (12 : Int32) d_Mo_led_16 (by decide) ?_
      refine gx_iload_n (pc := 18) 1 d_Mo_led_18 rfl rfl ?_
      refine gx_imul (pc := 19) d_Mo_led_19 ?_
      refine gx_iload_n (pc := 20) 2 d_Mo_led_20 rfl rfl ?_
      refine gx_iadd (pc := 21) d_Mo_led_21 ?_
      refine gx_istore (pc := 22) [(4, .int (((12 : Int32) * x1) + x2)), (0, .ref (E.1 45)), (1, .int x1), (2, .int x2), (3, .int x3)] d_Mo_led_22 (Nat.le_of_ble_eq_true rfl) rfl ?_
      refine gx_aload_n (pc := 24) 1 d_Mo_led_24 rfl rfl ?_
      refine gx_getR (pc := 25) 60 fl_Mo_52 d_Mo_led_25 (rfl) (by decide) rfl ?_
      refine gx_iload (pc := 28) 0 d_Mo_led_28 rfl ?_
      obtain ⟨v4, gv4, iv4, hT⟩ := tx_rd_some hT
      refine gx_zald (pc := 30) v4 d_Mo_led_30 (rfl) iv4 gv4 ?_
      refine gx_if_eq (pc := 31) 51 d_Mo_led_31 rfl (fun h5 => ?_) (fun h5 => ?_)
      · have hT := tx_ifp h5 hT
        refine gx_aload_n (pc := 51) 1 d_Mo_led_51 rfl rfl ?_
        refine gx_getR (pc := 52) 60 fl_Mo_52 d_Mo_led_52 (rfl) (by decide) rfl ?_
        refine gx_iload (pc := 55) 0 d_Mo_led_55 rfl ?_
        refine gx_iconst (pc := 57) (1 : Int32) d_Mo_led_57 (by decide) ?_
        obtain ⟨σ6, gσ6, iσ6, bσ6, hT⟩ := tx_wz_some hT
        refine gx_zast (pc := 58) d_Mo_led_58 (rfl) iσ6 bσ6 ?_
        rw [gσ6]
        refine gx_aload_n (pc := 59) 1 d_Mo_led_59 rfl rfl ?_
        refine gx_getR (pc := 60) 59 fl_Mo_49 d_Mo_led_60 (rfl) (by decide) rfl ?_
        refine gx_iload (pc := 63) 0 d_Mo_led_63 rfl ?_
        refine gx_iload_n (pc := 65) 4 d_Mo_led_65 rfl rfl ?_
        obtain ⟨σ7, gσ7, iσ7, hT⟩ := tx_wr_some hT
        refine gx_iast (pc := 66) d_Mo_led_66 (rfl) iσ7 ?_
        rw [gσ7]
        refine gx_aload_n (pc := 67) 1 d_Mo_led_67 rfl rfl ?_
        refine gx_iconst (pc := 68) (1 : Int32) d_Mo_led_68 (by decide) ?_
        obtain ⟨σ8, gσ8, bσ8, hT⟩ := tx_pz_some hT
        refine gx_putZ (pc := 69) fp_Mo_169 d_Mo_led_69 (rfl) (by decide) rfl bσ8 ?_
        rw [gσ8]
        refine gx_iconst (pc := 72) (1 : Int32) d_Mo_led_72 (by decide) ?_
        cases hT
        exact gx_zret (pc := 73) d_Mo_led_73 rfl (by decide) rfl
      · have hT := tx_ifn h5 hT
        refine gx_aload_n (pc := 34) 1 d_Mo_led_34 rfl rfl ?_
        refine gx_getR (pc := 35) 59 fl_Mo_49 d_Mo_led_35 (rfl) (by decide) rfl ?_
        refine gx_iload (pc := 38) 0 d_Mo_led_38 rfl ?_
        obtain ⟨v9, gv9, iv9, hT⟩ := tx_rd_some hT
        refine gx_iald (pc := 40) v9 d_Mo_led_40 (rfl) iv9 gv9 ?_
        refine gx_iload_n (pc := 41) 4 d_Mo_led_41 rfl rfl ?_
        refine gx_icmp_ne (pc := 42) 49 d_Mo_led_42 rfl (fun h10 => ?_) (fun h10 => ?_)
        · have hT := tx_ifn h10 hT
          refine gx_iconst (pc := 49) (0 : Int32) d_Mo_led_49 (by decide) ?_
          refine gx_sub [] rfl ?_
          exact fx_Mo_led_b50_w  σ (0 : Int32) _ hT
        · have hT := tx_ifp h10 hT
          refine gx_iconst (pc := 45) (1 : Int32) d_Mo_led_45 (by decide) ?_
          refine gx_goto (pc := 46) 50 d_Mo_led_46 rfl ?_
          refine gx_sub [] rfl ?_
          exact fx_Mo_led_b50_w  σ (1 : Int32) _ hT
    · have hT := tx_ifn h3 hT
      refine gx_sub [] rfl ?_
      exact fx_Mo_led_b14_w  σ _ hT
theorem d_Mo_depth_0 : decode c_Mo_depth 0 = .ok (.iconst (0), 1) := by decide +kernel
theorem d_Mo_depth_1 : decode c_Mo_depth 1 = .ok (.istore_n 1, 1) := by decide +kernel
theorem d_Mo_depth_2 : decode c_Mo_depth 2 = .ok (.iload_n 1, 1) := by decide +kernel
theorem d_Mo_depth_3 : decode c_Mo_depth 3 = .ok (.iconst (4), 1) := by decide +kernel
theorem d_Mo_depth_4 : decode c_Mo_depth 4 = .ok (.if_icmp .ge (20), 3) := by decide +kernel
theorem d_Mo_depth_7 : decode c_Mo_depth 7 = .ok (.iload_n 0, 1) := by decide +kernel
theorem d_Mo_depth_8 : decode c_Mo_depth 8 = .ok (.iconst (4), 1) := by decide +kernel
theorem d_Mo_depth_9 : decode c_Mo_depth 9 = .ok (.iload_n 1, 1) := by decide +kernel
theorem d_Mo_depth_10 : decode c_Mo_depth 10 = .ok (.imul, 1) := by decide +kernel
theorem d_Mo_depth_11 : decode c_Mo_depth 11 = .ok (.ishr, 1) := by decide +kernel
theorem d_Mo_depth_12 : decode c_Mo_depth 12 = .ok (.bipush (15), 2) := by decide +kernel
theorem d_Mo_depth_14 : decode c_Mo_depth 14 = .ok (.iand, 1) := by decide +kernel
theorem d_Mo_depth_15 : decode c_Mo_depth 15 = .ok (.ifCond .eq (9), 3) := by decide +kernel
theorem d_Mo_depth_18 : decode c_Mo_depth 18 = .ok (.iinc 1 (1), 3) := by decide +kernel
theorem d_Mo_depth_21 : decode c_Mo_depth 21 = .ok (.goto (-19), 3) := by decide +kernel
theorem d_Mo_depth_24 : decode c_Mo_depth 24 = .ok (.iload_n 1, 1) := by decide +kernel
theorem d_Mo_depth_25 : decode c_Mo_depth 25 = .ok (.ireturn, 1) := by decide +kernel
def fx_Mo_depth_b24 (σ : tx_St) (x1 : Int32) : Option (Int32 × tx_St) := some (x1, σ)
def fx_Mo_depth_b2 : Nat → tx_St → Int32 → Int32 → Option (Int32 × tx_St)
  | 0, _, _, _ => none
  | n + 1, σ, x0, x1 => (if (4 : Int32) ≤ x1 then fx_Mo_depth_b24  σ x1 else (if ((x0 >>> (((4 : Int32) * x1) &&& 31)) &&& (15 : Int32)) = 0 then fx_Mo_depth_b24  σ x1 else fx_Mo_depth_b2 n σ x0 (x1 + (1 : Int32))))
def fx_Mo_depth (σ : tx_St) (x0 : Int32) : Option (Int32 × tx_St) := fx_Mo_depth_b2  tx_fu σ x0 (0 : Int32)
set_option maxRecDepth 100000 in
set_option maxHeartbeats 4000000 in
theorem fx_Mo_depth_b24_w {l : Launch} {E : tx_E} (σ : tx_St) (x1 : Int32) (t : Int32 × tx_St) (hT : fx_Mo_depth_b24 σ x1 = some t) : gx l E mi_Mo_depth (some (.int t.1), t.2) σ [(1, .int x1)] 24 [] := by
  unfold fx_Mo_depth_b24 at hT
  refine gx_iload_n (pc := 24) 0 d_Mo_depth_24 rfl rfl ?_
  cases hT
  exact gx_iret (pc := 25) d_Mo_depth_25 rfl rfl
set_option maxRecDepth 100000 in
set_option maxHeartbeats 4000000 in
theorem fx_Mo_depth_b2_w {l : Launch} {E : tx_E} : ∀ (n : Nat) (σ : tx_St) (x0 : Int32) (x1 : Int32) (t : Int32 × tx_St), fx_Mo_depth_b2 n σ x0 x1 = some t → gx l E mi_Mo_depth (some (.int t.1), t.2) σ [(0, .int x0), (1, .int x1)] 2 [] := by
  intro n
  induction n with
  | zero => intro σ x0 x1 t hT; cases hT
  | succ n ih =>
    intro σ x0 x1 t hT
    rw [fx_Mo_depth_b2] at hT
    refine gx_iload_n (pc := 2) 1 d_Mo_depth_2 rfl rfl ?_
    refine gx_iconst (pc := 3) (4 : Int32) d_Mo_depth_3 (by decide) ?_
    refine gx_icmp_ge (pc := 4) 24 d_Mo_depth_4 rfl (fun h1 => ?_) (fun h1 => ?_)
    · have hT := tx_ifp h1 hT
      refine gx_sub [1] rfl ?_
      exact fx_Mo_depth_b24_w  σ x1 _ hT
    · have hT := tx_ifn h1 hT
      refine gx_iload_n (pc := 7) 0 d_Mo_depth_7 rfl rfl ?_
      refine gx_iconst (pc := 8) (4 : Int32) d_Mo_depth_8 (by decide) ?_
      refine gx_iload_n (pc := 9) 1 d_Mo_depth_9 rfl rfl ?_
      refine gx_imul (pc := 10) d_Mo_depth_10 ?_
      refine gx_ishr (pc := 11) d_Mo_depth_11 ?_
      refine gx_bipush (pc := 12) (15 : Int32) d_Mo_depth_12 (by decide) ?_
      refine gx_iand (pc := 14) d_Mo_depth_14 ?_
      refine gx_if_eq (pc := 15) 24 d_Mo_depth_15 rfl (fun h2 => ?_) (fun h2 => ?_)
      · have hT := tx_ifp h2 hT
        refine gx_sub [1] rfl ?_
        exact fx_Mo_depth_b24_w  σ x1 _ hT
      · have hT := tx_ifn h2 hT
        refine gx_iinc (pc := 18) (x1 + (1 : Int32)) 1 [(1, .int (x1 + (1 : Int32))), (0, .int x0)] d_Mo_depth_18 rfl (tx_inc (by decide)) (Nat.le_of_ble_eq_true rfl) rfl ?_
        refine gx_goto (pc := 21) 2 d_Mo_depth_21 rfl ?_
        refine gx_sub [1, 0] rfl ?_
        exact ih σ x0 (x1 + (1 : Int32)) _ hT
set_option maxRecDepth 100000 in
set_option maxHeartbeats 4000000 in
theorem fx_Mo_depth_c (l : Launch) (E : tx_E) (σ : tx_St) (x0 : Int32) (t : Int32 × tx_St) (hT : fx_Mo_depth σ x0 = some t) : tx_MX l E y_Mo_depth mi_Mo_depth (some (.int t.1), t.2) [.int x0] σ := by
  refine tx_MX_of (by decide) rfl (Nat.le_of_ble_eq_true rfl) ?_
  show gx l E mi_Mo_depth (some (.int t.1), t.2) σ [(0, .int x0)] 0 []
  unfold fx_Mo_depth at hT
  refine gx_iconst (pc := 0) (0 : Int32) d_Mo_depth_0 (by decide) ?_
  refine gx_istore_n (pc := 1) [(1, .int (0 : Int32)), (0, .int x0)] d_Mo_depth_1 rfl (Nat.le_of_ble_eq_true rfl) rfl ?_
  refine gx_sub [1, 0] rfl ?_
  exact fx_Mo_depth_b2_w  tx_fu σ x0 (0 : Int32) _ hT
theorem d_Mo_give_0 : decode c_Mo_give 0 = .ok (.iload_n 0, 1) := by decide +kernel
theorem d_Mo_give_1 : decode c_Mo_give 1 = .ok (.ifCond .ge (5), 3) := by decide +kernel
theorem d_Mo_give_4 : decode c_Mo_give 4 = .ok (.iconst (-1), 1) := by decide +kernel
theorem d_Mo_give_5 : decode c_Mo_give 5 = .ok (.ireturn, 1) := by decide +kernel
theorem d_Mo_give_6 : decode c_Mo_give 6 = .ok (.iload_n 0, 1) := by decide +kernel
theorem d_Mo_give_7 : decode c_Mo_give 7 = .ok (.invokestatic 124, 3) := by decide +kernel
theorem d_Mo_give_10 : decode c_Mo_give 10 = .ok (.istore_n 2, 1) := by decide +kernel
theorem d_Mo_give_11 : decode c_Mo_give 11 = .ok (.iload_n 2, 1) := by decide +kernel
theorem d_Mo_give_12 : decode c_Mo_give 12 = .ok (.iconst (4), 1) := by decide +kernel
theorem d_Mo_give_13 : decode c_Mo_give 13 = .ok (.if_icmp .ne (7), 3) := by decide +kernel
theorem d_Mo_give_16 : decode c_Mo_give 16 = .ok (.iconst (-1), 1) := by decide +kernel
theorem d_Mo_give_17 : decode c_Mo_give 17 = .ok (.goto (12), 3) := by decide +kernel
theorem d_Mo_give_20 : decode c_Mo_give 20 = .ok (.iload_n 0, 1) := by decide +kernel
theorem d_Mo_give_21 : decode c_Mo_give 21 = .ok (.iload_n 1, 1) := by decide +kernel
theorem d_Mo_give_22 : decode c_Mo_give 22 = .ok (.iconst (1), 1) := by decide +kernel
theorem d_Mo_give_23 : decode c_Mo_give 23 = .ok (.iadd, 1) := by decide +kernel
theorem d_Mo_give_24 : decode c_Mo_give 24 = .ok (.iconst (4), 1) := by decide +kernel
theorem d_Mo_give_25 : decode c_Mo_give 25 = .ok (.iload_n 2, 1) := by decide +kernel
theorem d_Mo_give_26 : decode c_Mo_give 26 = .ok (.imul, 1) := by decide +kernel
theorem d_Mo_give_27 : decode c_Mo_give 27 = .ok (.ishl, 1) := by decide +kernel
theorem d_Mo_give_28 : decode c_Mo_give 28 = .ok (.ior, 1) := by decide +kernel
theorem d_Mo_give_29 : decode c_Mo_give 29 = .ok (.ireturn, 1) := by decide +kernel
def fx_Mo_give_b29 (σ : tx_St) (s0 : Int32) : Option (Int32 × tx_St) := some (s0, σ)
def fx_Mo_give (σ : tx_St) (x0 : Int32) (x1 : Int32) : Option (Int32 × tx_St) := (if 0 ≤ x0 then tx_ci (fx_Mo_depth σ x0) fun r3 σ2 => (if r3 = (4 : Int32) then fx_Mo_give_b29  σ2 (-1 : Int32) else fx_Mo_give_b29  σ2 (x0 ||| ((x1 + (1 : Int32)) <<< (((4 : Int32) * r3) &&& 31)))) else some ((-1 : Int32), σ))
set_option maxRecDepth 100000 in
set_option maxHeartbeats 4000000 in
theorem fx_Mo_give_b29_w {l : Launch} {E : tx_E} (σ : tx_St) (s0 : Int32) (t : Int32 × tx_St) (hT : fx_Mo_give_b29 σ s0 = some t) : gx l E mi_Mo_give (some (.int t.1), t.2) σ [] 29 [.int s0] := by
  unfold fx_Mo_give_b29 at hT
  cases hT
  exact gx_iret (pc := 29) d_Mo_give_29 rfl rfl
set_option maxRecDepth 100000 in
set_option maxHeartbeats 4000000 in
theorem fx_Mo_give_c (l : Launch) (E : tx_E) (σ : tx_St) (x0 : Int32) (x1 : Int32) (t : Int32 × tx_St) (hT : fx_Mo_give σ x0 x1 = some t) : tx_MX l E y_Mo_give mi_Mo_give (some (.int t.1), t.2) [.int x0, .int x1] σ := by
  refine tx_MX_of (by decide) rfl (Nat.le_of_ble_eq_true rfl) ?_
  show gx l E mi_Mo_give (some (.int t.1), t.2) σ [(0, .int x0), (1, .int x1)] 0 []
  unfold fx_Mo_give at hT
  refine gx_iload_n (pc := 0) 0 d_Mo_give_0 rfl rfl ?_
  refine gx_if_ge (pc := 1) 6 d_Mo_give_1 rfl (fun h1 => ?_) (fun h1 => ?_)
  · have hT := tx_ifp h1 hT
    refine gx_iload_n (pc := 6) 0 d_Mo_give_6 rfl rfl ?_
    obtain ⟨r3, σ2, cσ2, hT⟩ := tx_ci_some hT
    refine gx_callS (pc := 7) (As := [.int x0]) (rest := []) cm_Mo_depth lk_Mo_124 (fx_Mo_depth_c l E σ x0 _ cσ2) rfl rfl tx_fi_Mo_give_Mo_depth (Nat.le_of_ble_eq_true rfl) d_Mo_give_7 ?_
    change gx l E mi_Mo_give _ σ2 [(0, .int x0), (1, .int x1)] 10 [.int r3]
    refine gx_istore_n (pc := 10) [(2, .int r3), (0, .int x0), (1, .int x1)] d_Mo_give_10 rfl (Nat.le_of_ble_eq_true rfl) rfl ?_
    refine gx_iload_n (pc := 11) 0 d_Mo_give_11 rfl rfl ?_
    refine gx_iconst (pc := 12) (4 : Int32) d_Mo_give_12 (by decide) ?_
    refine gx_icmp_ne (pc := 13) 20 d_Mo_give_13 rfl (fun h4 => ?_) (fun h4 => ?_)
    · have hT := tx_ifn h4 hT
      refine gx_iload_n (pc := 20) 1 d_Mo_give_20 rfl rfl ?_
      refine gx_iload_n (pc := 21) 2 d_Mo_give_21 rfl rfl ?_
      refine gx_iconst (pc := 22) (1 : Int32) d_Mo_give_22 (by decide) ?_
      refine gx_iadd (pc := 23) d_Mo_give_23 ?_
      refine gx_iconst (pc := 24) (4 : Int32) d_Mo_give_24 (by decide) ?_
      refine gx_iload_n (pc := 25) 0 d_Mo_give_25 rfl rfl ?_
      refine gx_imul (pc := 26) d_Mo_give_26 ?_
      refine gx_ishl (pc := 27) d_Mo_give_27 ?_
      refine gx_ior (pc := 28) d_Mo_give_28 ?_
      refine gx_sub [] rfl ?_
      exact fx_Mo_give_b29_w  σ2 (x0 ||| ((x1 + (1 : Int32)) <<< (((4 : Int32) * r3) &&& 31))) _ hT
    · have hT := tx_ifp h4 hT
      refine gx_iconst (pc := 16) (-1 : Int32) d_Mo_give_16 (by decide) ?_
      refine gx_goto (pc := 17) 29 d_Mo_give_17 rfl ?_
      refine gx_sub [] rfl ?_
      exact fx_Mo_give_b29_w  σ2 (-1 : Int32) _ hT
  · have hT := tx_ifn h1 hT
    refine gx_iconst (pc := 4) (-1 : Int32) d_Mo_give_4 (by decide) ?_
    cases hT
    exact gx_iret (pc := 5) d_Mo_give_5 rfl rfl
theorem d_Mo_loaded_0 : decode c_Mo_loaded 0 = .ok (.iload_n 2, 1) := by decide +kernel
theorem d_Mo_loaded_1 : decode c_Mo_loaded 1 = .ok (.ifCond .lt (8), 3) := by decide +kernel
theorem d_Mo_loaded_4 : decode c_Mo_loaded 4 = .ok (.iload_n 2, 1) := by decide +kernel
theorem d_Mo_loaded_5 : decode c_Mo_loaded 5 = .ok (.iconst (2), 1) := by decide +kernel
theorem d_Mo_loaded_6 : decode c_Mo_loaded 6 = .ok (.if_icmp .le (5), 3) := by decide +kernel
theorem d_Mo_loaded_9 : decode c_Mo_loaded 9 = .ok (.iconst (-1), 1) := by decide +kernel
theorem d_Mo_loaded_10 : decode c_Mo_loaded 10 = .ok (.ireturn, 1) := by decide +kernel
theorem d_Mo_loaded_11 : decode c_Mo_loaded 11 = .ok (.iload_n 1, 1) := by decide +kernel
theorem d_Mo_loaded_12 : decode c_Mo_loaded 12 = .ok (.bipush (16), 2) := by decide +kernel
theorem d_Mo_loaded_14 : decode c_Mo_loaded 14 = .ok (.iconst (4), 1) := by decide +kernel
theorem d_Mo_loaded_15 : decode c_Mo_loaded 15 = .ok (.iload_n 2, 1) := by decide +kernel
theorem d_Mo_loaded_16 : decode c_Mo_loaded 16 = .ok (.imul, 1) := by decide +kernel
theorem d_Mo_loaded_17 : decode c_Mo_loaded 17 = .ok (.iadd, 1) := by decide +kernel
theorem d_Mo_loaded_18 : decode c_Mo_loaded 18 = .ok (.ishr, 1) := by decide +kernel
theorem d_Mo_loaded_19 : decode c_Mo_loaded 19 = .ok (.bipush (15), 2) := by decide +kernel
theorem d_Mo_loaded_21 : decode c_Mo_loaded 21 = .ok (.iand, 1) := by decide +kernel
theorem d_Mo_loaded_22 : decode c_Mo_loaded 22 = .ok (.istore_n 3, 1) := by decide +kernel
theorem d_Mo_loaded_23 : decode c_Mo_loaded 23 = .ok (.iload_n 3, 1) := by decide +kernel
theorem d_Mo_loaded_24 : decode c_Mo_loaded 24 = .ok (.ifCond .ne (7), 3) := by decide +kernel
theorem d_Mo_loaded_27 : decode c_Mo_loaded 27 = .ok (.iconst (-1), 1) := by decide +kernel
theorem d_Mo_loaded_28 : decode c_Mo_loaded 28 = .ok (.goto (10), 3) := by decide +kernel
theorem d_Mo_loaded_31 : decode c_Mo_loaded 31 = .ok (.iload_n 1, 1) := by decide +kernel
theorem d_Mo_loaded_32 : decode c_Mo_loaded 32 = .ok (.iload_n 3, 1) := by decide +kernel
theorem d_Mo_loaded_33 : decode c_Mo_loaded 33 = .ok (.iconst (1), 1) := by decide +kernel
theorem d_Mo_loaded_34 : decode c_Mo_loaded 34 = .ok (.isub, 1) := by decide +kernel
theorem d_Mo_loaded_35 : decode c_Mo_loaded 35 = .ok (.invokestatic 137, 3) := by decide +kernel
theorem d_Mo_loaded_38 : decode c_Mo_loaded 38 = .ok (.ireturn, 1) := by decide +kernel
def fx_Mo_loaded_b9 (σ : tx_St) : Option (Int32 × tx_St) := some ((-1 : Int32), σ)
def fx_Mo_loaded_b38 (σ : tx_St) (s0 : Int32) : Option (Int32 × tx_St) := some (s0, σ)
def fx_Mo_loaded (σ : tx_St) (x1 : Int32) (x2 : Int32) : Option (Int32 × tx_St) := (if x2 < 0 then fx_Mo_loaded_b9  σ else (if x2 ≤ (2 : Int32) then (if ((x1 >>> (((16 : Int32) + ((4 : Int32) * x2)) &&& 31)) &&& (15 : Int32)) = 0 then fx_Mo_loaded_b38  σ (-1 : Int32) else tx_ci (fx_Mo_give σ x1 (((x1 >>> (((16 : Int32) + ((4 : Int32) * x2)) &&& 31)) &&& (15 : Int32)) - (1 : Int32))) fun r5 σ4 => fx_Mo_loaded_b38  σ4 r5) else fx_Mo_loaded_b9  σ))
set_option maxRecDepth 100000 in
set_option maxHeartbeats 4000000 in
theorem fx_Mo_loaded_b9_w {l : Launch} {E : tx_E} (σ : tx_St) (t : Int32 × tx_St) (hT : fx_Mo_loaded_b9 σ  = some t) : gx l E mi_Mo_loaded (some (.int t.1), t.2) σ [] 9 [] := by
  unfold fx_Mo_loaded_b9 at hT
  refine gx_iconst (pc := 9) (-1 : Int32) d_Mo_loaded_9 (by decide) ?_
  cases hT
  exact gx_iret (pc := 10) d_Mo_loaded_10 rfl rfl
set_option maxRecDepth 100000 in
set_option maxHeartbeats 4000000 in
theorem fx_Mo_loaded_b38_w {l : Launch} {E : tx_E} (σ : tx_St) (s0 : Int32) (t : Int32 × tx_St) (hT : fx_Mo_loaded_b38 σ s0 = some t) : gx l E mi_Mo_loaded (some (.int t.1), t.2) σ [] 38 [.int s0] := by
  unfold fx_Mo_loaded_b38 at hT
  cases hT
  exact gx_iret (pc := 38) d_Mo_loaded_38 rfl rfl
set_option maxRecDepth 100000 in
set_option maxHeartbeats 4000000 in
theorem fx_Mo_loaded_c (l : Launch) (E : tx_E) (σ : tx_St) (x1 : Int32) (x2 : Int32) (t : Int32 × tx_St) (hT : fx_Mo_loaded σ x1 x2 = some t) : tx_MX l E y_Mo_loaded mi_Mo_loaded (some (.int t.1), t.2) [.ref (E.1 45), .int x1, .int x2] σ := by
  refine tx_MX_of (by decide) rfl (Nat.le_of_ble_eq_true rfl) ?_
  show gx l E mi_Mo_loaded (some (.int t.1), t.2) σ [(0, .ref (E.1 45)), (1, .int x1), (2, .int x2)] 0 []
  unfold fx_Mo_loaded at hT
  refine gx_iload_n (pc := 0) 2 d_Mo_loaded_0 rfl rfl ?_
  refine gx_if_lt (pc := 1) 9 d_Mo_loaded_1 rfl (fun h1 => ?_) (fun h1 => ?_)
  · have hT := tx_ifp h1 hT
    refine gx_sub [] rfl ?_
    exact fx_Mo_loaded_b9_w  σ _ hT
  · have hT := tx_ifn h1 hT
    refine gx_iload_n (pc := 4) 2 d_Mo_loaded_4 rfl rfl ?_
    refine gx_iconst (pc := 5) (2 : Int32) d_Mo_loaded_5 (by decide) ?_
    refine gx_icmp_le (pc := 6) 11 d_Mo_loaded_6 rfl (fun h2 => ?_) (fun h2 => ?_)
    · have hT := tx_ifp h2 hT
      refine gx_iload_n (pc := 11) 1 d_Mo_loaded_11 rfl rfl ?_
      refine gx_bipush (pc := 12) (16 : Int32) d_Mo_loaded_12 (by decide) ?_
      refine gx_iconst (pc := 14) (4 : Int32) d_Mo_loaded_14 (by decide) ?_
      refine gx_iload_n (pc := 15) 2 d_Mo_loaded_15 rfl rfl ?_
      refine gx_imul (pc := 16) d_Mo_loaded_16 ?_
      refine gx_iadd (pc := 17) d_Mo_loaded_17 ?_
      refine gx_ishr (pc := 18) d_Mo_loaded_18 ?_
      refine gx_bipush (pc := 19) (15 : Int32) d_Mo_loaded_19 (by decide) ?_
      refine gx_iand (pc := 21) d_Mo_loaded_21 ?_
      refine gx_istore_n (pc := 22) [(3, .int ((x1 >>> (((16 : Int32) + ((4 : Int32) * x2)) &&& 31)) &&& (15 : Int32))), (0, .ref (E.1 45)), (1, .int x1), (2, .int x2)] d_Mo_loaded_22 rfl (Nat.le_of_ble_eq_true rfl) rfl ?_
      refine gx_iload_n (pc := 23) 0 d_Mo_loaded_23 rfl rfl ?_
      refine gx_if_ne (pc := 24) 31 d_Mo_loaded_24 rfl (fun h3 => ?_) (fun h3 => ?_)
      · have hT := tx_ifn h3 hT
        refine gx_iload_n (pc := 31) 2 d_Mo_loaded_31 rfl rfl ?_
        refine gx_iload_n (pc := 32) 0 d_Mo_loaded_32 rfl rfl ?_
        refine gx_iconst (pc := 33) (1 : Int32) d_Mo_loaded_33 (by decide) ?_
        refine gx_isub (pc := 34) d_Mo_loaded_34 ?_
        obtain ⟨r5, σ4, cσ4, hT⟩ := tx_ci_some hT
        refine gx_callS (pc := 35) (As := [.int x1, .int (((x1 >>> (((16 : Int32) + ((4 : Int32) * x2)) &&& 31)) &&& (15 : Int32)) - (1 : Int32))]) (rest := []) cm_Mo_give lk_Mo_137 (fx_Mo_give_c l E σ x1 (((x1 >>> (((16 : Int32) + ((4 : Int32) * x2)) &&& 31)) &&& (15 : Int32)) - (1 : Int32)) _ cσ4) rfl rfl tx_fi_Mo_loaded_Mo_give (Nat.le_of_ble_eq_true rfl) d_Mo_loaded_35 ?_
        change gx l E mi_Mo_loaded _ σ4 [(3, .int ((x1 >>> (((16 : Int32) + ((4 : Int32) * x2)) &&& 31)) &&& (15 : Int32))), (0, .ref (E.1 45)), (1, .int x1), (2, .int x2)] 38 [.int r5]
        refine gx_sub [] rfl ?_
        exact fx_Mo_loaded_b38_w  σ4 r5 _ hT
      · have hT := tx_ifp h3 hT
        refine gx_iconst (pc := 27) (-1 : Int32) d_Mo_loaded_27 (by decide) ?_
        refine gx_goto (pc := 28) 38 d_Mo_loaded_28 rfl ?_
        refine gx_sub [] rfl ?_
        exact fx_Mo_loaded_b38_w  σ (-1 : Int32) _ hT
    · have hT := tx_ifn h2 hT
      refine gx_sub [] rfl ?_
      exact fx_Mo_loaded_b9_w  σ _ hT
theorem d_Mo_typeAt_0 : decode c_Mo_typeAt 0 = .ok (.iload_n 0, 1) := by decide +kernel
theorem d_Mo_typeAt_1 : decode c_Mo_typeAt 1 = .ok (.invokestatic 124, 3) := by decide +kernel
theorem d_Mo_typeAt_4 : decode c_Mo_typeAt 4 = .ok (.iconst (1), 1) := by decide +kernel
theorem d_Mo_typeAt_5 : decode c_Mo_typeAt 5 = .ok (.isub, 1) := by decide +kernel
theorem d_Mo_typeAt_6 : decode c_Mo_typeAt 6 = .ok (.iload_n 1, 1) := by decide +kernel
theorem d_Mo_typeAt_7 : decode c_Mo_typeAt 7 = .ok (.isub, 1) := by decide +kernel
theorem d_Mo_typeAt_8 : decode c_Mo_typeAt 8 = .ok (.istore_n 2, 1) := by decide +kernel
theorem d_Mo_typeAt_9 : decode c_Mo_typeAt 9 = .ok (.iload_n 2, 1) := by decide +kernel
theorem d_Mo_typeAt_10 : decode c_Mo_typeAt 10 = .ok (.ifCond .ge (7), 3) := by decide +kernel
theorem d_Mo_typeAt_13 : decode c_Mo_typeAt 13 = .ok (.iconst (-1), 1) := by decide +kernel
theorem d_Mo_typeAt_14 : decode c_Mo_typeAt 14 = .ok (.goto (13), 3) := by decide +kernel
theorem d_Mo_typeAt_17 : decode c_Mo_typeAt 17 = .ok (.iload_n 0, 1) := by decide +kernel
theorem d_Mo_typeAt_18 : decode c_Mo_typeAt 18 = .ok (.iconst (4), 1) := by decide +kernel
theorem d_Mo_typeAt_19 : decode c_Mo_typeAt 19 = .ok (.iload_n 2, 1) := by decide +kernel
theorem d_Mo_typeAt_20 : decode c_Mo_typeAt 20 = .ok (.imul, 1) := by decide +kernel
theorem d_Mo_typeAt_21 : decode c_Mo_typeAt 21 = .ok (.ishr, 1) := by decide +kernel
theorem d_Mo_typeAt_22 : decode c_Mo_typeAt 22 = .ok (.bipush (15), 2) := by decide +kernel
theorem d_Mo_typeAt_24 : decode c_Mo_typeAt 24 = .ok (.iand, 1) := by decide +kernel
theorem d_Mo_typeAt_25 : decode c_Mo_typeAt 25 = .ok (.iconst (1), 1) := by decide +kernel
theorem d_Mo_typeAt_26 : decode c_Mo_typeAt 26 = .ok (.isub, 1) := by decide +kernel
theorem d_Mo_typeAt_27 : decode c_Mo_typeAt 27 = .ok (.ireturn, 1) := by decide +kernel
def fx_Mo_typeAt_b27 (σ : tx_St) (s0 : Int32) : Option (Int32 × tx_St) := some (s0, σ)
def fx_Mo_typeAt (σ : tx_St) (x0 : Int32) (x1 : Int32) : Option (Int32 × tx_St) := tx_ci (fx_Mo_depth σ x0) fun r2 σ1 => (if 0 ≤ ((r2 - (1 : Int32)) - x1) then fx_Mo_typeAt_b27  σ1 (((x0 >>> (((4 : Int32) * ((r2 - (1 : Int32)) - x1)) &&& 31)) &&& (15 : Int32)) - (1 : Int32)) else fx_Mo_typeAt_b27  σ1 (-1 : Int32))
set_option maxRecDepth 100000 in
set_option maxHeartbeats 4000000 in
theorem fx_Mo_typeAt_b27_w {l : Launch} {E : tx_E} (σ : tx_St) (s0 : Int32) (t : Int32 × tx_St) (hT : fx_Mo_typeAt_b27 σ s0 = some t) : gx l E mi_Mo_typeAt (some (.int t.1), t.2) σ [] 27 [.int s0] := by
  unfold fx_Mo_typeAt_b27 at hT
  cases hT
  exact gx_iret (pc := 27) d_Mo_typeAt_27 rfl rfl
set_option maxRecDepth 100000 in
set_option maxHeartbeats 4000000 in
theorem fx_Mo_typeAt_c (l : Launch) (E : tx_E) (σ : tx_St) (x0 : Int32) (x1 : Int32) (t : Int32 × tx_St) (hT : fx_Mo_typeAt σ x0 x1 = some t) : tx_MX l E y_Mo_typeAt mi_Mo_typeAt (some (.int t.1), t.2) [.int x0, .int x1] σ := by
  refine tx_MX_of (by decide) rfl (Nat.le_of_ble_eq_true rfl) ?_
  show gx l E mi_Mo_typeAt (some (.int t.1), t.2) σ [(0, .int x0), (1, .int x1)] 0 []
  unfold fx_Mo_typeAt at hT
  refine gx_iload_n (pc := 0) 0 d_Mo_typeAt_0 rfl rfl ?_
  obtain ⟨r2, σ1, cσ1, hT⟩ := tx_ci_some hT
  refine gx_callS (pc := 1) (As := [.int x0]) (rest := []) cm_Mo_depth lk_Mo_124 (fx_Mo_depth_c l E σ x0 _ cσ1) rfl rfl tx_fi_Mo_typeAt_Mo_depth (Nat.le_of_ble_eq_true rfl) d_Mo_typeAt_1 ?_
  change gx l E mi_Mo_typeAt _ σ1 [(0, .int x0), (1, .int x1)] 4 [.int r2]
  refine gx_iconst (pc := 4) (1 : Int32) d_Mo_typeAt_4 (by decide) ?_
  refine gx_isub (pc := 5) d_Mo_typeAt_5 ?_
  refine gx_iload_n (pc := 6) 1 d_Mo_typeAt_6 rfl rfl ?_
  refine gx_isub (pc := 7) d_Mo_typeAt_7 ?_
  refine gx_istore_n (pc := 8) [(2, .int ((r2 - (1 : Int32)) - x1)), (0, .int x0), (1, .int x1)] d_Mo_typeAt_8 rfl (Nat.le_of_ble_eq_true rfl) rfl ?_
  refine gx_iload_n (pc := 9) 0 d_Mo_typeAt_9 rfl rfl ?_
  refine gx_if_ge (pc := 10) 17 d_Mo_typeAt_10 rfl (fun h3 => ?_) (fun h3 => ?_)
  · have hT := tx_ifp h3 hT
    refine gx_iload_n (pc := 17) 1 d_Mo_typeAt_17 rfl rfl ?_
    refine gx_iconst (pc := 18) (4 : Int32) d_Mo_typeAt_18 (by decide) ?_
    refine gx_iload_n (pc := 19) 0 d_Mo_typeAt_19 rfl rfl ?_
    refine gx_imul (pc := 20) d_Mo_typeAt_20 ?_
    refine gx_ishr (pc := 21) d_Mo_typeAt_21 ?_
    refine gx_bipush (pc := 22) (15 : Int32) d_Mo_typeAt_22 (by decide) ?_
    refine gx_iand (pc := 24) d_Mo_typeAt_24 ?_
    refine gx_iconst (pc := 25) (1 : Int32) d_Mo_typeAt_25 (by decide) ?_
    refine gx_isub (pc := 26) d_Mo_typeAt_26 ?_
    refine gx_sub [] rfl ?_
    exact fx_Mo_typeAt_b27_w  σ1 (((x0 >>> (((4 : Int32) * ((r2 - (1 : Int32)) - x1)) &&& 31)) &&& (15 : Int32)) - (1 : Int32)) _ hT
  · have hT := tx_ifn h3 hT
    refine gx_iconst (pc := 13) (-1 : Int32) d_Mo_typeAt_13 (by decide) ?_
    refine gx_goto (pc := 14) 27 d_Mo_typeAt_14 rfl ?_
    refine gx_sub [] rfl ?_
    exact fx_Mo_typeAt_b27_w  σ1 (-1 : Int32) _ hT
theorem d_Mo_drop_0 : decode c_Mo_drop 0 = .ok (.iload_n 0, 1) := by decide +kernel
theorem d_Mo_drop_1 : decode c_Mo_drop 1 = .ok (.invokestatic 124, 3) := by decide +kernel
theorem d_Mo_drop_4 : decode c_Mo_drop 4 = .ok (.istore_n 1, 1) := by decide +kernel
theorem d_Mo_drop_5 : decode c_Mo_drop 5 = .ok (.iload_n 0, 1) := by decide +kernel
theorem d_Mo_drop_6 : decode c_Mo_drop 6 = .ok (.bipush (15), 2) := by decide +kernel
theorem d_Mo_drop_8 : decode c_Mo_drop 8 = .ok (.iconst (4), 1) := by decide +kernel
theorem d_Mo_drop_9 : decode c_Mo_drop 9 = .ok (.iload_n 1, 1) := by decide +kernel
theorem d_Mo_drop_10 : decode c_Mo_drop 10 = .ok (.iconst (1), 1) := by decide +kernel
theorem d_Mo_drop_11 : decode c_Mo_drop 11 = .ok (.isub, 1) := by decide +kernel
theorem d_Mo_drop_12 : decode c_Mo_drop 12 = .ok (.imul, 1) := by decide +kernel
theorem d_Mo_drop_13 : decode c_Mo_drop 13 = .ok (.ishl, 1) := by decide +kernel
theorem d_Mo_drop_14 : decode c_Mo_drop 14 = .ok (.iconst (-1), 1) := by decide +kernel
theorem d_Mo_drop_15 : decode c_Mo_drop 15 = .ok (.ixor, 1) := by decide +kernel
theorem d_Mo_drop_16 : decode c_Mo_drop 16 = .ok (.iand, 1) := by decide +kernel
theorem d_Mo_drop_17 : decode c_Mo_drop 17 = .ok (.ireturn, 1) := by decide +kernel
def fx_Mo_drop (σ : tx_St) (x0 : Int32) : Option (Int32 × tx_St) := tx_ci (fx_Mo_depth σ x0) fun r2 σ1 => some ((x0 &&& (((15 : Int32) <<< (((4 : Int32) * (r2 - (1 : Int32))) &&& 31)) ^^^ (-1 : Int32))), σ1)
set_option maxRecDepth 100000 in
set_option maxHeartbeats 4000000 in
theorem fx_Mo_drop_c (l : Launch) (E : tx_E) (σ : tx_St) (x0 : Int32) (t : Int32 × tx_St) (hT : fx_Mo_drop σ x0 = some t) : tx_MX l E y_Mo_drop mi_Mo_drop (some (.int t.1), t.2) [.int x0] σ := by
  refine tx_MX_of (by decide) rfl (Nat.le_of_ble_eq_true rfl) ?_
  show gx l E mi_Mo_drop (some (.int t.1), t.2) σ [(0, .int x0)] 0 []
  unfold fx_Mo_drop at hT
  refine gx_iload_n (pc := 0) 0 d_Mo_drop_0 rfl rfl ?_
  obtain ⟨r2, σ1, cσ1, hT⟩ := tx_ci_some hT
  refine gx_callS (pc := 1) (As := [.int x0]) (rest := []) cm_Mo_depth lk_Mo_124 (fx_Mo_depth_c l E σ x0 _ cσ1) rfl rfl tx_fi_Mo_drop_Mo_depth (Nat.le_of_ble_eq_true rfl) d_Mo_drop_1 ?_
  change gx l E mi_Mo_drop _ σ1 [(0, .int x0)] 4 [.int r2]
  refine gx_istore_n (pc := 4) [(1, .int r2), (0, .int x0)] d_Mo_drop_4 rfl (Nat.le_of_ble_eq_true rfl) rfl ?_
  refine gx_iload_n (pc := 5) 1 d_Mo_drop_5 rfl rfl ?_
  refine gx_bipush (pc := 6) (15 : Int32) d_Mo_drop_6 (by decide) ?_
  refine gx_iconst (pc := 8) (4 : Int32) d_Mo_drop_8 (by decide) ?_
  refine gx_iload_n (pc := 9) 0 d_Mo_drop_9 rfl rfl ?_
  refine gx_iconst (pc := 10) (1 : Int32) d_Mo_drop_10 (by decide) ?_
  refine gx_isub (pc := 11) d_Mo_drop_11 ?_
  refine gx_imul (pc := 12) d_Mo_drop_12 ?_
  refine gx_ishl (pc := 13) d_Mo_drop_13 ?_
  refine gx_iconst (pc := 14) (-1 : Int32) d_Mo_drop_14 (by decide) ?_
  refine gx_ixor (pc := 15) d_Mo_drop_15 ?_
  refine gx_iand (pc := 16) d_Mo_drop_16 ?_
  cases hT
  exact gx_iret (pc := 17) d_Mo_drop_17 rfl rfl
theorem d_Mo_stored_0 : decode c_Mo_stored 0 = .ok (.iload_n 1, 1) := by decide +kernel
theorem d_Mo_stored_1 : decode c_Mo_stored 1 = .ok (.iconst (0), 1) := by decide +kernel
theorem d_Mo_stored_2 : decode c_Mo_stored 2 = .ok (.invokestatic 128, 3) := by decide +kernel
theorem d_Mo_stored_5 : decode c_Mo_stored 5 = .ok (.istore_n 3, 1) := by decide +kernel
theorem d_Mo_stored_6 : decode c_Mo_stored 6 = .ok (.iload_n 2, 1) := by decide +kernel
theorem d_Mo_stored_7 : decode c_Mo_stored 7 = .ok (.ifCond .lt (12), 3) := by decide +kernel
theorem d_Mo_stored_10 : decode c_Mo_stored 10 = .ok (.iload_n 2, 1) := by decide +kernel
theorem d_Mo_stored_11 : decode c_Mo_stored 11 = .ok (.iconst (2), 1) := by decide +kernel
theorem d_Mo_stored_12 : decode c_Mo_stored 12 = .ok (.if_icmp .gt (7), 3) := by decide +kernel
theorem d_Mo_stored_15 : decode c_Mo_stored 15 = .ok (.iload_n 3, 1) := by decide +kernel
theorem d_Mo_stored_16 : decode c_Mo_stored 16 = .ok (.ifCond .ge (5), 3) := by decide +kernel
theorem d_Mo_stored_19 : decode c_Mo_stored 19 = .ok (.iconst (-1), 1) := by decide +kernel
theorem d_Mo_stored_20 : decode c_Mo_stored 20 = .ok (.ireturn, 1) := by decide +kernel
theorem d_Mo_stored_21 : decode c_Mo_stored 21 = .ok (.iload_n 1, 1) := by decide +kernel
theorem d_Mo_stored_22 : decode c_Mo_stored 22 = .ok (.invokestatic 134, 3) := by decide +kernel
theorem d_Mo_stored_25 : decode c_Mo_stored 25 = .ok (.bipush (15), 2) := by decide +kernel
theorem d_Mo_stored_27 : decode c_Mo_stored 27 = .ok (.bipush (16), 2) := by decide +kernel
theorem d_Mo_stored_29 : decode c_Mo_stored 29 = .ok (.iconst (4), 1) := by decide +kernel
theorem d_Mo_stored_30 : decode c_Mo_stored 30 = .ok (.iload_n 2, 1) := by decide +kernel
theorem d_Mo_stored_31 : decode c_Mo_stored 31 = .ok (.imul, 1) := by decide +kernel
theorem d_Mo_stored_32 : decode c_Mo_stored 32 = .ok (.iadd, 1) := by decide +kernel
theorem d_Mo_stored_33 : decode c_Mo_stored 33 = .ok (.ishl, 1) := by decide +kernel
theorem d_Mo_stored_34 : decode c_Mo_stored 34 = .ok (.iconst (-1), 1) := by decide +kernel
theorem d_Mo_stored_35 : decode c_Mo_stored 35 = .ok (.ixor, 1) := by decide +kernel
theorem d_Mo_stored_36 : decode c_Mo_stored 36 = .ok (.iand, 1) := by decide +kernel
theorem d_Mo_stored_37 : decode c_Mo_stored 37 = .ok (.istore 4, 2) := by decide +kernel
theorem d_Mo_stored_39 : decode c_Mo_stored 39 = .ok (.iload 4, 2) := by decide +kernel
theorem d_Mo_stored_41 : decode c_Mo_stored 41 = .ok (.iload_n 3, 1) := by decide +kernel
theorem d_Mo_stored_42 : decode c_Mo_stored 42 = .ok (.iconst (1), 1) := by decide +kernel
theorem d_Mo_stored_43 : decode c_Mo_stored 43 = .ok (.iadd, 1) := by decide +kernel
theorem d_Mo_stored_44 : decode c_Mo_stored 44 = .ok (.bipush (16), 2) := by decide +kernel
theorem d_Mo_stored_46 : decode c_Mo_stored 46 = .ok (.iconst (4), 1) := by decide +kernel
theorem d_Mo_stored_47 : decode c_Mo_stored 47 = .ok (.iload_n 2, 1) := by decide +kernel
theorem d_Mo_stored_48 : decode c_Mo_stored 48 = .ok (.imul, 1) := by decide +kernel
theorem d_Mo_stored_49 : decode c_Mo_stored 49 = .ok (.iadd, 1) := by decide +kernel
theorem d_Mo_stored_50 : decode c_Mo_stored 50 = .ok (.ishl, 1) := by decide +kernel
theorem d_Mo_stored_51 : decode c_Mo_stored 51 = .ok (.ior, 1) := by decide +kernel
theorem d_Mo_stored_52 : decode c_Mo_stored 52 = .ok (.ireturn, 1) := by decide +kernel
def fx_Mo_stored_b19 (σ : tx_St) : Option (Int32 × tx_St) := some ((-1 : Int32), σ)
def fx_Mo_stored (σ : tx_St) (x1 : Int32) (x2 : Int32) : Option (Int32 × tx_St) := tx_ci (fx_Mo_typeAt σ x1 (0 : Int32)) fun r2 σ1 => (if x2 < 0 then fx_Mo_stored_b19  σ1 else (if (2 : Int32) < x2 then fx_Mo_stored_b19  σ1 else (if 0 ≤ r2 then tx_ci (fx_Mo_drop σ1 x1) fun r7 σ6 => some (((r7 &&& (((15 : Int32) <<< (((16 : Int32) + ((4 : Int32) * x2)) &&& 31)) ^^^ (-1 : Int32))) ||| ((r2 + (1 : Int32)) <<< (((16 : Int32) + ((4 : Int32) * x2)) &&& 31))), σ6) else fx_Mo_stored_b19  σ1)))
set_option maxRecDepth 100000 in
set_option maxHeartbeats 4000000 in
theorem fx_Mo_stored_b19_w {l : Launch} {E : tx_E} (σ : tx_St) (t : Int32 × tx_St) (hT : fx_Mo_stored_b19 σ  = some t) : gx l E mi_Mo_stored (some (.int t.1), t.2) σ [] 19 [] := by
  unfold fx_Mo_stored_b19 at hT
  refine gx_iconst (pc := 19) (-1 : Int32) d_Mo_stored_19 (by decide) ?_
  cases hT
  exact gx_iret (pc := 20) d_Mo_stored_20 rfl rfl
set_option maxRecDepth 100000 in
set_option maxHeartbeats 4000000 in
theorem fx_Mo_stored_c (l : Launch) (E : tx_E) (σ : tx_St) (x1 : Int32) (x2 : Int32) (t : Int32 × tx_St) (hT : fx_Mo_stored σ x1 x2 = some t) : tx_MX l E y_Mo_stored mi_Mo_stored (some (.int t.1), t.2) [.ref (E.1 45), .int x1, .int x2] σ := by
  refine tx_MX_of (by decide) rfl (Nat.le_of_ble_eq_true rfl) ?_
  show gx l E mi_Mo_stored (some (.int t.1), t.2) σ [(0, .ref (E.1 45)), (1, .int x1), (2, .int x2)] 0 []
  unfold fx_Mo_stored at hT
  refine gx_iload_n (pc := 0) 1 d_Mo_stored_0 rfl rfl ?_
  refine gx_iconst (pc := 1) (0 : Int32) d_Mo_stored_1 (by decide) ?_
  obtain ⟨r2, σ1, cσ1, hT⟩ := tx_ci_some hT
  refine gx_callS (pc := 2) (As := [.int x1, .int (0 : Int32)]) (rest := []) cm_Mo_typeAt lk_Mo_128 (fx_Mo_typeAt_c l E σ x1 (0 : Int32) _ cσ1) rfl rfl tx_fi_Mo_stored_Mo_typeAt (Nat.le_of_ble_eq_true rfl) d_Mo_stored_2 ?_
  change gx l E mi_Mo_stored _ σ1 [(0, .ref (E.1 45)), (1, .int x1), (2, .int x2)] 5 [.int r2]
  refine gx_istore_n (pc := 5) [(3, .int r2), (0, .ref (E.1 45)), (1, .int x1), (2, .int x2)] d_Mo_stored_5 rfl (Nat.le_of_ble_eq_true rfl) rfl ?_
  refine gx_iload_n (pc := 6) 3 d_Mo_stored_6 rfl rfl ?_
  refine gx_if_lt (pc := 7) 19 d_Mo_stored_7 rfl (fun h3 => ?_) (fun h3 => ?_)
  · have hT := tx_ifp h3 hT
    refine gx_sub [] rfl ?_
    exact fx_Mo_stored_b19_w  σ1 _ hT
  · have hT := tx_ifn h3 hT
    refine gx_iload_n (pc := 10) 3 d_Mo_stored_10 rfl rfl ?_
    refine gx_iconst (pc := 11) (2 : Int32) d_Mo_stored_11 (by decide) ?_
    refine gx_icmp_gt (pc := 12) 19 d_Mo_stored_12 rfl (fun h4 => ?_) (fun h4 => ?_)
    · have hT := tx_ifp h4 hT
      refine gx_sub [] rfl ?_
      exact fx_Mo_stored_b19_w  σ1 _ hT
    · have hT := tx_ifn h4 hT
      refine gx_iload_n (pc := 15) 0 d_Mo_stored_15 rfl rfl ?_
      refine gx_if_ge (pc := 16) 21 d_Mo_stored_16 rfl (fun h5 => ?_) (fun h5 => ?_)
      · have hT := tx_ifp h5 hT
        refine gx_iload_n (pc := 21) 2 d_Mo_stored_21 rfl rfl ?_
        obtain ⟨r7, σ6, cσ6, hT⟩ := tx_ci_some hT
        refine gx_callS (pc := 22) (As := [.int x1]) (rest := []) cm_Mo_drop lk_Mo_134 (fx_Mo_drop_c l E σ1 x1 _ cσ6) rfl rfl tx_fi_Mo_stored_Mo_drop (Nat.le_of_ble_eq_true rfl) d_Mo_stored_22 ?_
        change gx l E mi_Mo_stored _ σ6 [(3, .int r2), (0, .ref (E.1 45)), (1, .int x1), (2, .int x2)] 25 [.int r7]
        refine gx_bipush (pc := 25) (15 : Int32) d_Mo_stored_25 (by decide) ?_
        refine gx_bipush (pc := 27) (16 : Int32) d_Mo_stored_27 (by decide) ?_
        refine gx_iconst (pc := 29) (4 : Int32) d_Mo_stored_29 (by decide) ?_
        refine gx_iload_n (pc := 30) 3 d_Mo_stored_30 rfl rfl ?_
        refine gx_imul (pc := 31) d_Mo_stored_31 ?_
        refine gx_iadd (pc := 32) d_Mo_stored_32 ?_
        refine gx_ishl (pc := 33) d_Mo_stored_33 ?_
        refine gx_iconst (pc := 34) (-1 : Int32) d_Mo_stored_34 (by decide) ?_
        refine gx_ixor (pc := 35) d_Mo_stored_35 ?_
        refine gx_iand (pc := 36) d_Mo_stored_36 ?_
        refine gx_istore (pc := 37) [(4, .int (r7 &&& (((15 : Int32) <<< (((16 : Int32) + ((4 : Int32) * x2)) &&& 31)) ^^^ (-1 : Int32)))), (3, .int r2), (0, .ref (E.1 45)), (1, .int x1), (2, .int x2)] d_Mo_stored_37 (Nat.le_of_ble_eq_true rfl) rfl ?_
        refine gx_iload (pc := 39) 0 d_Mo_stored_39 rfl ?_
        refine gx_iload_n (pc := 41) 1 d_Mo_stored_41 rfl rfl ?_
        refine gx_iconst (pc := 42) (1 : Int32) d_Mo_stored_42 (by decide) ?_
        refine gx_iadd (pc := 43) d_Mo_stored_43 ?_
        refine gx_bipush (pc := 44) (16 : Int32) d_Mo_stored_44 (by decide) ?_
        refine gx_iconst (pc := 46) (4 : Int32) d_Mo_stored_46 (by decide) ?_
        refine gx_iload_n (pc := 47) 4 d_Mo_stored_47 rfl rfl ?_
        refine gx_imul (pc := 48) d_Mo_stored_48 ?_
        refine gx_iadd (pc := 49) d_Mo_stored_49 ?_
        refine gx_ishl (pc := 50) d_Mo_stored_50 ?_
        refine gx_ior (pc := 51) d_Mo_stored_51 ?_
        cases hT
        exact gx_iret (pc := 52) d_Mo_stored_52 rfl rfl
      · have hT := tx_ifn h5 hT
        refine gx_sub [] rfl ?_
        exact fx_Mo_stored_b19_w  σ1 _ hT
theorem d_Mo_fits_0 : decode c_Mo_fits 0 = .ok (.iload_n 1, 1) := by decide +kernel
theorem d_Mo_fits_1 : decode c_Mo_fits 1 = .ok (.iload_n 2, 1) := by decide +kernel
theorem d_Mo_fits_2 : decode c_Mo_fits 2 = .ok (.if_icmp .eq (26), 3) := by decide +kernel
theorem d_Mo_fits_5 : decode c_Mo_fits 5 = .ok (.iload_n 1, 1) := by decide +kernel
theorem d_Mo_fits_6 : decode c_Mo_fits 6 = .ok (.iconst (2), 1) := by decide +kernel
theorem d_Mo_fits_7 : decode c_Mo_fits 7 = .ok (.if_icmp .lt (25), 3) := by decide +kernel
theorem d_Mo_fits_10 : decode c_Mo_fits 10 = .ok (.iload_n 2, 1) := by decide +kernel
theorem d_Mo_fits_11 : decode c_Mo_fits 11 = .ok (.iconst (2), 1) := by decide +kernel
theorem d_Mo_fits_12 : decode c_Mo_fits 12 = .ok (.if_icmp .lt (20), 3) := by decide +kernel
theorem d_Mo_fits_15 : decode c_Mo_fits 15 = .ok (.aload_n 0, 1) := by decide +kernel
theorem d_Mo_fits_16 : decode c_Mo_fits 16 = .ok (.iload_n 1, 1) := by decide +kernel
theorem d_Mo_fits_17 : decode c_Mo_fits 17 = .ok (.iconst (2), 1) := by decide +kernel
theorem d_Mo_fits_18 : decode c_Mo_fits 18 = .ok (.isub, 1) := by decide +kernel
theorem d_Mo_fits_19 : decode c_Mo_fits 19 = .ok (.iload_n 2, 1) := by decide +kernel
theorem d_Mo_fits_20 : decode c_Mo_fits 20 = .ok (.iconst (2), 1) := by decide +kernel
theorem d_Mo_fits_21 : decode c_Mo_fits 21 = .ok (.isub, 1) := by decide +kernel
theorem d_Mo_fits_22 : decode c_Mo_fits 22 = .ok (.invokevirtual 114, 3) := by decide +kernel
theorem d_Mo_fits_25 : decode c_Mo_fits 25 = .ok (.ifCond .eq (7), 3) := by decide +kernel
theorem d_Mo_fits_28 : decode c_Mo_fits 28 = .ok (.iconst (1), 1) := by decide +kernel
theorem d_Mo_fits_29 : decode c_Mo_fits 29 = .ok (.goto (4), 3) := by decide +kernel
theorem d_Mo_fits_32 : decode c_Mo_fits 32 = .ok (.iconst (0), 1) := by decide +kernel
theorem d_Mo_fits_33 : decode c_Mo_fits 33 = .ok (.ireturn, 1) := by decide +kernel
def fx_Mo_fits_b33 (σ : tx_St) (s0 : Int32) : Option (Int32 × tx_St) := tx_rz s0 σ
def fx_Mo_fits_b28 (σ : tx_St) : Option (Int32 × tx_St) := fx_Mo_fits_b33  σ (1 : Int32)
def fx_Mo_fits_b32 (σ : tx_St) : Option (Int32 × tx_St) := fx_Mo_fits_b33  σ (0 : Int32)
def fx_Mo_fits (σ : tx_St) (x1 : Int32) (x2 : Int32) : Option (Int32 × tx_St) := (if x1 = x2 then fx_Mo_fits_b28  σ else (if x1 < (2 : Int32) then fx_Mo_fits_b32  σ else (if x2 < (2 : Int32) then fx_Mo_fits_b32  σ else tx_ci (fx_Mo_inLine σ (x1 - (2 : Int32)) (x2 - (2 : Int32))) fun r5 σ4 => (if r5 = 0 then fx_Mo_fits_b32  σ4 else fx_Mo_fits_b28  σ4))))
set_option maxRecDepth 100000 in
set_option maxHeartbeats 4000000 in
theorem fx_Mo_fits_b33_w {l : Launch} {E : tx_E} (σ : tx_St) (s0 : Int32) (t : Int32 × tx_St) (hT : fx_Mo_fits_b33 σ s0 = some t) : gx l E mi_Mo_fits (some (.int t.1), t.2) σ [] 33 [.int s0] := by
  unfold fx_Mo_fits_b33 at hT
  obtain ⟨hz, hT⟩ := tx_rz_some hT
  cases hT
  exact gx_zret (pc := 33) d_Mo_fits_33 rfl hz rfl
set_option maxRecDepth 100000 in
set_option maxHeartbeats 4000000 in
theorem fx_Mo_fits_b28_w {l : Launch} {E : tx_E} (σ : tx_St) (t : Int32 × tx_St) (hT : fx_Mo_fits_b28 σ  = some t) : gx l E mi_Mo_fits (some (.int t.1), t.2) σ [] 28 [] := by
  unfold fx_Mo_fits_b28 at hT
  refine gx_iconst (pc := 28) (1 : Int32) d_Mo_fits_28 (by decide) ?_
  refine gx_goto (pc := 29) 33 d_Mo_fits_29 rfl ?_
  exact fx_Mo_fits_b33_w  σ (1 : Int32) _ hT
set_option maxRecDepth 100000 in
set_option maxHeartbeats 4000000 in
theorem fx_Mo_fits_b32_w {l : Launch} {E : tx_E} (σ : tx_St) (t : Int32 × tx_St) (hT : fx_Mo_fits_b32 σ  = some t) : gx l E mi_Mo_fits (some (.int t.1), t.2) σ [] 32 [] := by
  unfold fx_Mo_fits_b32 at hT
  refine gx_iconst (pc := 32) (0 : Int32) d_Mo_fits_32 (by decide) ?_
  exact fx_Mo_fits_b33_w  σ (0 : Int32) _ hT
set_option maxRecDepth 100000 in
set_option maxHeartbeats 4000000 in
theorem fx_Mo_fits_c (l : Launch) (E : tx_E) (σ : tx_St) (x1 : Int32) (x2 : Int32) (t : Int32 × tx_St) (hT : fx_Mo_fits σ x1 x2 = some t) : tx_MX l E y_Mo_fits mi_Mo_fits (some (.int t.1), t.2) [.ref (E.1 45), .int x1, .int x2] σ := by
  refine tx_MX_of (by decide) rfl (Nat.le_of_ble_eq_true rfl) ?_
  show gx l E mi_Mo_fits (some (.int t.1), t.2) σ [(0, .ref (E.1 45)), (1, .int x1), (2, .int x2)] 0 []
  unfold fx_Mo_fits at hT
  refine gx_iload_n (pc := 0) 1 d_Mo_fits_0 rfl rfl ?_
  refine gx_iload_n (pc := 1) 2 d_Mo_fits_1 rfl rfl ?_
  refine gx_icmp_eq (pc := 2) 28 d_Mo_fits_2 rfl (fun h1 => ?_) (fun h1 => ?_)
  · have hT := tx_ifp h1 hT
    refine gx_sub [] rfl ?_
    exact fx_Mo_fits_b28_w  σ _ hT
  · have hT := tx_ifn h1 hT
    refine gx_iload_n (pc := 5) 1 d_Mo_fits_5 rfl rfl ?_
    refine gx_iconst (pc := 6) (2 : Int32) d_Mo_fits_6 (by decide) ?_
    refine gx_icmp_lt (pc := 7) 32 d_Mo_fits_7 rfl (fun h2 => ?_) (fun h2 => ?_)
    · have hT := tx_ifp h2 hT
      refine gx_sub [] rfl ?_
      exact fx_Mo_fits_b32_w  σ _ hT
    · have hT := tx_ifn h2 hT
      refine gx_iload_n (pc := 10) 2 d_Mo_fits_10 rfl rfl ?_
      refine gx_iconst (pc := 11) (2 : Int32) d_Mo_fits_11 (by decide) ?_
      refine gx_icmp_lt (pc := 12) 32 d_Mo_fits_12 rfl (fun h3 => ?_) (fun h3 => ?_)
      · have hT := tx_ifp h3 hT
        refine gx_sub [] rfl ?_
        exact fx_Mo_fits_b32_w  σ _ hT
      · have hT := tx_ifn h3 hT
        refine gx_aload_n (pc := 15) 0 d_Mo_fits_15 rfl rfl ?_
        refine gx_iload_n (pc := 16) 1 d_Mo_fits_16 rfl rfl ?_
        refine gx_iconst (pc := 17) (2 : Int32) d_Mo_fits_17 (by decide) ?_
        refine gx_isub (pc := 18) d_Mo_fits_18 ?_
        refine gx_iload_n (pc := 19) 2 d_Mo_fits_19 rfl rfl ?_
        refine gx_iconst (pc := 20) (2 : Int32) d_Mo_fits_20 (by decide) ?_
        refine gx_isub (pc := 21) d_Mo_fits_21 ?_
        obtain ⟨r5, σ4, cσ4, hT⟩ := tx_ci_some hT
        refine gx_callV (pc := 22) (As := [.int (x1 - (2 : Int32)), .int (x2 - (2 : Int32))]) (rest := []) cm_Mo_inLine lk_Mo_114 (fx_Mo_inLine_c l E σ (x1 - (2 : Int32)) (x2 - (2 : Int32)) _ cσ4) (rfl) (by decide) rfl rfl tx_fi_Mo_fits_Mo_inLine (Nat.le_of_ble_eq_true rfl) d_Mo_fits_22 ?_
        change gx l E mi_Mo_fits _ σ4 [(0, .ref (E.1 45)), (1, .int x1), (2, .int x2)] 25 [.int r5]
        refine gx_if_eq (pc := 25) 32 d_Mo_fits_25 rfl (fun h6 => ?_) (fun h6 => ?_)
        · have hT := tx_ifp h6 hT
          refine gx_sub [] rfl ?_
          exact fx_Mo_fits_b32_w  σ4 _ hT
        · have hT := tx_ifn h6 hT
          refine gx_sub [] rfl ?_
          exact fx_Mo_fits_b28_w  σ4 _ hT
theorem d_Mo_take_0 : decode c_Mo_take 0 = .ok (.iload_n 1, 1) := by decide +kernel
theorem d_Mo_take_1 : decode c_Mo_take 1 = .ok (.ifCond .ge (5), 3) := by decide +kernel
theorem d_Mo_take_4 : decode c_Mo_take 4 = .ok (.iconst (-1), 1) := by decide +kernel
theorem d_Mo_take_5 : decode c_Mo_take 5 = .ok (.ireturn, 1) := by decide +kernel
theorem d_Mo_take_6 : decode c_Mo_take 6 = .ok (.iload_n 1, 1) := by decide +kernel
theorem d_Mo_take_7 : decode c_Mo_take 7 = .ok (.iconst (0), 1) := by decide +kernel
theorem d_Mo_take_8 : decode c_Mo_take 8 = .ok (.invokestatic 128, 3) := by decide +kernel
theorem d_Mo_take_11 : decode c_Mo_take 11 = .ok (.istore_n 3, 1) := by decide +kernel
theorem d_Mo_take_12 : decode c_Mo_take 12 = .ok (.iload_n 3, 1) := by decide +kernel
theorem d_Mo_take_13 : decode c_Mo_take 13 = .ok (.ifCond .lt (12), 3) := by decide +kernel
theorem d_Mo_take_16 : decode c_Mo_take 16 = .ok (.aload_n 0, 1) := by decide +kernel
theorem d_Mo_take_17 : decode c_Mo_take 17 = .ok (.iload_n 3, 1) := by decide +kernel
theorem d_Mo_take_18 : decode c_Mo_take 18 = .ok (.iload_n 2, 1) := by decide +kernel
theorem d_Mo_take_19 : decode c_Mo_take 19 = .ok (.invokevirtual 131, 3) := by decide +kernel
theorem d_Mo_take_22 : decode c_Mo_take 22 = .ok (.ifCond .ne (7), 3) := by decide +kernel
theorem d_Mo_take_25 : decode c_Mo_take 25 = .ok (.iconst (-1), 1) := by decide +kernel
theorem d_Mo_take_26 : decode c_Mo_take 26 = .ok (.goto (7), 3) := by decide +kernel
theorem d_Mo_take_29 : decode c_Mo_take 29 = .ok (.iload_n 1, 1) := by decide +kernel
theorem d_Mo_take_30 : decode c_Mo_take 30 = .ok (.invokestatic 134, 3) := by decide +kernel
theorem d_Mo_take_33 : decode c_Mo_take 33 = .ok (.ireturn, 1) := by decide +kernel
def fx_Mo_take_b33 (σ : tx_St) (s0 : Int32) : Option (Int32 × tx_St) := some (s0, σ)
def fx_Mo_take_b25 (σ : tx_St) : Option (Int32 × tx_St) := fx_Mo_take_b33  σ (-1 : Int32)
def fx_Mo_take (σ : tx_St) (x1 : Int32) (x2 : Int32) : Option (Int32 × tx_St) := (if 0 ≤ x1 then tx_ci (fx_Mo_typeAt σ x1 (0 : Int32)) fun r3 σ2 => (if r3 < 0 then fx_Mo_take_b25  σ2 else tx_ci (fx_Mo_fits σ2 r3 x2) fun r6 σ5 => (if r6 = 0 then fx_Mo_take_b25  σ5 else tx_ci (fx_Mo_drop σ5 x1) fun r9 σ8 => fx_Mo_take_b33  σ8 r9)) else some ((-1 : Int32), σ))
set_option maxRecDepth 100000 in
set_option maxHeartbeats 4000000 in
theorem fx_Mo_take_b33_w {l : Launch} {E : tx_E} (σ : tx_St) (s0 : Int32) (t : Int32 × tx_St) (hT : fx_Mo_take_b33 σ s0 = some t) : gx l E mi_Mo_take (some (.int t.1), t.2) σ [] 33 [.int s0] := by
  unfold fx_Mo_take_b33 at hT
  cases hT
  exact gx_iret (pc := 33) d_Mo_take_33 rfl rfl
set_option maxRecDepth 100000 in
set_option maxHeartbeats 4000000 in
theorem fx_Mo_take_b25_w {l : Launch} {E : tx_E} (σ : tx_St) (t : Int32 × tx_St) (hT : fx_Mo_take_b25 σ  = some t) : gx l E mi_Mo_take (some (.int t.1), t.2) σ [] 25 [] := by
  unfold fx_Mo_take_b25 at hT
  refine gx_iconst (pc := 25) (-1 : Int32) d_Mo_take_25 (by decide) ?_
  refine gx_goto (pc := 26) 33 d_Mo_take_26 rfl ?_
  exact fx_Mo_take_b33_w  σ (-1 : Int32) _ hT
set_option maxRecDepth 100000 in
set_option maxHeartbeats 4000000 in
theorem fx_Mo_take_c (l : Launch) (E : tx_E) (σ : tx_St) (x1 : Int32) (x2 : Int32) (t : Int32 × tx_St) (hT : fx_Mo_take σ x1 x2 = some t) : tx_MX l E y_Mo_take mi_Mo_take (some (.int t.1), t.2) [.ref (E.1 45), .int x1, .int x2] σ := by
  refine tx_MX_of (by decide) rfl (Nat.le_of_ble_eq_true rfl) ?_
  show gx l E mi_Mo_take (some (.int t.1), t.2) σ [(0, .ref (E.1 45)), (1, .int x1), (2, .int x2)] 0 []
  unfold fx_Mo_take at hT
  refine gx_iload_n (pc := 0) 1 d_Mo_take_0 rfl rfl ?_
  refine gx_if_ge (pc := 1) 6 d_Mo_take_1 rfl (fun h1 => ?_) (fun h1 => ?_)
  · have hT := tx_ifp h1 hT
    refine gx_iload_n (pc := 6) 1 d_Mo_take_6 rfl rfl ?_
    refine gx_iconst (pc := 7) (0 : Int32) d_Mo_take_7 (by decide) ?_
    obtain ⟨r3, σ2, cσ2, hT⟩ := tx_ci_some hT
    refine gx_callS (pc := 8) (As := [.int x1, .int (0 : Int32)]) (rest := []) cm_Mo_typeAt lk_Mo_128 (fx_Mo_typeAt_c l E σ x1 (0 : Int32) _ cσ2) rfl rfl tx_fi_Mo_take_Mo_typeAt (Nat.le_of_ble_eq_true rfl) d_Mo_take_8 ?_
    change gx l E mi_Mo_take _ σ2 [(0, .ref (E.1 45)), (1, .int x1), (2, .int x2)] 11 [.int r3]
    refine gx_istore_n (pc := 11) [(3, .int r3), (0, .ref (E.1 45)), (1, .int x1), (2, .int x2)] d_Mo_take_11 rfl (Nat.le_of_ble_eq_true rfl) rfl ?_
    refine gx_iload_n (pc := 12) 0 d_Mo_take_12 rfl rfl ?_
    refine gx_if_lt (pc := 13) 25 d_Mo_take_13 rfl (fun h4 => ?_) (fun h4 => ?_)
    · have hT := tx_ifp h4 hT
      refine gx_sub [] rfl ?_
      exact fx_Mo_take_b25_w  σ2 _ hT
    · have hT := tx_ifn h4 hT
      refine gx_aload_n (pc := 16) 1 d_Mo_take_16 rfl rfl ?_
      refine gx_iload_n (pc := 17) 0 d_Mo_take_17 rfl rfl ?_
      refine gx_iload_n (pc := 18) 3 d_Mo_take_18 rfl rfl ?_
      obtain ⟨r6, σ5, cσ5, hT⟩ := tx_ci_some hT
      refine gx_callV (pc := 19) (As := [.int r3, .int x2]) (rest := []) cm_Mo_fits lk_Mo_131 (fx_Mo_fits_c l E σ2 r3 x2 _ cσ5) (rfl) (by decide) rfl rfl tx_fi_Mo_take_Mo_fits (Nat.le_of_ble_eq_true rfl) d_Mo_take_19 ?_
      change gx l E mi_Mo_take _ σ5 [(3, .int r3), (0, .ref (E.1 45)), (1, .int x1), (2, .int x2)] 22 [.int r6]
      refine gx_if_ne (pc := 22) 29 d_Mo_take_22 rfl (fun h7 => ?_) (fun h7 => ?_)
      · have hT := tx_ifn h7 hT
        refine gx_iload_n (pc := 29) 2 d_Mo_take_29 rfl rfl ?_
        obtain ⟨r9, σ8, cσ8, hT⟩ := tx_ci_some hT
        refine gx_callS (pc := 30) (As := [.int x1]) (rest := []) cm_Mo_drop lk_Mo_134 (fx_Mo_drop_c l E σ5 x1 _ cσ8) rfl rfl tx_fi_Mo_take_Mo_drop (Nat.le_of_ble_eq_true rfl) d_Mo_take_30 ?_
        change gx l E mi_Mo_take _ σ8 [(3, .int r3), (0, .ref (E.1 45)), (1, .int x1), (2, .int x2)] 33 [.int r9]
        refine gx_sub [] rfl ?_
        exact fx_Mo_take_b33_w  σ8 r9 _ hT
      · have hT := tx_ifp h7 hT
        refine gx_sub [] rfl ?_
        exact fx_Mo_take_b25_w  σ5 _ hT
  · have hT := tx_ifn h1 hT
    refine gx_iconst (pc := 4) (-1 : Int32) d_Mo_take_4 (by decide) ?_
    cases hT
    exact gx_iret (pc := 5) d_Mo_take_5 rfl rfl
theorem d_Mo_makes_0 : decode c_Mo_makes 0 = .ok (.aload_n 0, 1) := by decide +kernel
theorem d_Mo_makes_1 : decode c_Mo_makes 1 = .ok (.iload_n 2, 1) := by decide +kernel
theorem d_Mo_makes_2 : decode c_Mo_makes 2 = .ok (.invokevirtual 87, 3) := by decide +kernel
theorem d_Mo_makes_5 : decode c_Mo_makes 5 = .ok (.ifCond .ne (5), 3) := by decide +kernel
theorem d_Mo_makes_8 : decode c_Mo_makes 8 = .ok (.iconst (-1), 1) := by decide +kernel
theorem d_Mo_makes_9 : decode c_Mo_makes 9 = .ok (.ireturn, 1) := by decide +kernel
theorem d_Mo_makes_10 : decode c_Mo_makes 10 = .ok (.iload_n 1, 1) := by decide +kernel
theorem d_Mo_makes_11 : decode c_Mo_makes 11 = .ok (.istore_n 3, 1) := by decide +kernel
theorem d_Mo_makes_12 : decode c_Mo_makes 12 = .ok (.aload_n 0, 1) := by decide +kernel
theorem d_Mo_makes_13 : decode c_Mo_makes 13 = .ok (.getfield 101, 3) := by decide +kernel
theorem d_Mo_makes_16 : decode c_Mo_makes 16 = .ok (.iconst (1), 1) := by decide +kernel
theorem d_Mo_makes_17 : decode c_Mo_makes 17 = .ok (.isub, 1) := by decide +kernel
theorem d_Mo_makes_18 : decode c_Mo_makes 18 = .ok (.istore 4, 2) := by decide +kernel
theorem d_Mo_makes_20 : decode c_Mo_makes 20 = .ok (.iload 4, 2) := by decide +kernel
theorem d_Mo_makes_22 : decode c_Mo_makes 22 = .ok (.ifCond .lt (32), 3) := by decide +kernel
theorem d_Mo_makes_25 : decode c_Mo_makes 25 = .ok (.aload_n 0, 1) := by decide +kernel
theorem d_Mo_makes_26 : decode c_Mo_makes 26 = .ok (.iload_n 2, 1) := by decide +kernel
theorem d_Mo_makes_27 : decode c_Mo_makes 27 = .ok (.iload 4, 2) := by decide +kernel
theorem d_Mo_makes_29 : decode c_Mo_makes 29 = .ok (.invokevirtual 140, 3) := by decide +kernel
theorem d_Mo_makes_32 : decode c_Mo_makes 32 = .ok (.ifCond .eq (16), 3) := by decide +kernel
theorem d_Mo_makes_35 : decode c_Mo_makes 35 = .ok (.aload_n 0, 1) := by decide +kernel
theorem d_Mo_makes_36 : decode c_Mo_makes 36 = .ok (.iload_n 3, 1) := by decide +kernel
theorem d_Mo_makes_37 : decode c_Mo_makes 37 = .ok (.aload_n 0, 1) := by decide +kernel
theorem d_Mo_makes_38 : decode c_Mo_makes 38 = .ok (.getfield 22, 3) := by decide +kernel
theorem d_Mo_makes_41 : decode c_Mo_makes 41 = .ok (.iload 4, 2) := by decide +kernel
theorem d_Mo_makes_43 : decode c_Mo_makes 43 = .ok (.iaload, 1) := by decide +kernel
theorem d_Mo_makes_44 : decode c_Mo_makes 44 = .ok (.invokevirtual 143, 3) := by decide +kernel
theorem d_Mo_makes_47 : decode c_Mo_makes 47 = .ok (.istore_n 3, 1) := by decide +kernel
theorem d_Mo_makes_48 : decode c_Mo_makes 48 = .ok (.iinc 4 (-1), 3) := by decide +kernel
theorem d_Mo_makes_51 : decode c_Mo_makes 51 = .ok (.goto (-31), 3) := by decide +kernel
theorem d_Mo_makes_54 : decode c_Mo_makes 54 = .ok (.iload_n 3, 1) := by decide +kernel
theorem d_Mo_makes_55 : decode c_Mo_makes 55 = .ok (.iconst (2), 1) := by decide +kernel
theorem d_Mo_makes_56 : decode c_Mo_makes 56 = .ok (.iload_n 2, 1) := by decide +kernel
theorem d_Mo_makes_57 : decode c_Mo_makes 57 = .ok (.iadd, 1) := by decide +kernel
theorem d_Mo_makes_58 : decode c_Mo_makes 58 = .ok (.invokestatic 137, 3) := by decide +kernel
theorem d_Mo_makes_61 : decode c_Mo_makes 61 = .ok (.ireturn, 1) := by decide +kernel
def fx_Mo_makes_b48 (k20 : tx_St → Int32 → Int32 → Int32 → Option (Int32 × tx_St)) (σ : tx_St) (x2 : Int32) (x3 : Int32) (x4 : Int32) : Option (Int32 × tx_St) := k20 σ x2 x3 (x4 + (-1 : Int32))
def fx_Mo_makes_b20 : Nat → tx_St → Int32 → Int32 → Int32 → Option (Int32 × tx_St)
  | 0, _, _, _, _ => none
  | n + 1, σ, x2, x3, x4 => (if x4 < 0 then tx_ci (fx_Mo_give σ x3 ((2 : Int32) + x2)) fun r6 σ5 => some (r6, σ5) else tx_ci (fx_Mo_owns σ x2 x4) fun r8 σ7 => (if r8 = 0 then fx_Mo_makes_b48 (fx_Mo_makes_b20 n) σ7 x2 x3 x4 else tx_rd σ7 50 12 x4 fun v10 => tx_ci (fx_Mo_take σ7 x3 v10) fun r12 σ11 => fx_Mo_makes_b48 (fx_Mo_makes_b20 n) σ11 x2 r12 x4))
def fx_Mo_makes (σ : tx_St) (x1 : Int32) (x2 : Int32) : Option (Int32 × tx_St) := tx_ci (fx_Mo_isClass σ x2) fun r2 σ1 => (if r2 = 0 then some ((-1 : Int32), σ1) else fx_Mo_makes_b20  tx_fu σ1 x2 x1 ((σ1 45 3) - (1 : Int32)))
set_option maxRecDepth 100000 in
set_option maxHeartbeats 4000000 in
theorem fx_Mo_makes_b48_w {l : Launch} {E : tx_E} (k20 : tx_St → Int32 → Int32 → Int32 → Option (Int32 × tx_St)) (j20 : ∀ (σ : tx_St) (x2 : Int32) (x3 : Int32) (x4 : Int32) (t : Int32 × tx_St), k20 σ x2 x3 x4 = some t → gx l E mi_Mo_makes (some (.int t.1), t.2) σ [(0, .ref (E.1 45)), (2, .int x2), (3, .int x3), (4, .int x4)] 20 []) (σ : tx_St) (x2 : Int32) (x3 : Int32) (x4 : Int32) (t : Int32 × tx_St) (hT : fx_Mo_makes_b48 k20 σ x2 x3 x4 = some t) : gx l E mi_Mo_makes (some (.int t.1), t.2) σ [(0, .ref (E.1 45)), (2, .int x2), (3, .int x3), (4, .int x4)] 48 [] := by
  unfold fx_Mo_makes_b48 at hT
  refine gx_iinc (pc := 48) (x4 + (-1 : Int32)) 3 [(4, .int (x4 + (-1 : Int32))), (0, .ref (E.1 45)), (2, .int x2), (3, .int x3)] d_Mo_makes_48 rfl (tx_inc (by decide)) (Nat.le_of_ble_eq_true rfl) rfl ?_
  refine gx_goto (pc := 51) 20 d_Mo_makes_51 rfl ?_
  refine gx_sub [1, 2, 3, 0] rfl ?_
  exact j20 σ x2 x3 (x4 + (-1 : Int32)) _ hT
set_option maxRecDepth 100000 in
set_option maxHeartbeats 4000000 in
theorem fx_Mo_makes_b20_w {l : Launch} {E : tx_E} : ∀ (n : Nat) (σ : tx_St) (x2 : Int32) (x3 : Int32) (x4 : Int32) (t : Int32 × tx_St), fx_Mo_makes_b20 n σ x2 x3 x4 = some t → gx l E mi_Mo_makes (some (.int t.1), t.2) σ [(0, .ref (E.1 45)), (2, .int x2), (3, .int x3), (4, .int x4)] 20 [] := by
  intro n
  induction n with
  | zero => intro σ x2 x3 x4 t hT; cases hT
  | succ n ih =>
    intro σ x2 x3 x4 t hT
    rw [fx_Mo_makes_b20] at hT
    refine gx_iload (pc := 20) 3 d_Mo_makes_20 rfl ?_
    refine gx_if_lt (pc := 22) 54 d_Mo_makes_22 rfl (fun h4 => ?_) (fun h4 => ?_)
    · have hT := tx_ifp h4 hT
      refine gx_iload_n (pc := 54) 2 d_Mo_makes_54 rfl rfl ?_
      refine gx_iconst (pc := 55) (2 : Int32) d_Mo_makes_55 (by decide) ?_
      refine gx_iload_n (pc := 56) 1 d_Mo_makes_56 rfl rfl ?_
      refine gx_iadd (pc := 57) d_Mo_makes_57 ?_
      obtain ⟨r6, σ5, cσ5, hT⟩ := tx_ci_some hT
      refine gx_callS (pc := 58) (As := [.int x3, .int ((2 : Int32) + x2)]) (rest := []) cm_Mo_give lk_Mo_137 (fx_Mo_give_c l E σ x3 ((2 : Int32) + x2) _ cσ5) rfl rfl tx_fi_Mo_makes_Mo_give (Nat.le_of_ble_eq_true rfl) d_Mo_makes_58 ?_
      change gx l E mi_Mo_makes _ σ5 [(0, .ref (E.1 45)), (2, .int x2), (3, .int x3), (4, .int x4)] 61 [.int r6]
      cases hT
      exact gx_iret (pc := 61) d_Mo_makes_61 rfl rfl
    · have hT := tx_ifn h4 hT
      refine gx_aload_n (pc := 25) 0 d_Mo_makes_25 rfl rfl ?_
      refine gx_iload_n (pc := 26) 1 d_Mo_makes_26 rfl rfl ?_
      refine gx_iload (pc := 27) 3 d_Mo_makes_27 rfl ?_
      obtain ⟨r8, σ7, cσ7, hT⟩ := tx_ci_some hT
      refine gx_callV (pc := 29) (As := [.int x2, .int x4]) (rest := []) cm_Mo_owns lk_Mo_140 (fx_Mo_owns_c l E σ x2 x4 _ cσ7) (rfl) (by decide) rfl rfl tx_fi_Mo_makes_Mo_owns (Nat.le_of_ble_eq_true rfl) d_Mo_makes_29 ?_
      change gx l E mi_Mo_makes _ σ7 [(0, .ref (E.1 45)), (2, .int x2), (3, .int x3), (4, .int x4)] 32 [.int r8]
      refine gx_if_eq (pc := 32) 48 d_Mo_makes_32 rfl (fun h9 => ?_) (fun h9 => ?_)
      · have hT := tx_ifp h9 hT
        exact fx_Mo_makes_b48_w (fx_Mo_makes_b20 n) (ih) σ7 x2 x3 x4 _ hT
      · have hT := tx_ifn h9 hT
        refine gx_aload_n (pc := 35) 0 d_Mo_makes_35 rfl rfl ?_
        refine gx_iload_n (pc := 36) 2 d_Mo_makes_36 rfl rfl ?_
        refine gx_aload_n (pc := 37) 0 d_Mo_makes_37 rfl rfl ?_
        refine gx_getR (pc := 38) 50 fl_Mo_22 d_Mo_makes_38 (rfl) (by decide) rfl ?_
        refine gx_iload (pc := 41) 3 d_Mo_makes_41 rfl ?_
        obtain ⟨v10, gv10, iv10, hT⟩ := tx_rd_some hT
        refine gx_iald (pc := 43) v10 d_Mo_makes_43 (rfl) iv10 gv10 ?_
        obtain ⟨r12, σ11, cσ11, hT⟩ := tx_ci_some hT
        refine gx_callV (pc := 44) (As := [.int x3, .int v10]) (rest := []) cm_Mo_take lk_Mo_143 (fx_Mo_take_c l E σ7 x3 v10 _ cσ11) (rfl) (by decide) rfl rfl tx_fi_Mo_makes_Mo_take (Nat.le_of_ble_eq_true rfl) d_Mo_makes_44 ?_
        change gx l E mi_Mo_makes _ σ11 [(0, .ref (E.1 45)), (2, .int x2), (3, .int x3), (4, .int x4)] 47 [.int r12]
        refine gx_istore_n (pc := 47) [(3, .int r12), (0, .ref (E.1 45)), (2, .int x2), (4, .int x4)] d_Mo_makes_47 rfl (Nat.le_of_ble_eq_true rfl) rfl ?_
        refine gx_sub [1, 2, 0, 3] rfl ?_
        exact fx_Mo_makes_b48_w (fx_Mo_makes_b20 n) (ih) σ11 x2 r12 x4 _ hT
set_option maxRecDepth 100000 in
set_option maxHeartbeats 4000000 in
theorem fx_Mo_makes_c (l : Launch) (E : tx_E) (σ : tx_St) (x1 : Int32) (x2 : Int32) (t : Int32 × tx_St) (hT : fx_Mo_makes σ x1 x2 = some t) : tx_MX l E y_Mo_makes mi_Mo_makes (some (.int t.1), t.2) [.ref (E.1 45), .int x1, .int x2] σ := by
  refine tx_MX_of (by decide) rfl (Nat.le_of_ble_eq_true rfl) ?_
  show gx l E mi_Mo_makes (some (.int t.1), t.2) σ [(0, .ref (E.1 45)), (1, .int x1), (2, .int x2)] 0 []
  unfold fx_Mo_makes at hT
  refine gx_aload_n (pc := 0) 0 d_Mo_makes_0 rfl rfl ?_
  refine gx_iload_n (pc := 1) 2 d_Mo_makes_1 rfl rfl ?_
  obtain ⟨r2, σ1, cσ1, hT⟩ := tx_ci_some hT
  refine gx_callV (pc := 2) (As := [.int x2]) (rest := []) cm_Mo_isClass lk_Mo_87 (fx_Mo_isClass_c l E σ x2 _ cσ1) (rfl) (by decide) rfl rfl tx_fi_Mo_makes_Mo_isClass (Nat.le_of_ble_eq_true rfl) d_Mo_makes_2 ?_
  change gx l E mi_Mo_makes _ σ1 [(0, .ref (E.1 45)), (1, .int x1), (2, .int x2)] 5 [.int r2]
  refine gx_if_ne (pc := 5) 10 d_Mo_makes_5 rfl (fun h3 => ?_) (fun h3 => ?_)
  · have hT := tx_ifn h3 hT
    refine gx_iload_n (pc := 10) 1 d_Mo_makes_10 rfl rfl ?_
    refine gx_istore_n (pc := 11) [(3, .int x1), (0, .ref (E.1 45)), (1, .int x1), (2, .int x2)] d_Mo_makes_11 rfl (Nat.le_of_ble_eq_true rfl) rfl ?_
    refine gx_aload_n (pc := 12) 1 d_Mo_makes_12 rfl rfl ?_
    refine gx_getI (pc := 13) (σ1 45 3) fl_Mo_101 d_Mo_makes_13 (rfl) (by decide) rfl rfl ?_
    refine gx_iconst (pc := 16) (1 : Int32) d_Mo_makes_16 (by decide) ?_
    refine gx_isub (pc := 17) d_Mo_makes_17 ?_
    refine gx_istore (pc := 18) [(4, .int ((σ1 45 3) - (1 : Int32))), (3, .int x1), (0, .ref (E.1 45)), (1, .int x1), (2, .int x2)] d_Mo_makes_18 (Nat.le_of_ble_eq_true rfl) rfl ?_
    refine gx_sub [2, 4, 1, 0] rfl ?_
    exact fx_Mo_makes_b20_w  tx_fu σ1 x2 x1 ((σ1 45 3) - (1 : Int32)) _ hT
  · have hT := tx_ifp h3 hT
    refine gx_iconst (pc := 8) (-1 : Int32) d_Mo_makes_8 (by decide) ?_
    cases hT
    exact gx_iret (pc := 9) d_Mo_makes_9 rfl rfl
theorem d_Mo_isField_0 : decode c_Mo_isField 0 = .ok (.iload_n 1, 1) := by decide +kernel
theorem d_Mo_isField_1 : decode c_Mo_isField 1 = .ok (.ifCond .lt (24), 3) := by decide +kernel
theorem d_Mo_isField_4 : decode c_Mo_isField 4 = .ok (.iload_n 1, 1) := by decide +kernel
theorem d_Mo_isField_5 : decode c_Mo_isField 5 = .ok (.aload_n 0, 1) := by decide +kernel
theorem d_Mo_isField_6 : decode c_Mo_isField 6 = .ok (.getfield 101, 3) := by decide +kernel
theorem d_Mo_isField_9 : decode c_Mo_isField 9 = .ok (.if_icmp .ge (16), 3) := by decide +kernel
theorem d_Mo_isField_12 : decode c_Mo_isField 12 = .ok (.aload_n 0, 1) := by decide +kernel
theorem d_Mo_isField_13 : decode c_Mo_isField 13 = .ok (.iload_n 1, 1) := by decide +kernel
theorem d_Mo_isField_14 : decode c_Mo_isField 14 = .ok (.invokevirtual 121, 3) := by decide +kernel
theorem d_Mo_isField_17 : decode c_Mo_isField 17 = .ok (.iload_n 2, 1) := by decide +kernel
theorem d_Mo_isField_18 : decode c_Mo_isField 18 = .ok (.if_icmp .ne (7), 3) := by decide +kernel
theorem d_Mo_isField_21 : decode c_Mo_isField 21 = .ok (.iconst (1), 1) := by decide +kernel
theorem d_Mo_isField_22 : decode c_Mo_isField 22 = .ok (.goto (4), 3) := by decide +kernel
theorem d_Mo_isField_25 : decode c_Mo_isField 25 = .ok (.iconst (0), 1) := by decide +kernel
theorem d_Mo_isField_26 : decode c_Mo_isField 26 = .ok (.ireturn, 1) := by decide +kernel
def fx_Mo_isField_b26 (σ : tx_St) (s0 : Int32) : Option (Int32 × tx_St) := tx_rz s0 σ
def fx_Mo_isField_b25 (σ : tx_St) : Option (Int32 × tx_St) := fx_Mo_isField_b26  σ (0 : Int32)
def fx_Mo_isField (σ : tx_St) (x1 : Int32) (x2 : Int32) : Option (Int32 × tx_St) := (if x1 < 0 then fx_Mo_isField_b25  σ else (if (σ 45 3) ≤ x1 then fx_Mo_isField_b25  σ else tx_ci (fx_Mo_isStatic σ x1) fun r4 σ3 => (if r4 = x2 then fx_Mo_isField_b26  σ3 (1 : Int32) else fx_Mo_isField_b25  σ3)))
set_option maxRecDepth 100000 in
set_option maxHeartbeats 4000000 in
theorem fx_Mo_isField_b26_w {l : Launch} {E : tx_E} (σ : tx_St) (s0 : Int32) (t : Int32 × tx_St) (hT : fx_Mo_isField_b26 σ s0 = some t) : gx l E mi_Mo_isField (some (.int t.1), t.2) σ [] 26 [.int s0] := by
  unfold fx_Mo_isField_b26 at hT
  obtain ⟨hz, hT⟩ := tx_rz_some hT
  cases hT
  exact gx_zret (pc := 26) d_Mo_isField_26 rfl hz rfl
set_option maxRecDepth 100000 in
set_option maxHeartbeats 4000000 in
theorem fx_Mo_isField_b25_w {l : Launch} {E : tx_E} (σ : tx_St) (t : Int32 × tx_St) (hT : fx_Mo_isField_b25 σ  = some t) : gx l E mi_Mo_isField (some (.int t.1), t.2) σ [] 25 [] := by
  unfold fx_Mo_isField_b25 at hT
  refine gx_iconst (pc := 25) (0 : Int32) d_Mo_isField_25 (by decide) ?_
  exact fx_Mo_isField_b26_w  σ (0 : Int32) _ hT
set_option maxRecDepth 100000 in
set_option maxHeartbeats 4000000 in
theorem fx_Mo_isField_c (l : Launch) (E : tx_E) (σ : tx_St) (x1 : Int32) (x2 : Int32) (t : Int32 × tx_St) (hT : fx_Mo_isField σ x1 x2 = some t) : tx_MX l E y_Mo_isField mi_Mo_isField (some (.int t.1), t.2) [.ref (E.1 45), .int x1, .int x2] σ := by
  refine tx_MX_of (by decide) rfl (Nat.le_of_ble_eq_true rfl) ?_
  show gx l E mi_Mo_isField (some (.int t.1), t.2) σ [(0, .ref (E.1 45)), (1, .int x1), (2, .int x2)] 0 []
  unfold fx_Mo_isField at hT
  refine gx_iload_n (pc := 0) 1 d_Mo_isField_0 rfl rfl ?_
  refine gx_if_lt (pc := 1) 25 d_Mo_isField_1 rfl (fun h1 => ?_) (fun h1 => ?_)
  · have hT := tx_ifp h1 hT
    refine gx_sub [] rfl ?_
    exact fx_Mo_isField_b25_w  σ _ hT
  · have hT := tx_ifn h1 hT
    refine gx_iload_n (pc := 4) 1 d_Mo_isField_4 rfl rfl ?_
    refine gx_aload_n (pc := 5) 0 d_Mo_isField_5 rfl rfl ?_
    refine gx_getI (pc := 6) (σ 45 3) fl_Mo_101 d_Mo_isField_6 (rfl) (by decide) rfl rfl ?_
    refine gx_icmp_ge (pc := 9) 25 d_Mo_isField_9 rfl (fun h2 => ?_) (fun h2 => ?_)
    · have hT := tx_ifp h2 hT
      refine gx_sub [] rfl ?_
      exact fx_Mo_isField_b25_w  σ _ hT
    · have hT := tx_ifn h2 hT
      refine gx_aload_n (pc := 12) 0 d_Mo_isField_12 rfl rfl ?_
      refine gx_iload_n (pc := 13) 1 d_Mo_isField_13 rfl rfl ?_
      obtain ⟨r4, σ3, cσ3, hT⟩ := tx_ci_some hT
      refine gx_callV (pc := 14) (As := [.int x1]) (rest := []) cm_Mo_isStatic lk_Mo_121 (fx_Mo_isStatic_c l E σ x1 _ cσ3) (rfl) (by decide) rfl rfl tx_fi_Mo_isField_Mo_isStatic (Nat.le_of_ble_eq_true rfl) d_Mo_isField_14 ?_
      change gx l E mi_Mo_isField _ σ3 [(0, .ref (E.1 45)), (1, .int x1), (2, .int x2)] 17 [.int r4]
      refine gx_iload_n (pc := 17) 2 d_Mo_isField_17 rfl rfl ?_
      refine gx_icmp_ne (pc := 18) 25 d_Mo_isField_18 rfl (fun h5 => ?_) (fun h5 => ?_)
      · have hT := tx_ifn h5 hT
        refine gx_sub [] rfl ?_
        exact fx_Mo_isField_b25_w  σ3 _ hT
      · have hT := tx_ifp h5 hT
        refine gx_iconst (pc := 21) (1 : Int32) d_Mo_isField_21 (by decide) ?_
        refine gx_goto (pc := 22) 26 d_Mo_isField_22 rfl ?_
        refine gx_sub [] rfl ?_
        exact fx_Mo_isField_b26_w  σ3 (1 : Int32) _ hT
