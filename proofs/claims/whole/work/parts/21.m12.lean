theorem d_Mo_fitsTypes_0 : decode c_Mo_fitsTypes 0 = .ok (.iconst (0), 1) := by decide +kernel
theorem d_Mo_fitsTypes_1 : decode c_Mo_fitsTypes 1 = .ok (.istore_n 2, 1) := by decide +kernel
theorem d_Mo_fitsTypes_2 : decode c_Mo_fitsTypes 2 = .ok (.iconst (0), 1) := by decide +kernel
theorem d_Mo_fitsTypes_3 : decode c_Mo_fitsTypes 3 = .ok (.istore_n 3, 1) := by decide +kernel
theorem d_Mo_fitsTypes_4 : decode c_Mo_fitsTypes 4 = .ok (.aload_n 0, 1) := by decide +kernel
theorem d_Mo_fitsTypes_5 : decode c_Mo_fitsTypes 5 = .ok (.getfield 28, 3) := by decide +kernel
theorem d_Mo_fitsTypes_8 : decode c_Mo_fitsTypes 8 = .ok (.iload_n 1, 1) := by decide +kernel
theorem d_Mo_fitsTypes_9 : decode c_Mo_fitsTypes 9 = .ok (.iaload, 1) := by decide +kernel
theorem d_Mo_fitsTypes_10 : decode c_Mo_fitsTypes 10 = .ok (.ifCond .ne (17), 3) := by decide +kernel
theorem d_Mo_fitsTypes_13 : decode c_Mo_fitsTypes 13 = .ok (.iconst (3), 1) := by decide +kernel
theorem d_Mo_fitsTypes_14 : decode c_Mo_fitsTypes 14 = .ok (.aload_n 0, 1) := by decide +kernel
theorem d_Mo_fitsTypes_15 : decode c_Mo_fitsTypes 15 = .ok (.getfield 25, 3) := by decide +kernel
theorem d_Mo_fitsTypes_18 : decode c_Mo_fitsTypes 18 = .ok (.iload_n 1, 1) := by decide +kernel
theorem d_Mo_fitsTypes_19 : decode c_Mo_fitsTypes 19 = .ok (.iaload, 1) := by decide +kernel
theorem d_Mo_fitsTypes_20 : decode c_Mo_fitsTypes 20 = .ok (.iadd, 1) := by decide +kernel
theorem d_Mo_fitsTypes_21 : decode c_Mo_fitsTypes 21 = .ok (.bipush (16), 2) := by decide +kernel
theorem d_Mo_fitsTypes_23 : decode c_Mo_fitsTypes 23 = .ok (.ishl, 1) := by decide +kernel
theorem d_Mo_fitsTypes_24 : decode c_Mo_fitsTypes 24 = .ok (.istore_n 2, 1) := by decide +kernel
theorem d_Mo_fitsTypes_25 : decode c_Mo_fitsTypes 25 = .ok (.iconst (1), 1) := by decide +kernel
theorem d_Mo_fitsTypes_26 : decode c_Mo_fitsTypes 26 = .ok (.istore_n 3, 1) := by decide +kernel
theorem d_Mo_fitsTypes_27 : decode c_Mo_fitsTypes 27 = .ok (.aload_n 0, 1) := by decide +kernel
theorem d_Mo_fitsTypes_28 : decode c_Mo_fitsTypes 28 = .ok (.getfield 34, 3) := by decide +kernel
theorem d_Mo_fitsTypes_31 : decode c_Mo_fitsTypes 31 = .ok (.iload_n 1, 1) := by decide +kernel
theorem d_Mo_fitsTypes_32 : decode c_Mo_fitsTypes 32 = .ok (.iaload, 1) := by decide +kernel
theorem d_Mo_fitsTypes_33 : decode c_Mo_fitsTypes 33 = .ok (.ifCond .lt (21), 3) := by decide +kernel
theorem d_Mo_fitsTypes_36 : decode c_Mo_fitsTypes 36 = .ok (.iload_n 2, 1) := by decide +kernel
theorem d_Mo_fitsTypes_37 : decode c_Mo_fitsTypes 37 = .ok (.aload_n 0, 1) := by decide +kernel
theorem d_Mo_fitsTypes_38 : decode c_Mo_fitsTypes 38 = .ok (.getfield 34, 3) := by decide +kernel
theorem d_Mo_fitsTypes_41 : decode c_Mo_fitsTypes 41 = .ok (.iload_n 1, 1) := by decide +kernel
theorem d_Mo_fitsTypes_42 : decode c_Mo_fitsTypes 42 = .ok (.iaload, 1) := by decide +kernel
theorem d_Mo_fitsTypes_43 : decode c_Mo_fitsTypes 43 = .ok (.iconst (1), 1) := by decide +kernel
theorem d_Mo_fitsTypes_44 : decode c_Mo_fitsTypes 44 = .ok (.iadd, 1) := by decide +kernel
theorem d_Mo_fitsTypes_45 : decode c_Mo_fitsTypes 45 = .ok (.bipush (16), 2) := by decide +kernel
theorem d_Mo_fitsTypes_47 : decode c_Mo_fitsTypes 47 = .ok (.iconst (4), 1) := by decide +kernel
theorem d_Mo_fitsTypes_48 : decode c_Mo_fitsTypes 48 = .ok (.iload_n 3, 1) := by decide +kernel
theorem d_Mo_fitsTypes_49 : decode c_Mo_fitsTypes 49 = .ok (.imul, 1) := by decide +kernel
theorem d_Mo_fitsTypes_50 : decode c_Mo_fitsTypes 50 = .ok (.iadd, 1) := by decide +kernel
theorem d_Mo_fitsTypes_51 : decode c_Mo_fitsTypes 51 = .ok (.ishl, 1) := by decide +kernel
theorem d_Mo_fitsTypes_52 : decode c_Mo_fitsTypes 52 = .ok (.ior, 1) := by decide +kernel
theorem d_Mo_fitsTypes_53 : decode c_Mo_fitsTypes 53 = .ok (.istore_n 2, 1) := by decide +kernel
theorem d_Mo_fitsTypes_54 : decode c_Mo_fitsTypes 54 = .ok (.iconst (0), 1) := by decide +kernel
theorem d_Mo_fitsTypes_55 : decode c_Mo_fitsTypes 55 = .ok (.istore 4, 2) := by decide +kernel
theorem d_Mo_fitsTypes_57 : decode c_Mo_fitsTypes 57 = .ok (.iload 4, 2) := by decide +kernel
theorem d_Mo_fitsTypes_59 : decode c_Mo_fitsTypes 59 = .ok (.bipush (12), 2) := by decide +kernel
theorem d_Mo_fitsTypes_61 : decode c_Mo_fitsTypes 61 = .ok (.if_icmp .ge (22), 3) := by decide +kernel
theorem d_Mo_fitsTypes_64 : decode c_Mo_fitsTypes 64 = .ok (.aload_n 0, 1) := by decide +kernel
theorem d_Mo_fitsTypes_65 : decode c_Mo_fitsTypes 65 = .ok (.getfield 52, 3) := by decide +kernel
theorem d_Mo_fitsTypes_68 : decode c_Mo_fitsTypes 68 = .ok (.bipush (12), 2) := by decide +kernel
theorem d_Mo_fitsTypes_70 : decode c_Mo_fitsTypes 70 = .ok (.iload_n 1, 1) := by decide +kernel
theorem d_Mo_fitsTypes_71 : decode c_Mo_fitsTypes 71 = .ok (.imul, 1) := by decide +kernel
theorem d_Mo_fitsTypes_72 : decode c_Mo_fitsTypes 72 = .ok (.iload 4, 2) := by decide +kernel
theorem d_Mo_fitsTypes_74 : decode c_Mo_fitsTypes 74 = .ok (.iadd, 1) := by decide +kernel
theorem d_Mo_fitsTypes_75 : decode c_Mo_fitsTypes 75 = .ok (.iconst (0), 1) := by decide +kernel
theorem d_Mo_fitsTypes_76 : decode c_Mo_fitsTypes 76 = .ok (.bastore, 1) := by decide +kernel
theorem d_Mo_fitsTypes_77 : decode c_Mo_fitsTypes 77 = .ok (.iinc 4 (1), 3) := by decide +kernel
theorem d_Mo_fitsTypes_80 : decode c_Mo_fitsTypes 80 = .ok (.goto (-23), 3) := by decide +kernel
theorem d_Mo_fitsTypes_83 : decode c_Mo_fitsTypes 83 = .ok (.aload_n 0, 1) := by decide +kernel
theorem d_Mo_fitsTypes_84 : decode c_Mo_fitsTypes 84 = .ok (.iload_n 1, 1) := by decide +kernel
theorem d_Mo_fitsTypes_85 : decode c_Mo_fitsTypes 85 = .ok (.iconst (0), 1) := by decide +kernel
theorem d_Mo_fitsTypes_86 : decode c_Mo_fitsTypes 86 = .ok (.iload_n 2, 1) := by decide +kernel
theorem d_Mo_fitsTypes_87 : decode c_Mo_fitsTypes 87 = .ok (.invokevirtual 175, 3) := by decide +kernel
theorem d_Mo_fitsTypes_90 : decode c_Mo_fitsTypes 90 = .ok (.istore 4, 2) := by decide +kernel
theorem d_Mo_fitsTypes_92 : decode c_Mo_fitsTypes 92 = .ok (.aload_n 0, 1) := by decide +kernel
theorem d_Mo_fitsTypes_93 : decode c_Mo_fitsTypes 93 = .ok (.iload 4, 2) := by decide +kernel
theorem d_Mo_fitsTypes_95 : decode c_Mo_fitsTypes 95 = .ok (.putfield 169, 3) := by decide +kernel
theorem d_Mo_fitsTypes_98 : decode c_Mo_fitsTypes 98 = .ok (.iconst (0), 1) := by decide +kernel
theorem d_Mo_fitsTypes_99 : decode c_Mo_fitsTypes 99 = .ok (.istore 5, 2) := by decide +kernel
theorem d_Mo_fitsTypes_101 : decode c_Mo_fitsTypes 101 = .ok (.iload 5, 2) := by decide +kernel
theorem d_Mo_fitsTypes_103 : decode c_Mo_fitsTypes 103 = .ok (.bipush (12), 2) := by decide +kernel
theorem d_Mo_fitsTypes_105 : decode c_Mo_fitsTypes 105 = .ok (.if_icmp .gt (83), 3) := by decide +kernel
theorem d_Mo_fitsTypes_108 : decode c_Mo_fitsTypes 108 = .ok (.aload_n 0, 1) := by decide +kernel
theorem d_Mo_fitsTypes_109 : decode c_Mo_fitsTypes 109 = .ok (.getfield 169, 3) := by decide +kernel
theorem d_Mo_fitsTypes_112 : decode c_Mo_fitsTypes 112 = .ok (.ifCond .eq (76), 3) := by decide +kernel
theorem d_Mo_fitsTypes_115 : decode c_Mo_fitsTypes 115 = .ok (.iload 4, 2) := by decide +kernel
theorem d_Mo_fitsTypes_117 : decode c_Mo_fitsTypes 117 = .ok (.ifCond .eq (71), 3) := by decide +kernel
theorem d_Mo_fitsTypes_120 : decode c_Mo_fitsTypes 120 = .ok (.aload_n 0, 1) := by decide +kernel
theorem d_Mo_fitsTypes_121 : decode c_Mo_fitsTypes 121 = .ok (.iconst (0), 1) := by decide +kernel
theorem d_Mo_fitsTypes_122 : decode c_Mo_fitsTypes 122 = .ok (.putfield 169, 3) := by decide +kernel
theorem d_Mo_fitsTypes_125 : decode c_Mo_fitsTypes 125 = .ok (.iconst (0), 1) := by decide +kernel
theorem d_Mo_fitsTypes_126 : decode c_Mo_fitsTypes 126 = .ok (.istore 6, 2) := by decide +kernel
theorem d_Mo_fitsTypes_128 : decode c_Mo_fitsTypes 128 = .ok (.iload 6, 2) := by decide +kernel
theorem d_Mo_fitsTypes_130 : decode c_Mo_fitsTypes 130 = .ok (.aload_n 0, 1) := by decide +kernel
theorem d_Mo_fitsTypes_131 : decode c_Mo_fitsTypes 131 = .ok (.getfield 40, 3) := by decide +kernel
theorem d_Mo_fitsTypes_134 : decode c_Mo_fitsTypes 134 = .ok (.iload_n 1, 1) := by decide +kernel
theorem d_Mo_fitsTypes_135 : decode c_Mo_fitsTypes 135 = .ok (.iaload, 1) := by decide +kernel
theorem d_Mo_fitsTypes_136 : decode c_Mo_fitsTypes 136 = .ok (.if_icmp .ge (46), 3) := by decide +kernel
theorem d_Mo_fitsTypes_139 : decode c_Mo_fitsTypes 139 = .ok (.iload 4, 2) := by decide +kernel
theorem d_Mo_fitsTypes_141 : decode c_Mo_fitsTypes 141 = .ok (.ifCond .eq (32), 3) := by decide +kernel
theorem d_Mo_fitsTypes_144 : decode c_Mo_fitsTypes 144 = .ok (.aload_n 0, 1) := by decide +kernel
theorem d_Mo_fitsTypes_145 : decode c_Mo_fitsTypes 145 = .ok (.getfield 52, 3) := by decide +kernel
theorem d_Mo_fitsTypes_148 : decode c_Mo_fitsTypes 148 = .ok (.bipush (12), 2) := by decide +kernel
theorem d_Mo_fitsTypes_150 : decode c_Mo_fitsTypes 150 = .ok (.iload_n 1, 1) := by decide +kernel
theorem d_Mo_fitsTypes_151 : decode c_Mo_fitsTypes 151 = .ok (.imul, 1) := by decide +kernel
theorem d_Mo_fitsTypes_152 : decode c_Mo_fitsTypes 152 = .ok (.iload 6, 2) := by decide +kernel
theorem d_Mo_fitsTypes_154 : decode c_Mo_fitsTypes 154 = .ok (.iadd, 1) := by decide +kernel
theorem d_Mo_fitsTypes_155 : decode c_Mo_fitsTypes 155 = .ok (.baload, 1) := by decide +kernel
theorem d_Mo_fitsTypes_156 : decode c_Mo_fitsTypes 156 = .ok (.ifCond .eq (13), 3) := by decide +kernel
theorem d_Mo_fitsTypes_159 : decode c_Mo_fitsTypes 159 = .ok (.aload_n 0, 1) := by decide +kernel
theorem d_Mo_fitsTypes_160 : decode c_Mo_fitsTypes 160 = .ok (.iload_n 1, 1) := by decide +kernel
theorem d_Mo_fitsTypes_161 : decode c_Mo_fitsTypes 161 = .ok (.iload 6, 2) := by decide +kernel
theorem d_Mo_fitsTypes_163 : decode c_Mo_fitsTypes 163 = .ok (.invokevirtual 179, 3) := by decide +kernel
theorem d_Mo_fitsTypes_166 : decode c_Mo_fitsTypes 166 = .ok (.ifCond .eq (7), 3) := by decide +kernel
theorem d_Mo_fitsTypes_169 : decode c_Mo_fitsTypes 169 = .ok (.iconst (1), 1) := by decide +kernel
theorem d_Mo_fitsTypes_170 : decode c_Mo_fitsTypes 170 = .ok (.goto (4), 3) := by decide +kernel
theorem d_Mo_fitsTypes_173 : decode c_Mo_fitsTypes 173 = .ok (.iconst (0), 1) := by decide +kernel
theorem d_Mo_fitsTypes_174 : decode c_Mo_fitsTypes 174 = .ok (.istore 4, 2) := by decide +kernel
theorem d_Mo_fitsTypes_176 : decode c_Mo_fitsTypes 176 = .ok (.iinc 6 (1), 3) := by decide +kernel
theorem d_Mo_fitsTypes_179 : decode c_Mo_fitsTypes 179 = .ok (.goto (-51), 3) := by decide +kernel
theorem d_Mo_fitsTypes_182 : decode c_Mo_fitsTypes 182 = .ok (.iinc 5 (1), 3) := by decide +kernel
theorem d_Mo_fitsTypes_185 : decode c_Mo_fitsTypes 185 = .ok (.goto (-84), 3) := by decide +kernel
theorem d_Mo_fitsTypes_188 : decode c_Mo_fitsTypes 188 = .ok (.iconst (0), 1) := by decide +kernel
theorem d_Mo_fitsTypes_189 : decode c_Mo_fitsTypes 189 = .ok (.istore 5, 2) := by decide +kernel
theorem d_Mo_fitsTypes_191 : decode c_Mo_fitsTypes 191 = .ok (.iload 5, 2) := by decide +kernel
theorem d_Mo_fitsTypes_193 : decode c_Mo_fitsTypes 193 = .ok (.aload_n 0, 1) := by decide +kernel
theorem d_Mo_fitsTypes_194 : decode c_Mo_fitsTypes 194 = .ok (.getfield 40, 3) := by decide +kernel
theorem d_Mo_fitsTypes_197 : decode c_Mo_fitsTypes 197 = .ok (.iload_n 1, 1) := by decide +kernel
theorem d_Mo_fitsTypes_198 : decode c_Mo_fitsTypes 198 = .ok (.iaload, 1) := by decide +kernel
theorem d_Mo_fitsTypes_199 : decode c_Mo_fitsTypes 199 = .ok (.if_icmp .ge (36), 3) := by decide +kernel
theorem d_Mo_fitsTypes_202 : decode c_Mo_fitsTypes 202 = .ok (.iload 4, 2) := by decide +kernel
theorem d_Mo_fitsTypes_204 : decode c_Mo_fitsTypes 204 = .ok (.ifCond .eq (22), 3) := by decide +kernel
theorem d_Mo_fitsTypes_207 : decode c_Mo_fitsTypes 207 = .ok (.aload_n 0, 1) := by decide +kernel
theorem d_Mo_fitsTypes_208 : decode c_Mo_fitsTypes 208 = .ok (.getfield 52, 3) := by decide +kernel
theorem d_Mo_fitsTypes_211 : decode c_Mo_fitsTypes 211 = .ok (.bipush (12), 2) := by decide +kernel
theorem d_Mo_fitsTypes_213 : decode c_Mo_fitsTypes 213 = .ok (.iload_n 1, 1) := by decide +kernel
theorem d_Mo_fitsTypes_214 : decode c_Mo_fitsTypes 214 = .ok (.imul, 1) := by decide +kernel
theorem d_Mo_fitsTypes_215 : decode c_Mo_fitsTypes 215 = .ok (.iload 5, 2) := by decide +kernel
theorem d_Mo_fitsTypes_217 : decode c_Mo_fitsTypes 217 = .ok (.iadd, 1) := by decide +kernel
theorem d_Mo_fitsTypes_218 : decode c_Mo_fitsTypes 218 = .ok (.baload, 1) := by decide +kernel
theorem d_Mo_fitsTypes_219 : decode c_Mo_fitsTypes 219 = .ok (.ifCond .eq (7), 3) := by decide +kernel
theorem d_Mo_fitsTypes_222 : decode c_Mo_fitsTypes 222 = .ok (.iconst (1), 1) := by decide +kernel
theorem d_Mo_fitsTypes_223 : decode c_Mo_fitsTypes 223 = .ok (.goto (4), 3) := by decide +kernel
theorem d_Mo_fitsTypes_226 : decode c_Mo_fitsTypes 226 = .ok (.iconst (0), 1) := by decide +kernel
theorem d_Mo_fitsTypes_227 : decode c_Mo_fitsTypes 227 = .ok (.istore 4, 2) := by decide +kernel
theorem d_Mo_fitsTypes_229 : decode c_Mo_fitsTypes 229 = .ok (.iinc 5 (1), 3) := by decide +kernel
theorem d_Mo_fitsTypes_232 : decode c_Mo_fitsTypes 232 = .ok (.goto (-41), 3) := by decide +kernel
theorem d_Mo_fitsTypes_235 : decode c_Mo_fitsTypes 235 = .ok (.iload 4, 2) := by decide +kernel
theorem d_Mo_fitsTypes_237 : decode c_Mo_fitsTypes 237 = .ok (.ireturn, 1) := by decide +kernel
def fx_Mo_fitsTypes_b227 (k191 : tx_St → Int32 → Int32 → Int32 → Option (Int32 × tx_St)) (σ : tx_St) (x1 : Int32) (x5 : Int32) (s0 : Int32) : Option (Int32 × tx_St) := k191 σ x1 s0 (x5 + (1 : Int32))
def fx_Mo_fitsTypes_b226 (k191 : tx_St → Int32 → Int32 → Int32 → Option (Int32 × tx_St)) (σ : tx_St) (x1 : Int32) (x5 : Int32) : Option (Int32 × tx_St) := fx_Mo_fitsTypes_b227 (k191) σ x1 x5 (0 : Int32)
def fx_Mo_fitsTypes_b191 : Nat → tx_St → Int32 → Int32 → Int32 → Option (Int32 × tx_St)
  | 0, _, _, _, _ => none
  | n + 1, σ, x1, x4, x5 => tx_rd σ 56 8 x1 fun v24 => (if v24 ≤ x5 then tx_rz x4 σ else (if x4 = 0 then fx_Mo_fitsTypes_b226 (fx_Mo_fitsTypes_b191 n) σ x1 x5 else tx_rd σ 60 96 (((12 : Int32) * x1) + x5) fun v27 => (if v27 = 0 then fx_Mo_fitsTypes_b226 (fx_Mo_fitsTypes_b191 n) σ x1 x5 else fx_Mo_fitsTypes_b227 (fx_Mo_fitsTypes_b191 n) σ x1 x5 (1 : Int32))))
def fx_Mo_fitsTypes_b188 (σ : tx_St) (x1 : Int32) (x4 : Int32) : Option (Int32 × tx_St) := fx_Mo_fitsTypes_b191  tx_fu σ x1 x4 (0 : Int32)
def fx_Mo_fitsTypes_b174 (k101 : tx_St → Int32 → Int32 → Int32 → Option (Int32 × tx_St)) (k128 : tx_St → Int32 → Int32 → Int32 → Int32 → Option (Int32 × tx_St)) (σ : tx_St) (x1 : Int32) (x5 : Int32) (x6 : Int32) (s0 : Int32) : Option (Int32 × tx_St) := k128 σ x1 s0 x5 (x6 + (1 : Int32))
def fx_Mo_fitsTypes_b173 (k101 : tx_St → Int32 → Int32 → Int32 → Option (Int32 × tx_St)) (k128 : tx_St → Int32 → Int32 → Int32 → Int32 → Option (Int32 × tx_St)) (σ : tx_St) (x1 : Int32) (x5 : Int32) (x6 : Int32) : Option (Int32 × tx_St) := fx_Mo_fitsTypes_b174 (k101) (k128) σ x1 x5 x6 (0 : Int32)
def fx_Mo_fitsTypes_b169 (k101 : tx_St → Int32 → Int32 → Int32 → Option (Int32 × tx_St)) (k128 : tx_St → Int32 → Int32 → Int32 → Int32 → Option (Int32 × tx_St)) (σ : tx_St) (x1 : Int32) (x5 : Int32) (x6 : Int32) : Option (Int32 × tx_St) := fx_Mo_fitsTypes_b174 (k101) (k128) σ x1 x5 x6 (1 : Int32)
def fx_Mo_fitsTypes_b128 (k101 : tx_St → Int32 → Int32 → Int32 → Option (Int32 × tx_St)) : Nat → tx_St → Int32 → Int32 → Int32 → Int32 → Option (Int32 × tx_St)
  | 0, _, _, _, _, _ => none
  | n + 1, σ, x1, x4, x5, x6 => tx_rd σ 56 8 x1 fun v16 => (if v16 ≤ x6 then k101 σ x1 x4 (x5 + (1 : Int32)) else (if x4 = 0 then fx_Mo_fitsTypes_b173 (k101) (fx_Mo_fitsTypes_b128 k101 n) σ x1 x5 x6 else tx_rd σ 60 96 (((12 : Int32) * x1) + x6) fun v19 => (if v19 = 0 then fx_Mo_fitsTypes_b169 (k101) (fx_Mo_fitsTypes_b128 k101 n) σ x1 x5 x6 else tx_ci (fx_Mo_onward σ x1 x6) fun r22 σ21 => (if r22 = 0 then fx_Mo_fitsTypes_b173 (k101) (fx_Mo_fitsTypes_b128 k101 n) σ21 x1 x5 x6 else fx_Mo_fitsTypes_b169 (k101) (fx_Mo_fitsTypes_b128 k101 n) σ21 x1 x5 x6))))
def fx_Mo_fitsTypes_b101 : Nat → tx_St → Int32 → Int32 → Int32 → Option (Int32 × tx_St)
  | 0, _, _, _, _ => none
  | n + 1, σ, x1, x4, x5 => (if (12 : Int32) < x5 then fx_Mo_fitsTypes_b188  σ x1 x4 else (if (σ 45 19) = 0 then fx_Mo_fitsTypes_b188  σ x1 x4 else (if x4 = 0 then fx_Mo_fitsTypes_b188  σ x1 x4 else tx_pz σ 45 19 (0 : Int32) fun σ15 => fx_Mo_fitsTypes_b128 (fx_Mo_fitsTypes_b101 n) tx_fu σ15 x1 x4 x5 (0 : Int32))))
def fx_Mo_fitsTypes_b57 : Nat → tx_St → Int32 → Int32 → Int32 → Option (Int32 × tx_St)
  | 0, _, _, _, _ => none
  | n + 1, σ, x1, x2, x4 => (if (12 : Int32) ≤ x4 then tx_ci (fx_Mo_led σ x1 (0 : Int32) x2) fun r9 σ8 => tx_pz σ8 45 19 r9 fun σ10 => fx_Mo_fitsTypes_b101  tx_fu σ10 x1 r9 (0 : Int32) else tx_wz σ 60 96 (((12 : Int32) * x1) + x4) (0 : Int32) fun σ11 => fx_Mo_fitsTypes_b57 n σ11 x1 x2 (x4 + (1 : Int32)))
def fx_Mo_fitsTypes_b54 (σ : tx_St) (x1 : Int32) (x2 : Int32) : Option (Int32 × tx_St) := fx_Mo_fitsTypes_b57  tx_fu σ x1 x2 (0 : Int32)
def fx_Mo_fitsTypes_b27 (σ : tx_St) (x1 : Int32) (x2 : Int32) (x3 : Int32) : Option (Int32 × tx_St) := tx_rd σ 54 8 x1 fun v4 => (if v4 < 0 then fx_Mo_fitsTypes_b54  σ x1 x2 else tx_rd σ 54 8 x1 fun v6 => fx_Mo_fitsTypes_b54  σ x1 (x2 ||| ((v6 + (1 : Int32)) <<< (((16 : Int32) + ((4 : Int32) * x3)) &&& 31))))
def fx_Mo_fitsTypes (σ : tx_St) (x1 : Int32) : Option (Int32 × tx_St) := tx_rd σ 52 8 x1 fun v1 => (if v1 = 0 then tx_rd σ 51 8 x1 fun v3 => fx_Mo_fitsTypes_b27  σ x1 (((3 : Int32) + v3) <<< ((16 : Int32) &&& 31)) (1 : Int32) else fx_Mo_fitsTypes_b27  σ x1 (0 : Int32) (0 : Int32))
set_option maxRecDepth 100000 in
set_option maxHeartbeats 4000000 in
theorem fx_Mo_fitsTypes_b227_w {l : Launch} {E : tx_E} (k191 : tx_St → Int32 → Int32 → Int32 → Option (Int32 × tx_St)) (j191 : ∀ (σ : tx_St) (x1 : Int32) (x4 : Int32) (x5 : Int32) (t : Int32 × tx_St), k191 σ x1 x4 x5 = some t → gx l E mi_Mo_fitsTypes (some (.int t.1), t.2) σ [(0, .ref (E.1 45)), (1, .int x1), (4, .int x4), (5, .int x5)] 191 []) (σ : tx_St) (x1 : Int32) (x5 : Int32) (s0 : Int32) (t : Int32 × tx_St) (hT : fx_Mo_fitsTypes_b227 k191 σ x1 x5 s0 = some t) : gx l E mi_Mo_fitsTypes (some (.int t.1), t.2) σ [(0, .ref (E.1 45)), (1, .int x1), (5, .int x5)] 227 [.int s0] := by
  unfold fx_Mo_fitsTypes_b227 at hT
  refine gx_istore (pc := 227) [(4, .int s0), (0, .ref (E.1 45)), (1, .int x1), (5, .int x5)] d_Mo_fitsTypes_227 (Nat.le_of_ble_eq_true rfl) rfl ?_
  refine gx_iinc (pc := 229) (x5 + (1 : Int32)) 3 [(5, .int (x5 + (1 : Int32))), (4, .int s0), (0, .ref (E.1 45)), (1, .int x1)] d_Mo_fitsTypes_229 rfl (tx_inc (by decide)) (Nat.le_of_ble_eq_true rfl) rfl ?_
  refine gx_goto (pc := 232) 191 d_Mo_fitsTypes_232 rfl ?_
  refine gx_sub [2, 3, 1, 0] rfl ?_
  exact j191 σ x1 s0 (x5 + (1 : Int32)) _ hT
set_option maxRecDepth 100000 in
set_option maxHeartbeats 4000000 in
theorem fx_Mo_fitsTypes_b226_w {l : Launch} {E : tx_E} (k191 : tx_St → Int32 → Int32 → Int32 → Option (Int32 × tx_St)) (j191 : ∀ (σ : tx_St) (x1 : Int32) (x4 : Int32) (x5 : Int32) (t : Int32 × tx_St), k191 σ x1 x4 x5 = some t → gx l E mi_Mo_fitsTypes (some (.int t.1), t.2) σ [(0, .ref (E.1 45)), (1, .int x1), (4, .int x4), (5, .int x5)] 191 []) (σ : tx_St) (x1 : Int32) (x5 : Int32) (t : Int32 × tx_St) (hT : fx_Mo_fitsTypes_b226 k191 σ x1 x5 = some t) : gx l E mi_Mo_fitsTypes (some (.int t.1), t.2) σ [(0, .ref (E.1 45)), (1, .int x1), (5, .int x5)] 226 [] := by
  unfold fx_Mo_fitsTypes_b226 at hT
  refine gx_iconst (pc := 226) (0 : Int32) d_Mo_fitsTypes_226 (by decide) ?_
  exact fx_Mo_fitsTypes_b227_w (k191) (j191) σ x1 x5 (0 : Int32) _ hT
set_option maxRecDepth 100000 in
set_option maxHeartbeats 4000000 in
theorem fx_Mo_fitsTypes_b191_w {l : Launch} {E : tx_E} : ∀ (n : Nat) (σ : tx_St) (x1 : Int32) (x4 : Int32) (x5 : Int32) (t : Int32 × tx_St), fx_Mo_fitsTypes_b191 n σ x1 x4 x5 = some t → gx l E mi_Mo_fitsTypes (some (.int t.1), t.2) σ [(0, .ref (E.1 45)), (1, .int x1), (4, .int x4), (5, .int x5)] 191 [] := by
  intro n
  induction n with
  | zero => intro σ x1 x4 x5 t hT; cases hT
  | succ n ih =>
    intro σ x1 x4 x5 t hT
    rw [fx_Mo_fitsTypes_b191] at hT
    refine gx_iload (pc := 191) 3 d_Mo_fitsTypes_191 rfl ?_
    refine gx_aload_n (pc := 193) 0 d_Mo_fitsTypes_193 rfl rfl ?_
    refine gx_getR (pc := 194) 56 fl_Mo_40 d_Mo_fitsTypes_194 (rfl) (by decide) rfl ?_
    refine gx_iload_n (pc := 197) 1 d_Mo_fitsTypes_197 rfl rfl ?_
    obtain ⟨v24, gv24, iv24, hT⟩ := tx_rd_some hT
    refine gx_iald (pc := 198) v24 d_Mo_fitsTypes_198 (rfl) iv24 gv24 ?_
    refine gx_icmp_ge (pc := 199) 235 d_Mo_fitsTypes_199 rfl (fun h25 => ?_) (fun h25 => ?_)
    · have hT := tx_ifp h25 hT
      refine gx_iload (pc := 235) 2 d_Mo_fitsTypes_235 rfl ?_
      obtain ⟨hz, hT⟩ := tx_rz_some hT
      cases hT
      exact gx_zret (pc := 237) d_Mo_fitsTypes_237 rfl hz rfl
    · have hT := tx_ifn h25 hT
      refine gx_iload (pc := 202) 2 d_Mo_fitsTypes_202 rfl ?_
      refine gx_if_eq (pc := 204) 226 d_Mo_fitsTypes_204 rfl (fun h26 => ?_) (fun h26 => ?_)
      · have hT := tx_ifp h26 hT
        refine gx_sub [0, 1, 3] rfl ?_
        exact fx_Mo_fitsTypes_b226_w (fx_Mo_fitsTypes_b191 n) (ih) σ x1 x5 _ hT
      · have hT := tx_ifn h26 hT
        refine gx_aload_n (pc := 207) 0 d_Mo_fitsTypes_207 rfl rfl ?_
        refine gx_getR (pc := 208) 60 fl_Mo_52 d_Mo_fitsTypes_208 (rfl) (by decide) rfl ?_
        refine gx_bipush (pc := 211) (12 : Int32) d_Mo_fitsTypes_211 (by decide) ?_
        refine gx_iload_n (pc := 213) 1 d_Mo_fitsTypes_213 rfl rfl ?_
        refine gx_imul (pc := 214) d_Mo_fitsTypes_214 ?_
        refine gx_iload (pc := 215) 3 d_Mo_fitsTypes_215 rfl ?_
        refine gx_iadd (pc := 217) d_Mo_fitsTypes_217 ?_
        obtain ⟨v27, gv27, iv27, hT⟩ := tx_rd_some hT
        refine gx_zald (pc := 218) v27 d_Mo_fitsTypes_218 (rfl) iv27 gv27 ?_
        refine gx_if_eq (pc := 219) 226 d_Mo_fitsTypes_219 rfl (fun h28 => ?_) (fun h28 => ?_)
        · have hT := tx_ifp h28 hT
          refine gx_sub [0, 1, 3] rfl ?_
          exact fx_Mo_fitsTypes_b226_w (fx_Mo_fitsTypes_b191 n) (ih) σ x1 x5 _ hT
        · have hT := tx_ifn h28 hT
          refine gx_iconst (pc := 222) (1 : Int32) d_Mo_fitsTypes_222 (by decide) ?_
          refine gx_goto (pc := 223) 227 d_Mo_fitsTypes_223 rfl ?_
          refine gx_sub [0, 1, 3] rfl ?_
          exact fx_Mo_fitsTypes_b227_w (fx_Mo_fitsTypes_b191 n) (ih) σ x1 x5 (1 : Int32) _ hT
set_option maxRecDepth 100000 in
set_option maxHeartbeats 4000000 in
theorem fx_Mo_fitsTypes_b188_w {l : Launch} {E : tx_E} (σ : tx_St) (x1 : Int32) (x4 : Int32) (t : Int32 × tx_St) (hT : fx_Mo_fitsTypes_b188 σ x1 x4 = some t) : gx l E mi_Mo_fitsTypes (some (.int t.1), t.2) σ [(0, .ref (E.1 45)), (1, .int x1), (4, .int x4)] 188 [] := by
  unfold fx_Mo_fitsTypes_b188 at hT
  refine gx_iconst (pc := 188) (0 : Int32) d_Mo_fitsTypes_188 (by decide) ?_
  refine gx_istore (pc := 189) [(5, .int (0 : Int32)), (0, .ref (E.1 45)), (1, .int x1), (4, .int x4)] d_Mo_fitsTypes_189 (Nat.le_of_ble_eq_true rfl) rfl ?_
  refine gx_sub [1, 2, 3, 0] rfl ?_
  exact fx_Mo_fitsTypes_b191_w  tx_fu σ x1 x4 (0 : Int32) _ hT
set_option maxRecDepth 100000 in
set_option maxHeartbeats 4000000 in
theorem fx_Mo_fitsTypes_b174_w {l : Launch} {E : tx_E} (k101 : tx_St → Int32 → Int32 → Int32 → Option (Int32 × tx_St)) (j101 : ∀ (σ : tx_St) (x1 : Int32) (x4 : Int32) (x5 : Int32) (t : Int32 × tx_St), k101 σ x1 x4 x5 = some t → gx l E mi_Mo_fitsTypes (some (.int t.1), t.2) σ [(0, .ref (E.1 45)), (1, .int x1), (4, .int x4), (5, .int x5)] 101 []) (k128 : tx_St → Int32 → Int32 → Int32 → Int32 → Option (Int32 × tx_St)) (j128 : ∀ (σ : tx_St) (x1 : Int32) (x4 : Int32) (x5 : Int32) (x6 : Int32) (t : Int32 × tx_St), k128 σ x1 x4 x5 x6 = some t → gx l E mi_Mo_fitsTypes (some (.int t.1), t.2) σ [(0, .ref (E.1 45)), (1, .int x1), (4, .int x4), (5, .int x5), (6, .int x6)] 128 []) (σ : tx_St) (x1 : Int32) (x5 : Int32) (x6 : Int32) (s0 : Int32) (t : Int32 × tx_St) (hT : fx_Mo_fitsTypes_b174 k101 k128 σ x1 x5 x6 s0 = some t) : gx l E mi_Mo_fitsTypes (some (.int t.1), t.2) σ [(0, .ref (E.1 45)), (1, .int x1), (5, .int x5), (6, .int x6)] 174 [.int s0] := by
  unfold fx_Mo_fitsTypes_b174 at hT
  refine gx_istore (pc := 174) [(4, .int s0), (0, .ref (E.1 45)), (1, .int x1), (5, .int x5), (6, .int x6)] d_Mo_fitsTypes_174 (Nat.le_of_ble_eq_true rfl) rfl ?_
  refine gx_iinc (pc := 176) (x6 + (1 : Int32)) 4 [(6, .int (x6 + (1 : Int32))), (4, .int s0), (0, .ref (E.1 45)), (1, .int x1), (5, .int x5)] d_Mo_fitsTypes_176 rfl (tx_inc (by decide)) (Nat.le_of_ble_eq_true rfl) rfl ?_
  refine gx_goto (pc := 179) 128 d_Mo_fitsTypes_179 rfl ?_
  refine gx_sub [2, 3, 1, 4, 0] rfl ?_
  exact j128 σ x1 s0 x5 (x6 + (1 : Int32)) _ hT
set_option maxRecDepth 100000 in
set_option maxHeartbeats 4000000 in
theorem fx_Mo_fitsTypes_b173_w {l : Launch} {E : tx_E} (k101 : tx_St → Int32 → Int32 → Int32 → Option (Int32 × tx_St)) (j101 : ∀ (σ : tx_St) (x1 : Int32) (x4 : Int32) (x5 : Int32) (t : Int32 × tx_St), k101 σ x1 x4 x5 = some t → gx l E mi_Mo_fitsTypes (some (.int t.1), t.2) σ [(0, .ref (E.1 45)), (1, .int x1), (4, .int x4), (5, .int x5)] 101 []) (k128 : tx_St → Int32 → Int32 → Int32 → Int32 → Option (Int32 × tx_St)) (j128 : ∀ (σ : tx_St) (x1 : Int32) (x4 : Int32) (x5 : Int32) (x6 : Int32) (t : Int32 × tx_St), k128 σ x1 x4 x5 x6 = some t → gx l E mi_Mo_fitsTypes (some (.int t.1), t.2) σ [(0, .ref (E.1 45)), (1, .int x1), (4, .int x4), (5, .int x5), (6, .int x6)] 128 []) (σ : tx_St) (x1 : Int32) (x5 : Int32) (x6 : Int32) (t : Int32 × tx_St) (hT : fx_Mo_fitsTypes_b173 k101 k128 σ x1 x5 x6 = some t) : gx l E mi_Mo_fitsTypes (some (.int t.1), t.2) σ [(0, .ref (E.1 45)), (1, .int x1), (5, .int x5), (6, .int x6)] 173 [] := by
  unfold fx_Mo_fitsTypes_b173 at hT
  refine gx_iconst (pc := 173) (0 : Int32) d_Mo_fitsTypes_173 (by decide) ?_
  exact fx_Mo_fitsTypes_b174_w (k101) (j101) (k128) (j128) σ x1 x5 x6 (0 : Int32) _ hT
set_option maxRecDepth 100000 in
set_option maxHeartbeats 4000000 in
theorem fx_Mo_fitsTypes_b169_w {l : Launch} {E : tx_E} (k101 : tx_St → Int32 → Int32 → Int32 → Option (Int32 × tx_St)) (j101 : ∀ (σ : tx_St) (x1 : Int32) (x4 : Int32) (x5 : Int32) (t : Int32 × tx_St), k101 σ x1 x4 x5 = some t → gx l E mi_Mo_fitsTypes (some (.int t.1), t.2) σ [(0, .ref (E.1 45)), (1, .int x1), (4, .int x4), (5, .int x5)] 101 []) (k128 : tx_St → Int32 → Int32 → Int32 → Int32 → Option (Int32 × tx_St)) (j128 : ∀ (σ : tx_St) (x1 : Int32) (x4 : Int32) (x5 : Int32) (x6 : Int32) (t : Int32 × tx_St), k128 σ x1 x4 x5 x6 = some t → gx l E mi_Mo_fitsTypes (some (.int t.1), t.2) σ [(0, .ref (E.1 45)), (1, .int x1), (4, .int x4), (5, .int x5), (6, .int x6)] 128 []) (σ : tx_St) (x1 : Int32) (x5 : Int32) (x6 : Int32) (t : Int32 × tx_St) (hT : fx_Mo_fitsTypes_b169 k101 k128 σ x1 x5 x6 = some t) : gx l E mi_Mo_fitsTypes (some (.int t.1), t.2) σ [(0, .ref (E.1 45)), (1, .int x1), (5, .int x5), (6, .int x6)] 169 [] := by
  unfold fx_Mo_fitsTypes_b169 at hT
  refine gx_iconst (pc := 169) (1 : Int32) d_Mo_fitsTypes_169 (by decide) ?_
  refine gx_goto (pc := 170) 174 d_Mo_fitsTypes_170 rfl ?_
  exact fx_Mo_fitsTypes_b174_w (k101) (j101) (k128) (j128) σ x1 x5 x6 (1 : Int32) _ hT
set_option maxRecDepth 100000 in
set_option maxHeartbeats 4000000 in
theorem fx_Mo_fitsTypes_b128_w {l : Launch} {E : tx_E} (k101 : tx_St → Int32 → Int32 → Int32 → Option (Int32 × tx_St)) (j101 : ∀ (σ : tx_St) (x1 : Int32) (x4 : Int32) (x5 : Int32) (t : Int32 × tx_St), k101 σ x1 x4 x5 = some t → gx l E mi_Mo_fitsTypes (some (.int t.1), t.2) σ [(0, .ref (E.1 45)), (1, .int x1), (4, .int x4), (5, .int x5)] 101 []) : ∀ (n : Nat) (σ : tx_St) (x1 : Int32) (x4 : Int32) (x5 : Int32) (x6 : Int32) (t : Int32 × tx_St), fx_Mo_fitsTypes_b128 k101 n σ x1 x4 x5 x6 = some t → gx l E mi_Mo_fitsTypes (some (.int t.1), t.2) σ [(0, .ref (E.1 45)), (1, .int x1), (4, .int x4), (5, .int x5), (6, .int x6)] 128 [] := by
  intro n
  induction n with
  | zero => intro σ x1 x4 x5 x6 t hT; cases hT
  | succ n ih =>
    intro σ x1 x4 x5 x6 t hT
    rw [fx_Mo_fitsTypes_b128] at hT
    refine gx_iload (pc := 128) 4 d_Mo_fitsTypes_128 rfl ?_
    refine gx_aload_n (pc := 130) 0 d_Mo_fitsTypes_130 rfl rfl ?_
    refine gx_getR (pc := 131) 56 fl_Mo_40 d_Mo_fitsTypes_131 (rfl) (by decide) rfl ?_
    refine gx_iload_n (pc := 134) 1 d_Mo_fitsTypes_134 rfl rfl ?_
    obtain ⟨v16, gv16, iv16, hT⟩ := tx_rd_some hT
    refine gx_iald (pc := 135) v16 d_Mo_fitsTypes_135 (rfl) iv16 gv16 ?_
    refine gx_icmp_ge (pc := 136) 182 d_Mo_fitsTypes_136 rfl (fun h17 => ?_) (fun h17 => ?_)
    · have hT := tx_ifp h17 hT
      refine gx_iinc (pc := 182) (x5 + (1 : Int32)) 3 [(5, .int (x5 + (1 : Int32))), (0, .ref (E.1 45)), (1, .int x1), (4, .int x4), (6, .int x6)] d_Mo_fitsTypes_182 rfl (tx_inc (by decide)) (Nat.le_of_ble_eq_true rfl) rfl ?_
      refine gx_goto (pc := 185) 101 d_Mo_fitsTypes_185 rfl ?_
      refine gx_sub [1, 2, 3, 0] rfl ?_
      exact j101 σ x1 x4 (x5 + (1 : Int32)) _ hT
    · have hT := tx_ifn h17 hT
      refine gx_iload (pc := 139) 2 d_Mo_fitsTypes_139 rfl ?_
      refine gx_if_eq (pc := 141) 173 d_Mo_fitsTypes_141 rfl (fun h18 => ?_) (fun h18 => ?_)
      · have hT := tx_ifp h18 hT
        refine gx_sub [0, 1, 3, 4] rfl ?_
        exact fx_Mo_fitsTypes_b173_w (k101) (j101) (fx_Mo_fitsTypes_b128 k101 n) (ih) σ x1 x5 x6 _ hT
      · have hT := tx_ifn h18 hT
        refine gx_aload_n (pc := 144) 0 d_Mo_fitsTypes_144 rfl rfl ?_
        refine gx_getR (pc := 145) 60 fl_Mo_52 d_Mo_fitsTypes_145 (rfl) (by decide) rfl ?_
        refine gx_bipush (pc := 148) (12 : Int32) d_Mo_fitsTypes_148 (by decide) ?_
        refine gx_iload_n (pc := 150) 1 d_Mo_fitsTypes_150 rfl rfl ?_
        refine gx_imul (pc := 151) d_Mo_fitsTypes_151 ?_
        refine gx_iload (pc := 152) 4 d_Mo_fitsTypes_152 rfl ?_
        refine gx_iadd (pc := 154) d_Mo_fitsTypes_154 ?_
        obtain ⟨v19, gv19, iv19, hT⟩ := tx_rd_some hT
        refine gx_zald (pc := 155) v19 d_Mo_fitsTypes_155 (rfl) iv19 gv19 ?_
        refine gx_if_eq (pc := 156) 169 d_Mo_fitsTypes_156 rfl (fun h20 => ?_) (fun h20 => ?_)
        · have hT := tx_ifp h20 hT
          refine gx_sub [0, 1, 3, 4] rfl ?_
          exact fx_Mo_fitsTypes_b169_w (k101) (j101) (fx_Mo_fitsTypes_b128 k101 n) (ih) σ x1 x5 x6 _ hT
        · have hT := tx_ifn h20 hT
          refine gx_aload_n (pc := 159) 0 d_Mo_fitsTypes_159 rfl rfl ?_
          refine gx_iload_n (pc := 160) 1 d_Mo_fitsTypes_160 rfl rfl ?_
          refine gx_iload (pc := 161) 4 d_Mo_fitsTypes_161 rfl ?_
          obtain ⟨r22, σ21, cσ21, hT⟩ := tx_ci_some hT
          refine gx_callV (pc := 163) (As := [.int x1, .int x6]) (rest := []) cm_Mo_onward lk_Mo_179 (fx_Mo_onward_c l E σ x1 x6 _ cσ21) (rfl) (by decide) rfl rfl tx_fi_Mo_fitsTypes_Mo_onward (Nat.le_of_ble_eq_true rfl) d_Mo_fitsTypes_163 ?_
          change gx l E mi_Mo_fitsTypes _ σ21 [(0, .ref (E.1 45)), (1, .int x1), (4, .int x4), (5, .int x5), (6, .int x6)] 166 [.int r22]
          refine gx_if_eq (pc := 166) 173 d_Mo_fitsTypes_166 rfl (fun h23 => ?_) (fun h23 => ?_)
          · have hT := tx_ifp h23 hT
            refine gx_sub [0, 1, 3, 4] rfl ?_
            exact fx_Mo_fitsTypes_b173_w (k101) (j101) (fx_Mo_fitsTypes_b128 k101 n) (ih) σ21 x1 x5 x6 _ hT
          · have hT := tx_ifn h23 hT
            refine gx_sub [0, 1, 3, 4] rfl ?_
            exact fx_Mo_fitsTypes_b169_w (k101) (j101) (fx_Mo_fitsTypes_b128 k101 n) (ih) σ21 x1 x5 x6 _ hT
set_option maxRecDepth 100000 in
set_option maxHeartbeats 4000000 in
theorem fx_Mo_fitsTypes_b101_w {l : Launch} {E : tx_E} : ∀ (n : Nat) (σ : tx_St) (x1 : Int32) (x4 : Int32) (x5 : Int32) (t : Int32 × tx_St), fx_Mo_fitsTypes_b101 n σ x1 x4 x5 = some t → gx l E mi_Mo_fitsTypes (some (.int t.1), t.2) σ [(0, .ref (E.1 45)), (1, .int x1), (4, .int x4), (5, .int x5)] 101 [] := by
  intro n
  induction n with
  | zero => intro σ x1 x4 x5 t hT; cases hT
  | succ n ih =>
    intro σ x1 x4 x5 t hT
    rw [fx_Mo_fitsTypes_b101] at hT
    refine gx_iload (pc := 101) 3 d_Mo_fitsTypes_101 rfl ?_
    refine gx_bipush (pc := 103) (12 : Int32) d_Mo_fitsTypes_103 (by decide) ?_
    refine gx_icmp_gt (pc := 105) 188 d_Mo_fitsTypes_105 rfl (fun h12 => ?_) (fun h12 => ?_)
    · have hT := tx_ifp h12 hT
      refine gx_sub [0, 1, 2] rfl ?_
      exact fx_Mo_fitsTypes_b188_w  σ x1 x4 _ hT
    · have hT := tx_ifn h12 hT
      refine gx_aload_n (pc := 108) 0 d_Mo_fitsTypes_108 rfl rfl ?_
      refine gx_getI (pc := 109) (σ 45 19) fl_Mo_169 d_Mo_fitsTypes_109 (rfl) (by decide) rfl rfl ?_
      refine gx_if_eq (pc := 112) 188 d_Mo_fitsTypes_112 rfl (fun h13 => ?_) (fun h13 => ?_)
      · have hT := tx_ifp h13 hT
        refine gx_sub [0, 1, 2] rfl ?_
        exact fx_Mo_fitsTypes_b188_w  σ x1 x4 _ hT
      · have hT := tx_ifn h13 hT
        refine gx_iload (pc := 115) 2 d_Mo_fitsTypes_115 rfl ?_
        refine gx_if_eq (pc := 117) 188 d_Mo_fitsTypes_117 rfl (fun h14 => ?_) (fun h14 => ?_)
        · have hT := tx_ifp h14 hT
          refine gx_sub [0, 1, 2] rfl ?_
          exact fx_Mo_fitsTypes_b188_w  σ x1 x4 _ hT
        · have hT := tx_ifn h14 hT
          refine gx_aload_n (pc := 120) 0 d_Mo_fitsTypes_120 rfl rfl ?_
          refine gx_iconst (pc := 121) (0 : Int32) d_Mo_fitsTypes_121 (by decide) ?_
          obtain ⟨σ15, gσ15, bσ15, hT⟩ := tx_pz_some hT
          refine gx_putZ (pc := 122) fp_Mo_169 d_Mo_fitsTypes_122 (rfl) (by decide) rfl bσ15 ?_
          rw [gσ15]
          refine gx_iconst (pc := 125) (0 : Int32) d_Mo_fitsTypes_125 (by decide) ?_
          refine gx_istore (pc := 126) [(6, .int (0 : Int32)), (0, .ref (E.1 45)), (1, .int x1), (4, .int x4), (5, .int x5)] d_Mo_fitsTypes_126 (Nat.le_of_ble_eq_true rfl) rfl ?_
          refine gx_sub [1, 2, 3, 4, 0] rfl ?_
          exact fx_Mo_fitsTypes_b128_w (fx_Mo_fitsTypes_b101 n) (ih) tx_fu σ15 x1 x4 x5 (0 : Int32) _ hT
set_option maxRecDepth 100000 in
set_option maxHeartbeats 4000000 in
theorem fx_Mo_fitsTypes_b57_w {l : Launch} {E : tx_E} : ∀ (n : Nat) (σ : tx_St) (x1 : Int32) (x2 : Int32) (x4 : Int32) (t : Int32 × tx_St), fx_Mo_fitsTypes_b57 n σ x1 x2 x4 = some t → gx l E mi_Mo_fitsTypes (some (.int t.1), t.2) σ [(0, .ref (E.1 45)), (1, .int x1), (2, .int x2), (4, .int x4)] 57 [] := by
  intro n
  induction n with
  | zero => intro σ x1 x2 x4 t hT; cases hT
  | succ n ih =>
    intro σ x1 x2 x4 t hT
    rw [fx_Mo_fitsTypes_b57] at hT
    refine gx_iload (pc := 57) 3 d_Mo_fitsTypes_57 rfl ?_
    refine gx_bipush (pc := 59) (12 : Int32) d_Mo_fitsTypes_59 (by decide) ?_
    refine gx_icmp_ge (pc := 61) 83 d_Mo_fitsTypes_61 rfl (fun h7 => ?_) (fun h7 => ?_)
    · have hT := tx_ifp h7 hT
      refine gx_aload_n (pc := 83) 0 d_Mo_fitsTypes_83 rfl rfl ?_
      refine gx_iload_n (pc := 84) 1 d_Mo_fitsTypes_84 rfl rfl ?_
      refine gx_iconst (pc := 85) (0 : Int32) d_Mo_fitsTypes_85 (by decide) ?_
      refine gx_iload_n (pc := 86) 2 d_Mo_fitsTypes_86 rfl rfl ?_
      obtain ⟨r9, σ8, cσ8, hT⟩ := tx_ci_some hT
      refine gx_callV (pc := 87) (As := [.int x1, .int (0 : Int32), .int x2]) (rest := []) cm_Mo_led lk_Mo_175 (fx_Mo_led_c l E σ x1 (0 : Int32) x2 _ cσ8) (rfl) (by decide) rfl rfl tx_fi_Mo_fitsTypes_Mo_led (Nat.le_of_ble_eq_true rfl) d_Mo_fitsTypes_87 ?_
      change gx l E mi_Mo_fitsTypes _ σ8 [(0, .ref (E.1 45)), (1, .int x1), (2, .int x2), (4, .int x4)] 90 [.int r9]
      refine gx_istore (pc := 90) [(4, .int r9), (0, .ref (E.1 45)), (1, .int x1), (2, .int x2)] d_Mo_fitsTypes_90 (Nat.le_of_ble_eq_true rfl) rfl ?_
      refine gx_aload_n (pc := 92) 1 d_Mo_fitsTypes_92 rfl rfl ?_
      refine gx_iload (pc := 93) 0 d_Mo_fitsTypes_93 rfl ?_
      obtain ⟨σ10, gσ10, bσ10, hT⟩ := tx_pz_some hT
      refine gx_putZ (pc := 95) fp_Mo_169 d_Mo_fitsTypes_95 (rfl) (by decide) rfl bσ10 ?_
      rw [gσ10]
      refine gx_iconst (pc := 98) (0 : Int32) d_Mo_fitsTypes_98 (by decide) ?_
      refine gx_istore (pc := 99) [(5, .int (0 : Int32)), (4, .int r9), (0, .ref (E.1 45)), (1, .int x1), (2, .int x2)] d_Mo_fitsTypes_99 (Nat.le_of_ble_eq_true rfl) rfl ?_
      refine gx_sub [2, 3, 1, 0] rfl ?_
      exact fx_Mo_fitsTypes_b101_w  tx_fu σ10 x1 r9 (0 : Int32) _ hT
    · have hT := tx_ifn h7 hT
      refine gx_aload_n (pc := 64) 0 d_Mo_fitsTypes_64 rfl rfl ?_
      refine gx_getR (pc := 65) 60 fl_Mo_52 d_Mo_fitsTypes_65 (rfl) (by decide) rfl ?_
      refine gx_bipush (pc := 68) (12 : Int32) d_Mo_fitsTypes_68 (by decide) ?_
      refine gx_iload_n (pc := 70) 1 d_Mo_fitsTypes_70 rfl rfl ?_
      refine gx_imul (pc := 71) d_Mo_fitsTypes_71 ?_
      refine gx_iload (pc := 72) 3 d_Mo_fitsTypes_72 rfl ?_
      refine gx_iadd (pc := 74) d_Mo_fitsTypes_74 ?_
      refine gx_iconst (pc := 75) (0 : Int32) d_Mo_fitsTypes_75 (by decide) ?_
      obtain ⟨σ11, gσ11, iσ11, bσ11, hT⟩ := tx_wz_some hT
      refine gx_zast (pc := 76) d_Mo_fitsTypes_76 (rfl) iσ11 bσ11 ?_
      rw [gσ11]
      refine gx_iinc (pc := 77) (x4 + (1 : Int32)) 3 [(4, .int (x4 + (1 : Int32))), (0, .ref (E.1 45)), (1, .int x1), (2, .int x2)] d_Mo_fitsTypes_77 rfl (tx_inc (by decide)) (Nat.le_of_ble_eq_true rfl) rfl ?_
      refine gx_goto (pc := 80) 57 d_Mo_fitsTypes_80 rfl ?_
      refine gx_sub [1, 2, 3, 0] rfl ?_
      exact ih σ11 x1 x2 (x4 + (1 : Int32)) _ hT
set_option maxRecDepth 100000 in
set_option maxHeartbeats 4000000 in
theorem fx_Mo_fitsTypes_b54_w {l : Launch} {E : tx_E} (σ : tx_St) (x1 : Int32) (x2 : Int32) (t : Int32 × tx_St) (hT : fx_Mo_fitsTypes_b54 σ x1 x2 = some t) : gx l E mi_Mo_fitsTypes (some (.int t.1), t.2) σ [(0, .ref (E.1 45)), (1, .int x1), (2, .int x2)] 54 [] := by
  unfold fx_Mo_fitsTypes_b54 at hT
  refine gx_iconst (pc := 54) (0 : Int32) d_Mo_fitsTypes_54 (by decide) ?_
  refine gx_istore (pc := 55) [(4, .int (0 : Int32)), (0, .ref (E.1 45)), (1, .int x1), (2, .int x2)] d_Mo_fitsTypes_55 (Nat.le_of_ble_eq_true rfl) rfl ?_
  refine gx_sub [1, 2, 3, 0] rfl ?_
  exact fx_Mo_fitsTypes_b57_w  tx_fu σ x1 x2 (0 : Int32) _ hT
set_option maxRecDepth 100000 in
set_option maxHeartbeats 4000000 in
theorem fx_Mo_fitsTypes_b27_w {l : Launch} {E : tx_E} (σ : tx_St) (x1 : Int32) (x2 : Int32) (x3 : Int32) (t : Int32 × tx_St) (hT : fx_Mo_fitsTypes_b27 σ x1 x2 x3 = some t) : gx l E mi_Mo_fitsTypes (some (.int t.1), t.2) σ [(0, .ref (E.1 45)), (1, .int x1), (2, .int x2), (3, .int x3)] 27 [] := by
  unfold fx_Mo_fitsTypes_b27 at hT
  refine gx_aload_n (pc := 27) 0 d_Mo_fitsTypes_27 rfl rfl ?_
  refine gx_getR (pc := 28) 54 fl_Mo_34 d_Mo_fitsTypes_28 (rfl) (by decide) rfl ?_
  refine gx_iload_n (pc := 31) 1 d_Mo_fitsTypes_31 rfl rfl ?_
  obtain ⟨v4, gv4, iv4, hT⟩ := tx_rd_some hT
  refine gx_iald (pc := 32) v4 d_Mo_fitsTypes_32 (rfl) iv4 gv4 ?_
  refine gx_if_lt (pc := 33) 54 d_Mo_fitsTypes_33 rfl (fun h5 => ?_) (fun h5 => ?_)
  · have hT := tx_ifp h5 hT
    refine gx_sub [0, 1, 2] rfl ?_
    exact fx_Mo_fitsTypes_b54_w  σ x1 x2 _ hT
  · have hT := tx_ifn h5 hT
    refine gx_iload_n (pc := 36) 2 d_Mo_fitsTypes_36 rfl rfl ?_
    refine gx_aload_n (pc := 37) 0 d_Mo_fitsTypes_37 rfl rfl ?_
    refine gx_getR (pc := 38) 54 fl_Mo_34 d_Mo_fitsTypes_38 (rfl) (by decide) rfl ?_
    refine gx_iload_n (pc := 41) 1 d_Mo_fitsTypes_41 rfl rfl ?_
    obtain ⟨v6, gv6, iv6, hT⟩ := tx_rd_some hT
    refine gx_iald (pc := 42) v6 d_Mo_fitsTypes_42 (rfl) iv6 gv6 ?_
    refine gx_iconst (pc := 43) (1 : Int32) d_Mo_fitsTypes_43 (by decide) ?_
    refine gx_iadd (pc := 44) d_Mo_fitsTypes_44 ?_
    refine gx_bipush (pc := 45) (16 : Int32) d_Mo_fitsTypes_45 (by decide) ?_
    refine gx_iconst (pc := 47) (4 : Int32) d_Mo_fitsTypes_47 (by decide) ?_
    refine gx_iload_n (pc := 48) 3 d_Mo_fitsTypes_48 rfl rfl ?_
    refine gx_imul (pc := 49) d_Mo_fitsTypes_49 ?_
    refine gx_iadd (pc := 50) d_Mo_fitsTypes_50 ?_
    refine gx_ishl (pc := 51) d_Mo_fitsTypes_51 ?_
    refine gx_ior (pc := 52) d_Mo_fitsTypes_52 ?_
    refine gx_istore_n (pc := 53) [(2, .int (x2 ||| ((v6 + (1 : Int32)) <<< (((16 : Int32) + ((4 : Int32) * x3)) &&& 31)))), (0, .ref (E.1 45)), (1, .int x1), (3, .int x3)] d_Mo_fitsTypes_53 rfl (Nat.le_of_ble_eq_true rfl) rfl ?_
    refine gx_sub [1, 2, 0] rfl ?_
    exact fx_Mo_fitsTypes_b54_w  σ x1 (x2 ||| ((v6 + (1 : Int32)) <<< (((16 : Int32) + ((4 : Int32) * x3)) &&& 31))) _ hT
set_option maxRecDepth 100000 in
set_option maxHeartbeats 4000000 in
theorem fx_Mo_fitsTypes_c (l : Launch) (E : tx_E) (σ : tx_St) (x1 : Int32) (t : Int32 × tx_St) (hT : fx_Mo_fitsTypes σ x1 = some t) : tx_MX l E y_Mo_fitsTypes mi_Mo_fitsTypes (some (.int t.1), t.2) [.ref (E.1 45), .int x1] σ := by
  refine tx_MX_of (by decide) rfl (Nat.le_of_ble_eq_true rfl) ?_
  show gx l E mi_Mo_fitsTypes (some (.int t.1), t.2) σ [(0, .ref (E.1 45)), (1, .int x1)] 0 []
  unfold fx_Mo_fitsTypes at hT
  refine gx_iconst (pc := 0) (0 : Int32) d_Mo_fitsTypes_0 (by decide) ?_
  refine gx_istore_n (pc := 1) [(2, .int (0 : Int32)), (0, .ref (E.1 45)), (1, .int x1)] d_Mo_fitsTypes_1 rfl (Nat.le_of_ble_eq_true rfl) rfl ?_
  refine gx_iconst (pc := 2) (0 : Int32) d_Mo_fitsTypes_2 (by decide) ?_
  refine gx_istore_n (pc := 3) [(3, .int (0 : Int32)), (2, .int (0 : Int32)), (0, .ref (E.1 45)), (1, .int x1)] d_Mo_fitsTypes_3 rfl (Nat.le_of_ble_eq_true rfl) rfl ?_
  refine gx_aload_n (pc := 4) 2 d_Mo_fitsTypes_4 rfl rfl ?_
  refine gx_getR (pc := 5) 52 fl_Mo_28 d_Mo_fitsTypes_5 (rfl) (by decide) rfl ?_
  refine gx_iload_n (pc := 8) 3 d_Mo_fitsTypes_8 rfl rfl ?_
  obtain ⟨v1, gv1, iv1, hT⟩ := tx_rd_some hT
  refine gx_iald (pc := 9) v1 d_Mo_fitsTypes_9 (rfl) iv1 gv1 ?_
  refine gx_if_ne (pc := 10) 27 d_Mo_fitsTypes_10 rfl (fun h2 => ?_) (fun h2 => ?_)
  · have hT := tx_ifn h2 hT
    refine gx_sub [2, 3, 1, 0] rfl ?_
    exact fx_Mo_fitsTypes_b27_w  σ x1 (0 : Int32) (0 : Int32) _ hT
  · have hT := tx_ifp h2 hT
    refine gx_iconst (pc := 13) (3 : Int32) d_Mo_fitsTypes_13 (by decide) ?_
    refine gx_aload_n (pc := 14) 2 d_Mo_fitsTypes_14 rfl rfl ?_
    refine gx_getR (pc := 15) 51 fl_Mo_25 d_Mo_fitsTypes_15 (rfl) (by decide) rfl ?_
    refine gx_iload_n (pc := 18) 3 d_Mo_fitsTypes_18 rfl rfl ?_
    obtain ⟨v3, gv3, iv3, hT⟩ := tx_rd_some hT
    refine gx_iald (pc := 19) v3 d_Mo_fitsTypes_19 (rfl) iv3 gv3 ?_
    refine gx_iadd (pc := 20) d_Mo_fitsTypes_20 ?_
    refine gx_bipush (pc := 21) (16 : Int32) d_Mo_fitsTypes_21 (by decide) ?_
    refine gx_ishl (pc := 23) d_Mo_fitsTypes_23 ?_
    refine gx_istore_n (pc := 24) [(2, .int (((3 : Int32) + v3) <<< ((16 : Int32) &&& 31))), (3, .int (0 : Int32)), (0, .ref (E.1 45)), (1, .int x1)] d_Mo_fitsTypes_24 rfl (Nat.le_of_ble_eq_true rfl) rfl ?_
    refine gx_iconst (pc := 25) (1 : Int32) d_Mo_fitsTypes_25 (by decide) ?_
    refine gx_istore_n (pc := 26) [(3, .int (1 : Int32)), (2, .int (((3 : Int32) + v3) <<< ((16 : Int32) &&& 31))), (0, .ref (E.1 45)), (1, .int x1)] d_Mo_fitsTypes_26 rfl (Nat.le_of_ble_eq_true rfl) rfl ?_
    refine gx_sub [2, 3, 1, 0] rfl ?_
    exact fx_Mo_fitsTypes_b27_w  σ x1 (((3 : Int32) + v3) <<< ((16 : Int32) &&& 31)) (1 : Int32) _ hT
theorem d_Mo_wild_0 : decode c_Mo_wild 0 = .ok (.aload_n 0, 1) := by decide +kernel
theorem d_Mo_wild_1 : decode c_Mo_wild 1 = .ok (.getfield 43, 3) := by decide +kernel
theorem d_Mo_wild_4 : decode c_Mo_wild 4 = .ok (.iload_n 2, 1) := by decide +kernel
theorem d_Mo_wild_5 : decode c_Mo_wild 5 = .ok (.iaload, 1) := by decide +kernel
theorem d_Mo_wild_6 : decode c_Mo_wild 6 = .ok (.istore_n 3, 1) := by decide +kernel
theorem d_Mo_wild_7 : decode c_Mo_wild 7 = .ok (.aload_n 0, 1) := by decide +kernel
theorem d_Mo_wild_8 : decode c_Mo_wild 8 = .ok (.getfield 46, 3) := by decide +kernel
theorem d_Mo_wild_11 : decode c_Mo_wild 11 = .ok (.iload_n 2, 1) := by decide +kernel
theorem d_Mo_wild_12 : decode c_Mo_wild 12 = .ok (.iaload, 1) := by decide +kernel
theorem d_Mo_wild_13 : decode c_Mo_wild 13 = .ok (.istore 4, 2) := by decide +kernel
theorem d_Mo_wild_15 : decode c_Mo_wild 15 = .ok (.iload_n 1, 1) := by decide +kernel
theorem d_Mo_wild_16 : decode c_Mo_wild 16 = .ok (.iconst (5), 1) := by decide +kernel
theorem d_Mo_wild_17 : decode c_Mo_wild 17 = .ok (.if_icmp .ne (21), 3) := by decide +kernel
theorem d_Mo_wild_20 : decode c_Mo_wild 20 = .ok (.iload_n 3, 1) := by decide +kernel
theorem d_Mo_wild_21 : decode c_Mo_wild 21 = .ok (.bipush (18), 2) := by decide +kernel
theorem d_Mo_wild_23 : decode c_Mo_wild 23 = .ok (.if_icmp .ne (13), 3) := by decide +kernel
theorem d_Mo_wild_26 : decode c_Mo_wild 26 = .ok (.iload 4, 2) := by decide +kernel
theorem d_Mo_wild_28 : decode c_Mo_wild 28 = .ok (.iconst (2), 1) := by decide +kernel
theorem d_Mo_wild_29 : decode c_Mo_wild 29 = .ok (.if_icmp .lt (7), 3) := by decide +kernel
theorem d_Mo_wild_32 : decode c_Mo_wild 32 = .ok (.iconst (1), 1) := by decide +kernel
theorem d_Mo_wild_33 : decode c_Mo_wild 33 = .ok (.goto (4), 3) := by decide +kernel
theorem d_Mo_wild_36 : decode c_Mo_wild 36 = .ok (.iconst (0), 1) := by decide +kernel
theorem d_Mo_wild_37 : decode c_Mo_wild 37 = .ok (.ireturn, 1) := by decide +kernel
theorem d_Mo_wild_38 : decode c_Mo_wild 38 = .ok (.iload_n 1, 1) := by decide +kernel
theorem d_Mo_wild_39 : decode c_Mo_wild 39 = .ok (.bipush (6), 2) := by decide +kernel
theorem d_Mo_wild_41 : decode c_Mo_wild 41 = .ok (.if_icmp .ne (30), 3) := by decide +kernel
theorem d_Mo_wild_44 : decode c_Mo_wild 44 = .ok (.iload_n 3, 1) := by decide +kernel
theorem d_Mo_wild_45 : decode c_Mo_wild 45 = .ok (.bipush (9), 2) := by decide +kernel
theorem d_Mo_wild_47 : decode c_Mo_wild 47 = .ok (.if_icmp .eq (9), 3) := by decide +kernel
theorem d_Mo_wild_50 : decode c_Mo_wild 50 = .ok (.iload_n 3, 1) := by decide +kernel
theorem d_Mo_wild_51 : decode c_Mo_wild 51 = .ok (.bipush (11), 2) := by decide +kernel
theorem d_Mo_wild_53 : decode c_Mo_wild 53 = .ok (.if_icmp .ne (16), 3) := by decide +kernel
theorem d_Mo_wild_56 : decode c_Mo_wild 56 = .ok (.aload_n 0, 1) := by decide +kernel
theorem d_Mo_wild_57 : decode c_Mo_wild 57 = .ok (.iload 4, 2) := by decide +kernel
theorem d_Mo_wild_59 : decode c_Mo_wild 59 = .ok (.invokevirtual 182, 3) := by decide +kernel
theorem d_Mo_wild_62 : decode c_Mo_wild 62 = .ok (.ifCond .eq (7), 3) := by decide +kernel
theorem d_Mo_wild_65 : decode c_Mo_wild 65 = .ok (.iconst (1), 1) := by decide +kernel
theorem d_Mo_wild_66 : decode c_Mo_wild 66 = .ok (.goto (4), 3) := by decide +kernel
theorem d_Mo_wild_69 : decode c_Mo_wild 69 = .ok (.iconst (0), 1) := by decide +kernel
theorem d_Mo_wild_70 : decode c_Mo_wild 70 = .ok (.ireturn, 1) := by decide +kernel
theorem d_Mo_wild_71 : decode c_Mo_wild 71 = .ok (.iload_n 3, 1) := by decide +kernel
theorem d_Mo_wild_72 : decode c_Mo_wild 72 = .ok (.bipush (16), 2) := by decide +kernel
theorem d_Mo_wild_74 : decode c_Mo_wild 74 = .ok (.if_icmp .ne (41), 3) := by decide +kernel
theorem d_Mo_wild_77 : decode c_Mo_wild 77 = .ok (.aload_n 0, 1) := by decide +kernel
theorem d_Mo_wild_78 : decode c_Mo_wild 78 = .ok (.aload_n 0, 1) := by decide +kernel
theorem d_Mo_wild_79 : decode c_Mo_wild 79 = .ok (.getfield 49, 3) := by decide +kernel
theorem d_Mo_wild_82 : decode c_Mo_wild 82 = .ok (.iload_n 2, 1) := by decide +kernel
theorem d_Mo_wild_83 : decode c_Mo_wild 83 = .ok (.iaload, 1) := by decide +kernel
theorem d_Mo_wild_84 : decode c_Mo_wild 84 = .ok (.iconst (0), 1) := by decide +kernel
theorem d_Mo_wild_85 : decode c_Mo_wild 85 = .ok (.invokestatic 128, 3) := by decide +kernel
theorem d_Mo_wild_88 : decode c_Mo_wild 88 = .ok (.invokevirtual 188, 3) := by decide +kernel
theorem d_Mo_wild_91 : decode c_Mo_wild 91 = .ok (.ifCond .ne (20), 3) := by decide +kernel
theorem d_Mo_wild_94 : decode c_Mo_wild 94 = .ok (.aload_n 0, 1) := by decide +kernel
theorem d_Mo_wild_95 : decode c_Mo_wild 95 = .ok (.aload_n 0, 1) := by decide +kernel
theorem d_Mo_wild_96 : decode c_Mo_wild 96 = .ok (.getfield 49, 3) := by decide +kernel
theorem d_Mo_wild_99 : decode c_Mo_wild 99 = .ok (.iload_n 2, 1) := by decide +kernel
theorem d_Mo_wild_100 : decode c_Mo_wild 100 = .ok (.iaload, 1) := by decide +kernel
theorem d_Mo_wild_101 : decode c_Mo_wild 101 = .ok (.iconst (1), 1) := by decide +kernel
theorem d_Mo_wild_102 : decode c_Mo_wild 102 = .ok (.invokestatic 128, 3) := by decide +kernel
theorem d_Mo_wild_105 : decode c_Mo_wild 105 = .ok (.invokevirtual 188, 3) := by decide +kernel
theorem d_Mo_wild_108 : decode c_Mo_wild 108 = .ok (.ifCond .eq (7), 3) := by decide +kernel
theorem d_Mo_wild_111 : decode c_Mo_wild 111 = .ok (.iconst (1), 1) := by decide +kernel
theorem d_Mo_wild_112 : decode c_Mo_wild 112 = .ok (.goto (4), 3) := by decide +kernel
theorem d_Mo_wild_115 : decode c_Mo_wild 115 = .ok (.iconst (0), 1) := by decide +kernel
theorem d_Mo_wild_116 : decode c_Mo_wild 116 = .ok (.ireturn, 1) := by decide +kernel
def fx_Mo_wild_b116 (σ : tx_St) (s0 : Int32) : Option (Int32 × tx_St) := tx_rz s0 σ
def fx_Mo_wild_b115 (σ : tx_St) : Option (Int32 × tx_St) := fx_Mo_wild_b116  σ (0 : Int32)
def fx_Mo_wild_b111 (σ : tx_St) : Option (Int32 × tx_St) := fx_Mo_wild_b116  σ (1 : Int32)
def fx_Mo_wild_b70 (σ : tx_St) (s0 : Int32) : Option (Int32 × tx_St) := tx_rz s0 σ
def fx_Mo_wild_b69 (σ : tx_St) : Option (Int32 × tx_St) := fx_Mo_wild_b70  σ (0 : Int32)
def fx_Mo_wild_b56 (σ : tx_St) (x4 : Int32) : Option (Int32 × tx_St) := tx_ci (fx_Mo_isFinal σ x4) fun r23 σ22 => (if r23 = 0 then fx_Mo_wild_b69  σ22 else fx_Mo_wild_b70  σ22 (1 : Int32))
def fx_Mo_wild_b37 (σ : tx_St) (s0 : Int32) : Option (Int32 × tx_St) := tx_rz s0 σ
def fx_Mo_wild_b36 (σ : tx_St) : Option (Int32 × tx_St) := fx_Mo_wild_b37  σ (0 : Int32)
def fx_Mo_wild (σ : tx_St) (x1 : Int32) (x2 : Int32) : Option (Int32 × tx_St) := tx_rd σ 57 96 x2 fun v1 => tx_rd σ 58 96 x2 fun v2 => (if x1 = (5 : Int32) then (if v1 = (18 : Int32) then (if v2 < (2 : Int32) then fx_Mo_wild_b36  σ else fx_Mo_wild_b37  σ (1 : Int32)) else fx_Mo_wild_b36  σ) else (if x1 = (6 : Int32) then (if v1 = (9 : Int32) then fx_Mo_wild_b56  σ v2 else (if v1 = (11 : Int32) then fx_Mo_wild_b56  σ v2 else fx_Mo_wild_b69  σ)) else (if v1 = (16 : Int32) then tx_rd σ 59 96 x2 fun v6 => tx_ci (fx_Mo_typeAt σ v6 (0 : Int32)) fun r8 σ7 => tx_ci (fx_Mo_immutable σ7 r8) fun r10 σ9 => (if r10 = 0 then tx_rd σ9 59 96 x2 fun v12 => tx_ci (fx_Mo_typeAt σ9 v12 (1 : Int32)) fun r14 σ13 => tx_ci (fx_Mo_immutable σ13 r14) fun r16 σ15 => (if r16 = 0 then fx_Mo_wild_b115  σ15 else fx_Mo_wild_b111  σ15) else fx_Mo_wild_b111  σ9) else fx_Mo_wild_b115  σ)))
set_option maxRecDepth 100000 in
set_option maxHeartbeats 4000000 in
theorem fx_Mo_wild_b116_w {l : Launch} {E : tx_E} (σ : tx_St) (s0 : Int32) (t : Int32 × tx_St) (hT : fx_Mo_wild_b116 σ s0 = some t) : gx l E mi_Mo_wild (some (.int t.1), t.2) σ [] 116 [.int s0] := by
  unfold fx_Mo_wild_b116 at hT
  obtain ⟨hz, hT⟩ := tx_rz_some hT
  cases hT
  exact gx_zret (pc := 116) d_Mo_wild_116 rfl hz rfl
set_option maxRecDepth 100000 in
set_option maxHeartbeats 4000000 in
theorem fx_Mo_wild_b115_w {l : Launch} {E : tx_E} (σ : tx_St) (t : Int32 × tx_St) (hT : fx_Mo_wild_b115 σ  = some t) : gx l E mi_Mo_wild (some (.int t.1), t.2) σ [] 115 [] := by
  unfold fx_Mo_wild_b115 at hT
  refine gx_iconst (pc := 115) (0 : Int32) d_Mo_wild_115 (by decide) ?_
  exact fx_Mo_wild_b116_w  σ (0 : Int32) _ hT
set_option maxRecDepth 100000 in
set_option maxHeartbeats 4000000 in
theorem fx_Mo_wild_b111_w {l : Launch} {E : tx_E} (σ : tx_St) (t : Int32 × tx_St) (hT : fx_Mo_wild_b111 σ  = some t) : gx l E mi_Mo_wild (some (.int t.1), t.2) σ [] 111 [] := by
  unfold fx_Mo_wild_b111 at hT
  refine gx_iconst (pc := 111) (1 : Int32) d_Mo_wild_111 (by decide) ?_
  refine gx_goto (pc := 112) 116 d_Mo_wild_112 rfl ?_
  exact fx_Mo_wild_b116_w  σ (1 : Int32) _ hT
set_option maxRecDepth 100000 in
set_option maxHeartbeats 4000000 in
theorem fx_Mo_wild_b70_w {l : Launch} {E : tx_E} (σ : tx_St) (s0 : Int32) (t : Int32 × tx_St) (hT : fx_Mo_wild_b70 σ s0 = some t) : gx l E mi_Mo_wild (some (.int t.1), t.2) σ [] 70 [.int s0] := by
  unfold fx_Mo_wild_b70 at hT
  obtain ⟨hz, hT⟩ := tx_rz_some hT
  cases hT
  exact gx_zret (pc := 70) d_Mo_wild_70 rfl hz rfl
set_option maxRecDepth 100000 in
set_option maxHeartbeats 4000000 in
theorem fx_Mo_wild_b69_w {l : Launch} {E : tx_E} (σ : tx_St) (t : Int32 × tx_St) (hT : fx_Mo_wild_b69 σ  = some t) : gx l E mi_Mo_wild (some (.int t.1), t.2) σ [] 69 [] := by
  unfold fx_Mo_wild_b69 at hT
  refine gx_iconst (pc := 69) (0 : Int32) d_Mo_wild_69 (by decide) ?_
  exact fx_Mo_wild_b70_w  σ (0 : Int32) _ hT
set_option maxRecDepth 100000 in
set_option maxHeartbeats 4000000 in
theorem fx_Mo_wild_b56_w {l : Launch} {E : tx_E} (σ : tx_St) (x4 : Int32) (t : Int32 × tx_St) (hT : fx_Mo_wild_b56 σ x4 = some t) : gx l E mi_Mo_wild (some (.int t.1), t.2) σ [(0, .ref (E.1 45)), (4, .int x4)] 56 [] := by
  unfold fx_Mo_wild_b56 at hT
  refine gx_aload_n (pc := 56) 0 d_Mo_wild_56 rfl rfl ?_
  refine gx_iload (pc := 57) 1 d_Mo_wild_57 rfl ?_
  obtain ⟨r23, σ22, cσ22, hT⟩ := tx_ci_some hT
  refine gx_callV (pc := 59) (As := [.int x4]) (rest := []) cm_Mo_isFinal lk_Mo_182 (fx_Mo_isFinal_c l E σ x4 _ cσ22) (rfl) (by decide) rfl rfl tx_fi_Mo_wild_Mo_isFinal (Nat.le_of_ble_eq_true rfl) d_Mo_wild_59 ?_
  change gx l E mi_Mo_wild _ σ22 [(0, .ref (E.1 45)), (4, .int x4)] 62 [.int r23]
  refine gx_if_eq (pc := 62) 69 d_Mo_wild_62 rfl (fun h24 => ?_) (fun h24 => ?_)
  · have hT := tx_ifp h24 hT
    refine gx_sub [] rfl ?_
    exact fx_Mo_wild_b69_w  σ22 _ hT
  · have hT := tx_ifn h24 hT
    refine gx_iconst (pc := 65) (1 : Int32) d_Mo_wild_65 (by decide) ?_
    refine gx_goto (pc := 66) 70 d_Mo_wild_66 rfl ?_
    refine gx_sub [] rfl ?_
    exact fx_Mo_wild_b70_w  σ22 (1 : Int32) _ hT
set_option maxRecDepth 100000 in
set_option maxHeartbeats 4000000 in
theorem fx_Mo_wild_b37_w {l : Launch} {E : tx_E} (σ : tx_St) (s0 : Int32) (t : Int32 × tx_St) (hT : fx_Mo_wild_b37 σ s0 = some t) : gx l E mi_Mo_wild (some (.int t.1), t.2) σ [] 37 [.int s0] := by
  unfold fx_Mo_wild_b37 at hT
  obtain ⟨hz, hT⟩ := tx_rz_some hT
  cases hT
  exact gx_zret (pc := 37) d_Mo_wild_37 rfl hz rfl
set_option maxRecDepth 100000 in
set_option maxHeartbeats 4000000 in
theorem fx_Mo_wild_b36_w {l : Launch} {E : tx_E} (σ : tx_St) (t : Int32 × tx_St) (hT : fx_Mo_wild_b36 σ  = some t) : gx l E mi_Mo_wild (some (.int t.1), t.2) σ [] 36 [] := by
  unfold fx_Mo_wild_b36 at hT
  refine gx_iconst (pc := 36) (0 : Int32) d_Mo_wild_36 (by decide) ?_
  exact fx_Mo_wild_b37_w  σ (0 : Int32) _ hT
set_option maxRecDepth 100000 in
set_option maxHeartbeats 4000000 in
theorem fx_Mo_wild_c (l : Launch) (E : tx_E) (σ : tx_St) (x1 : Int32) (x2 : Int32) (t : Int32 × tx_St) (hT : fx_Mo_wild σ x1 x2 = some t) : tx_MX l E y_Mo_wild mi_Mo_wild (some (.int t.1), t.2) [.ref (E.1 45), .int x1, .int x2] σ := by
  refine tx_MX_of (by decide) rfl (Nat.le_of_ble_eq_true rfl) ?_
  show gx l E mi_Mo_wild (some (.int t.1), t.2) σ [(0, .ref (E.1 45)), (1, .int x1), (2, .int x2)] 0 []
  unfold fx_Mo_wild at hT
  refine gx_aload_n (pc := 0) 0 d_Mo_wild_0 rfl rfl ?_
  refine gx_getR (pc := 1) 57 fl_Mo_43 d_Mo_wild_1 (rfl) (by decide) rfl ?_
  refine gx_iload_n (pc := 4) 2 d_Mo_wild_4 rfl rfl ?_
  obtain ⟨v1, gv1, iv1, hT⟩ := tx_rd_some hT
  refine gx_iald (pc := 5) v1 d_Mo_wild_5 (rfl) iv1 gv1 ?_
  refine gx_istore_n (pc := 6) [(3, .int v1), (0, .ref (E.1 45)), (1, .int x1), (2, .int x2)] d_Mo_wild_6 rfl (Nat.le_of_ble_eq_true rfl) rfl ?_
  refine gx_aload_n (pc := 7) 1 d_Mo_wild_7 rfl rfl ?_
  refine gx_getR (pc := 8) 58 fl_Mo_46 d_Mo_wild_8 (rfl) (by decide) rfl ?_
  refine gx_iload_n (pc := 11) 3 d_Mo_wild_11 rfl rfl ?_
  obtain ⟨v2, gv2, iv2, hT⟩ := tx_rd_some hT
  refine gx_iald (pc := 12) v2 d_Mo_wild_12 (rfl) iv2 gv2 ?_
  refine gx_istore (pc := 13) [(4, .int v2), (3, .int v1), (0, .ref (E.1 45)), (1, .int x1), (2, .int x2)] d_Mo_wild_13 (Nat.le_of_ble_eq_true rfl) rfl ?_
  refine gx_iload_n (pc := 15) 3 d_Mo_wild_15 rfl rfl ?_
  refine gx_iconst (pc := 16) (5 : Int32) d_Mo_wild_16 (by decide) ?_
  refine gx_icmp_ne (pc := 17) 38 d_Mo_wild_17 rfl (fun h3 => ?_) (fun h3 => ?_)
  · have hT := tx_ifn h3 hT
    refine gx_iload_n (pc := 38) 3 d_Mo_wild_38 rfl rfl ?_
    refine gx_bipush (pc := 39) (6 : Int32) d_Mo_wild_39 (by decide) ?_
    refine gx_icmp_ne (pc := 41) 71 d_Mo_wild_41 rfl (fun h4 => ?_) (fun h4 => ?_)
    · have hT := tx_ifn h4 hT
      refine gx_iload_n (pc := 71) 1 d_Mo_wild_71 rfl rfl ?_
      refine gx_bipush (pc := 72) (16 : Int32) d_Mo_wild_72 (by decide) ?_
      refine gx_icmp_ne (pc := 74) 115 d_Mo_wild_74 rfl (fun h5 => ?_) (fun h5 => ?_)
      · have hT := tx_ifn h5 hT
        refine gx_sub [] rfl ?_
        exact fx_Mo_wild_b115_w  σ _ hT
      · have hT := tx_ifp h5 hT
        refine gx_aload_n (pc := 77) 2 d_Mo_wild_77 rfl rfl ?_
        refine gx_aload_n (pc := 78) 2 d_Mo_wild_78 rfl rfl ?_
        refine gx_getR (pc := 79) 59 fl_Mo_49 d_Mo_wild_79 (rfl) (by decide) rfl ?_
        refine gx_iload_n (pc := 82) 4 d_Mo_wild_82 rfl rfl ?_
        obtain ⟨v6, gv6, iv6, hT⟩ := tx_rd_some hT
        refine gx_iald (pc := 83) v6 d_Mo_wild_83 (rfl) iv6 gv6 ?_
        refine gx_iconst (pc := 84) (0 : Int32) d_Mo_wild_84 (by decide) ?_
        obtain ⟨r8, σ7, cσ7, hT⟩ := tx_ci_some hT
        refine gx_callS (pc := 85) (As := [.int v6, .int (0 : Int32)]) (rest := [.ref (E.1 45)]) cm_Mo_typeAt lk_Mo_128 (fx_Mo_typeAt_c l E σ v6 (0 : Int32) _ cσ7) rfl rfl tx_fi_Mo_wild_Mo_typeAt (Nat.le_of_ble_eq_true rfl) d_Mo_wild_85 ?_
        change gx l E mi_Mo_wild _ σ7 [(4, .int v2), (3, .int v1), (0, .ref (E.1 45)), (1, .int x1), (2, .int x2)] 88 [.int r8, .ref (E.1 45)]
        obtain ⟨r10, σ9, cσ9, hT⟩ := tx_ci_some hT
        refine gx_callV (pc := 88) (As := [.int r8]) (rest := []) cm_Mo_immutable lk_Mo_188 (fx_Mo_immutable_c l E σ7 r8 _ cσ9) (rfl) (by decide) rfl rfl tx_fi_Mo_wild_Mo_immutable (Nat.le_of_ble_eq_true rfl) d_Mo_wild_88 ?_
        change gx l E mi_Mo_wild _ σ9 [(4, .int v2), (3, .int v1), (0, .ref (E.1 45)), (1, .int x1), (2, .int x2)] 91 [.int r10]
        refine gx_if_ne (pc := 91) 111 d_Mo_wild_91 rfl (fun h11 => ?_) (fun h11 => ?_)
        · have hT := tx_ifn h11 hT
          refine gx_sub [] rfl ?_
          exact fx_Mo_wild_b111_w  σ9 _ hT
        · have hT := tx_ifp h11 hT
          refine gx_aload_n (pc := 94) 2 d_Mo_wild_94 rfl rfl ?_
          refine gx_aload_n (pc := 95) 2 d_Mo_wild_95 rfl rfl ?_
          refine gx_getR (pc := 96) 59 fl_Mo_49 d_Mo_wild_96 (rfl) (by decide) rfl ?_
          refine gx_iload_n (pc := 99) 4 d_Mo_wild_99 rfl rfl ?_
          obtain ⟨v12, gv12, iv12, hT⟩ := tx_rd_some hT
          refine gx_iald (pc := 100) v12 d_Mo_wild_100 (rfl) iv12 gv12 ?_
          refine gx_iconst (pc := 101) (1 : Int32) d_Mo_wild_101 (by decide) ?_
          obtain ⟨r14, σ13, cσ13, hT⟩ := tx_ci_some hT
          refine gx_callS (pc := 102) (As := [.int v12, .int (1 : Int32)]) (rest := [.ref (E.1 45)]) cm_Mo_typeAt lk_Mo_128 (fx_Mo_typeAt_c l E σ9 v12 (1 : Int32) _ cσ13) rfl rfl tx_fi_Mo_wild_Mo_typeAt (Nat.le_of_ble_eq_true rfl) d_Mo_wild_102 ?_
          change gx l E mi_Mo_wild _ σ13 [(4, .int v2), (3, .int v1), (0, .ref (E.1 45)), (1, .int x1), (2, .int x2)] 105 [.int r14, .ref (E.1 45)]
          obtain ⟨r16, σ15, cσ15, hT⟩ := tx_ci_some hT
          refine gx_callV (pc := 105) (As := [.int r14]) (rest := []) cm_Mo_immutable lk_Mo_188 (fx_Mo_immutable_c l E σ13 r14 _ cσ15) (rfl) (by decide) rfl rfl tx_fi_Mo_wild_Mo_immutable (Nat.le_of_ble_eq_true rfl) d_Mo_wild_105 ?_
          change gx l E mi_Mo_wild _ σ15 [(4, .int v2), (3, .int v1), (0, .ref (E.1 45)), (1, .int x1), (2, .int x2)] 108 [.int r16]
          refine gx_if_eq (pc := 108) 115 d_Mo_wild_108 rfl (fun h17 => ?_) (fun h17 => ?_)
          · have hT := tx_ifp h17 hT
            refine gx_sub [] rfl ?_
            exact fx_Mo_wild_b115_w  σ15 _ hT
          · have hT := tx_ifn h17 hT
            refine gx_sub [] rfl ?_
            exact fx_Mo_wild_b111_w  σ15 _ hT
    · have hT := tx_ifp h4 hT
      refine gx_iload_n (pc := 44) 1 d_Mo_wild_44 rfl rfl ?_
      refine gx_bipush (pc := 45) (9 : Int32) d_Mo_wild_45 (by decide) ?_
      refine gx_icmp_eq (pc := 47) 56 d_Mo_wild_47 rfl (fun h18 => ?_) (fun h18 => ?_)
      · have hT := tx_ifp h18 hT
        refine gx_sub [2, 0] rfl ?_
        exact fx_Mo_wild_b56_w  σ v2 _ hT
      · have hT := tx_ifn h18 hT
        refine gx_iload_n (pc := 50) 1 d_Mo_wild_50 rfl rfl ?_
        refine gx_bipush (pc := 51) (11 : Int32) d_Mo_wild_51 (by decide) ?_
        refine gx_icmp_ne (pc := 53) 69 d_Mo_wild_53 rfl (fun h19 => ?_) (fun h19 => ?_)
        · have hT := tx_ifn h19 hT
          refine gx_sub [] rfl ?_
          exact fx_Mo_wild_b69_w  σ _ hT
        · have hT := tx_ifp h19 hT
          refine gx_sub [2, 0] rfl ?_
          exact fx_Mo_wild_b56_w  σ v2 _ hT
  · have hT := tx_ifp h3 hT
    refine gx_iload_n (pc := 20) 1 d_Mo_wild_20 rfl rfl ?_
    refine gx_bipush (pc := 21) (18 : Int32) d_Mo_wild_21 (by decide) ?_
    refine gx_icmp_ne (pc := 23) 36 d_Mo_wild_23 rfl (fun h20 => ?_) (fun h20 => ?_)
    · have hT := tx_ifn h20 hT
      refine gx_sub [] rfl ?_
      exact fx_Mo_wild_b36_w  σ _ hT
    · have hT := tx_ifp h20 hT
      refine gx_iload (pc := 26) 0 d_Mo_wild_26 rfl ?_
      refine gx_iconst (pc := 28) (2 : Int32) d_Mo_wild_28 (by decide) ?_
      refine gx_icmp_lt (pc := 29) 36 d_Mo_wild_29 rfl (fun h21 => ?_) (fun h21 => ?_)
      · have hT := tx_ifp h21 hT
        refine gx_sub [] rfl ?_
        exact fx_Mo_wild_b36_w  σ _ hT
      · have hT := tx_ifn h21 hT
        refine gx_iconst (pc := 32) (1 : Int32) d_Mo_wild_32 (by decide) ?_
        refine gx_goto (pc := 33) 37 d_Mo_wild_33 rfl ?_
        refine gx_sub [] rfl ?_
        exact fx_Mo_wild_b37_w  σ (1 : Int32) _ hT
theorem d_Mo_broken_0 : decode c_Mo_broken 0 = .ok (.iconst (0), 1) := by decide +kernel
theorem d_Mo_broken_1 : decode c_Mo_broken 1 = .ok (.istore_n 1, 1) := by decide +kernel
theorem d_Mo_broken_2 : decode c_Mo_broken 2 = .ok (.iload_n 1, 1) := by decide +kernel
theorem d_Mo_broken_3 : decode c_Mo_broken 3 = .ok (.aload_n 0, 1) := by decide +kernel
theorem d_Mo_broken_4 : decode c_Mo_broken 4 = .ok (.getfield 101, 3) := by decide +kernel
theorem d_Mo_broken_7 : decode c_Mo_broken 7 = .ok (.if_icmp .ge (23), 3) := by decide +kernel
theorem d_Mo_broken_10 : decode c_Mo_broken 10 = .ok (.aload_n 0, 1) := by decide +kernel
theorem d_Mo_broken_11 : decode c_Mo_broken 11 = .ok (.iload_n 1, 1) := by decide +kernel
theorem d_Mo_broken_12 : decode c_Mo_broken 12 = .ok (.invokevirtual 191, 3) := by decide +kernel
theorem d_Mo_broken_15 : decode c_Mo_broken 15 = .ok (.ifCond .eq (9), 3) := by decide +kernel
theorem d_Mo_broken_18 : decode c_Mo_broken 18 = .ok (.sipush (1000), 3) := by decide +kernel
theorem d_Mo_broken_21 : decode c_Mo_broken 21 = .ok (.iload_n 1, 1) := by decide +kernel
theorem d_Mo_broken_22 : decode c_Mo_broken 22 = .ok (.iadd, 1) := by decide +kernel
theorem d_Mo_broken_23 : decode c_Mo_broken 23 = .ok (.ireturn, 1) := by decide +kernel
theorem d_Mo_broken_24 : decode c_Mo_broken 24 = .ok (.iinc 1 (1), 3) := by decide +kernel
theorem d_Mo_broken_27 : decode c_Mo_broken 27 = .ok (.goto (-25), 3) := by decide +kernel
theorem d_Mo_broken_30 : decode c_Mo_broken 30 = .ok (.iconst (0), 1) := by decide +kernel
theorem d_Mo_broken_31 : decode c_Mo_broken 31 = .ok (.istore_n 1, 1) := by decide +kernel
theorem d_Mo_broken_32 : decode c_Mo_broken 32 = .ok (.iload_n 1, 1) := by decide +kernel
theorem d_Mo_broken_33 : decode c_Mo_broken 33 = .ok (.aload_n 0, 1) := by decide +kernel
theorem d_Mo_broken_34 : decode c_Mo_broken 34 = .ok (.getfield 101, 3) := by decide +kernel
theorem d_Mo_broken_37 : decode c_Mo_broken 37 = .ok (.if_icmp .ge (23), 3) := by decide +kernel
theorem d_Mo_broken_40 : decode c_Mo_broken 40 = .ok (.aload_n 0, 1) := by decide +kernel
theorem d_Mo_broken_41 : decode c_Mo_broken 41 = .ok (.iload_n 1, 1) := by decide +kernel
theorem d_Mo_broken_42 : decode c_Mo_broken 42 = .ok (.invokevirtual 194, 3) := by decide +kernel
theorem d_Mo_broken_45 : decode c_Mo_broken 45 = .ok (.ifCond .eq (9), 3) := by decide +kernel
theorem d_Mo_broken_48 : decode c_Mo_broken 48 = .ok (.sipush (2000), 3) := by decide +kernel
theorem d_Mo_broken_51 : decode c_Mo_broken 51 = .ok (.iload_n 1, 1) := by decide +kernel
theorem d_Mo_broken_52 : decode c_Mo_broken 52 = .ok (.iadd, 1) := by decide +kernel
theorem d_Mo_broken_53 : decode c_Mo_broken 53 = .ok (.ireturn, 1) := by decide +kernel
theorem d_Mo_broken_54 : decode c_Mo_broken 54 = .ok (.iinc 1 (1), 3) := by decide +kernel
theorem d_Mo_broken_57 : decode c_Mo_broken 57 = .ok (.goto (-25), 3) := by decide +kernel
theorem d_Mo_broken_60 : decode c_Mo_broken 60 = .ok (.iconst (0), 1) := by decide +kernel
theorem d_Mo_broken_61 : decode c_Mo_broken 61 = .ok (.istore_n 1, 1) := by decide +kernel
theorem d_Mo_broken_62 : decode c_Mo_broken 62 = .ok (.iload_n 1, 1) := by decide +kernel
theorem d_Mo_broken_63 : decode c_Mo_broken 63 = .ok (.aload_n 0, 1) := by decide +kernel
theorem d_Mo_broken_64 : decode c_Mo_broken 64 = .ok (.getfield 91, 3) := by decide +kernel
theorem d_Mo_broken_67 : decode c_Mo_broken 67 = .ok (.if_icmp .ge (23), 3) := by decide +kernel
theorem d_Mo_broken_70 : decode c_Mo_broken 70 = .ok (.aload_n 0, 1) := by decide +kernel
theorem d_Mo_broken_71 : decode c_Mo_broken 71 = .ok (.iload_n 1, 1) := by decide +kernel
theorem d_Mo_broken_72 : decode c_Mo_broken 72 = .ok (.invokevirtual 197, 3) := by decide +kernel
theorem d_Mo_broken_75 : decode c_Mo_broken 75 = .ok (.ifCond .eq (9), 3) := by decide +kernel
theorem d_Mo_broken_78 : decode c_Mo_broken 78 = .ok (.sipush (3000), 3) := by decide +kernel
theorem d_Mo_broken_81 : decode c_Mo_broken 81 = .ok (.iload_n 1, 1) := by decide +kernel
theorem d_Mo_broken_82 : decode c_Mo_broken 82 = .ok (.iadd, 1) := by decide +kernel
theorem d_Mo_broken_83 : decode c_Mo_broken 83 = .ok (.ireturn, 1) := by decide +kernel
theorem d_Mo_broken_84 : decode c_Mo_broken 84 = .ok (.iinc 1 (1), 3) := by decide +kernel
theorem d_Mo_broken_87 : decode c_Mo_broken 87 = .ok (.goto (-25), 3) := by decide +kernel
theorem d_Mo_broken_90 : decode c_Mo_broken 90 = .ok (.iconst (0), 1) := by decide +kernel
theorem d_Mo_broken_91 : decode c_Mo_broken 91 = .ok (.istore_n 1, 1) := by decide +kernel
theorem d_Mo_broken_92 : decode c_Mo_broken 92 = .ok (.iload_n 1, 1) := by decide +kernel
theorem d_Mo_broken_93 : decode c_Mo_broken 93 = .ok (.aload_n 0, 1) := by decide +kernel
theorem d_Mo_broken_94 : decode c_Mo_broken 94 = .ok (.getfield 91, 3) := by decide +kernel
theorem d_Mo_broken_97 : decode c_Mo_broken 97 = .ok (.if_icmp .ge (23), 3) := by decide +kernel
theorem d_Mo_broken_100 : decode c_Mo_broken 100 = .ok (.aload_n 0, 1) := by decide +kernel
theorem d_Mo_broken_101 : decode c_Mo_broken 101 = .ok (.iload_n 1, 1) := by decide +kernel
theorem d_Mo_broken_102 : decode c_Mo_broken 102 = .ok (.invokevirtual 200, 3) := by decide +kernel
theorem d_Mo_broken_105 : decode c_Mo_broken 105 = .ok (.ifCond .ne (9), 3) := by decide +kernel
theorem d_Mo_broken_108 : decode c_Mo_broken 108 = .ok (.sipush (4000), 3) := by decide +kernel
theorem d_Mo_broken_111 : decode c_Mo_broken 111 = .ok (.iload_n 1, 1) := by decide +kernel
theorem d_Mo_broken_112 : decode c_Mo_broken 112 = .ok (.iadd, 1) := by decide +kernel
theorem d_Mo_broken_113 : decode c_Mo_broken 113 = .ok (.ireturn, 1) := by decide +kernel
theorem d_Mo_broken_114 : decode c_Mo_broken 114 = .ok (.iinc 1 (1), 3) := by decide +kernel
theorem d_Mo_broken_117 : decode c_Mo_broken 117 = .ok (.goto (-25), 3) := by decide +kernel
theorem d_Mo_broken_120 : decode c_Mo_broken 120 = .ok (.iconst (5), 1) := by decide +kernel
theorem d_Mo_broken_121 : decode c_Mo_broken 121 = .ok (.istore_n 1, 1) := by decide +kernel
theorem d_Mo_broken_122 : decode c_Mo_broken 122 = .ok (.iload_n 1, 1) := by decide +kernel
theorem d_Mo_broken_123 : decode c_Mo_broken 123 = .ok (.bipush (7), 2) := by decide +kernel
theorem d_Mo_broken_125 : decode c_Mo_broken 125 = .ok (.if_icmp .gt (70), 3) := by decide +kernel
theorem d_Mo_broken_128 : decode c_Mo_broken 128 = .ok (.iconst (0), 1) := by decide +kernel
theorem d_Mo_broken_129 : decode c_Mo_broken 129 = .ok (.istore_n 2, 1) := by decide +kernel
theorem d_Mo_broken_130 : decode c_Mo_broken 130 = .ok (.iload_n 2, 1) := by decide +kernel
theorem d_Mo_broken_131 : decode c_Mo_broken 131 = .ok (.aload_n 0, 1) := by decide +kernel
theorem d_Mo_broken_132 : decode c_Mo_broken 132 = .ok (.getfield 91, 3) := by decide +kernel
theorem d_Mo_broken_135 : decode c_Mo_broken 135 = .ok (.if_icmp .ge (54), 3) := by decide +kernel
theorem d_Mo_broken_138 : decode c_Mo_broken 138 = .ok (.iconst (0), 1) := by decide +kernel
theorem d_Mo_broken_139 : decode c_Mo_broken 139 = .ok (.istore_n 3, 1) := by decide +kernel
theorem d_Mo_broken_140 : decode c_Mo_broken 140 = .ok (.iload_n 3, 1) := by decide +kernel
theorem d_Mo_broken_141 : decode c_Mo_broken 141 = .ok (.aload_n 0, 1) := by decide +kernel
theorem d_Mo_broken_142 : decode c_Mo_broken 142 = .ok (.getfield 40, 3) := by decide +kernel
theorem d_Mo_broken_145 : decode c_Mo_broken 145 = .ok (.iload_n 2, 1) := by decide +kernel
theorem d_Mo_broken_146 : decode c_Mo_broken 146 = .ok (.iaload, 1) := by decide +kernel
theorem d_Mo_broken_147 : decode c_Mo_broken 147 = .ok (.if_icmp .ge (36), 3) := by decide +kernel
theorem d_Mo_broken_150 : decode c_Mo_broken 150 = .ok (.aload_n 0, 1) := by decide +kernel
theorem d_Mo_broken_151 : decode c_Mo_broken 151 = .ok (.iload_n 1, 1) := by decide +kernel
theorem d_Mo_broken_152 : decode c_Mo_broken 152 = .ok (.bipush (12), 2) := by decide +kernel
theorem d_Mo_broken_154 : decode c_Mo_broken 154 = .ok (.iload_n 2, 1) := by decide +kernel
theorem d_Mo_broken_155 : decode c_Mo_broken 155 = .ok (.imul, 1) := by decide +kernel
theorem d_Mo_broken_156 : decode c_Mo_broken 156 = .ok (.iload_n 3, 1) := by decide +kernel
theorem d_Mo_broken_157 : decode c_Mo_broken 157 = .ok (.iadd, 1) := by decide +kernel
theorem d_Mo_broken_158 : decode c_Mo_broken 158 = .ok (.invokevirtual 203, 3) := by decide +kernel
theorem d_Mo_broken_161 : decode c_Mo_broken 161 = .ok (.ifCond .eq (16), 3) := by decide +kernel
theorem d_Mo_broken_164 : decode c_Mo_broken 164 = .ok (.sipush (1000), 3) := by decide +kernel
theorem d_Mo_broken_167 : decode c_Mo_broken 167 = .ok (.iload_n 1, 1) := by decide +kernel
theorem d_Mo_broken_168 : decode c_Mo_broken 168 = .ok (.imul, 1) := by decide +kernel
theorem d_Mo_broken_169 : decode c_Mo_broken 169 = .ok (.bipush (16), 2) := by decide +kernel
theorem d_Mo_broken_171 : decode c_Mo_broken 171 = .ok (.iload_n 2, 1) := by decide +kernel
theorem d_Mo_broken_172 : decode c_Mo_broken 172 = .ok (.imul, 1) := by decide +kernel
theorem d_Mo_broken_173 : decode c_Mo_broken 173 = .ok (.iadd, 1) := by decide +kernel
theorem d_Mo_broken_174 : decode c_Mo_broken 174 = .ok (.iload_n 3, 1) := by decide +kernel
theorem d_Mo_broken_175 : decode c_Mo_broken 175 = .ok (.iadd, 1) := by decide +kernel
theorem d_Mo_broken_176 : decode c_Mo_broken 176 = .ok (.ireturn, 1) := by decide +kernel
theorem d_Mo_broken_177 : decode c_Mo_broken 177 = .ok (.iinc 3 (1), 3) := by decide +kernel
theorem d_Mo_broken_180 : decode c_Mo_broken 180 = .ok (.goto (-40), 3) := by decide +kernel
theorem d_Mo_broken_183 : decode c_Mo_broken 183 = .ok (.iinc 2 (1), 3) := by decide +kernel
theorem d_Mo_broken_186 : decode c_Mo_broken 186 = .ok (.goto (-56), 3) := by decide +kernel
theorem d_Mo_broken_189 : decode c_Mo_broken 189 = .ok (.iinc 1 (1), 3) := by decide +kernel
theorem d_Mo_broken_192 : decode c_Mo_broken 192 = .ok (.goto (-70), 3) := by decide +kernel
theorem d_Mo_broken_195 : decode c_Mo_broken 195 = .ok (.iconst (0), 1) := by decide +kernel
theorem d_Mo_broken_196 : decode c_Mo_broken 196 = .ok (.ireturn, 1) := by decide +kernel
def fx_Mo_broken_b140 (k122 : tx_St → Int32 → Option (Int32 × tx_St)) (k130 : tx_St → Int32 → Int32 → Option (Int32 × tx_St)) : Nat → tx_St → Int32 → Int32 → Int32 → Option (Int32 × tx_St)
  | 0, _, _, _, _ => none
  | n + 1, σ, x1, x2, x3 => tx_rd σ 56 8 x2 fun v19 => (if v19 ≤ x3 then k130 σ x1 (x2 + (1 : Int32)) else tx_ci (fx_Mo_wild σ x1 (((12 : Int32) * x2) + x3)) fun r22 σ21 => (if r22 = 0 then fx_Mo_broken_b140 k122 k130 n σ21 x1 x2 (x3 + (1 : Int32)) else some (((((1000 : Int32) * x1) + ((16 : Int32) * x2)) + x3), σ21)))
def fx_Mo_broken_b130 (k122 : tx_St → Int32 → Option (Int32 × tx_St)) : Nat → tx_St → Int32 → Int32 → Option (Int32 × tx_St)
  | 0, _, _, _ => none
  | n + 1, σ, x1, x2 => (if (σ 45 7) ≤ x2 then k122 σ (x1 + (1 : Int32)) else fx_Mo_broken_b140 (k122) (fx_Mo_broken_b130 k122 n) tx_fu σ x1 x2 (0 : Int32))
def fx_Mo_broken_b122 : Nat → tx_St → Int32 → Option (Int32 × tx_St)
  | 0, _, _ => none
  | n + 1, σ, x1 => (if (7 : Int32) < x1 then some ((0 : Int32), σ) else fx_Mo_broken_b130 (fx_Mo_broken_b122 n) tx_fu σ x1 (0 : Int32))
def fx_Mo_broken_b92 : Nat → tx_St → Int32 → Option (Int32 × tx_St)
  | 0, _, _ => none
  | n + 1, σ, x1 => (if (σ 45 7) ≤ x1 then fx_Mo_broken_b122  tx_fu σ (5 : Int32) else tx_ci (fx_Mo_fitsTypes σ x1) fun r15 σ14 => (if r15 = 0 then some (((4000 : Int32) + x1), σ14) else fx_Mo_broken_b92 n σ14 (x1 + (1 : Int32))))
def fx_Mo_broken_b62 : Nat → tx_St → Int32 → Option (Int32 × tx_St)
  | 0, _, _ => none
  | n + 1, σ, x1 => (if (σ 45 7) ≤ x1 then fx_Mo_broken_b92  tx_fu σ (0 : Int32) else tx_ci (fx_Mo_unlike σ x1) fun r11 σ10 => (if r11 = 0 then fx_Mo_broken_b62 n σ10 (x1 + (1 : Int32)) else some (((3000 : Int32) + x1), σ10)))
def fx_Mo_broken_b32 : Nat → tx_St → Int32 → Option (Int32 × tx_St)
  | 0, _, _ => none
  | n + 1, σ, x1 => (if (σ 45 3) ≤ x1 then fx_Mo_broken_b62  tx_fu σ (0 : Int32) else tx_ci (fx_Mo_looseField σ x1) fun r7 σ6 => (if r7 = 0 then fx_Mo_broken_b32 n σ6 (x1 + (1 : Int32)) else some (((2000 : Int32) + x1), σ6)))
def fx_Mo_broken_b2 : Nat → tx_St → Int32 → Option (Int32 × tx_St)
  | 0, _, _ => none
  | n + 1, σ, x1 => (if (σ 45 3) ≤ x1 then fx_Mo_broken_b32  tx_fu σ (0 : Int32) else tx_ci (fx_Mo_looseStatic σ x1) fun r3 σ2 => (if r3 = 0 then fx_Mo_broken_b2 n σ2 (x1 + (1 : Int32)) else some (((1000 : Int32) + x1), σ2)))
def fx_Mo_broken (σ : tx_St) : Option (Int32 × tx_St) := fx_Mo_broken_b2  tx_fu σ (0 : Int32)
set_option maxRecDepth 100000 in
set_option maxHeartbeats 4000000 in
theorem fx_Mo_broken_b140_w {l : Launch} {E : tx_E} (k122 : tx_St → Int32 → Option (Int32 × tx_St)) (j122 : ∀ (σ : tx_St) (x1 : Int32) (t : Int32 × tx_St), k122 σ x1 = some t → gx l E mi_Mo_broken (some (.int t.1), t.2) σ [(0, .ref (E.1 45)), (1, .int x1)] 122 []) (k130 : tx_St → Int32 → Int32 → Option (Int32 × tx_St)) (j130 : ∀ (σ : tx_St) (x1 : Int32) (x2 : Int32) (t : Int32 × tx_St), k130 σ x1 x2 = some t → gx l E mi_Mo_broken (some (.int t.1), t.2) σ [(0, .ref (E.1 45)), (1, .int x1), (2, .int x2)] 130 []) : ∀ (n : Nat) (σ : tx_St) (x1 : Int32) (x2 : Int32) (x3 : Int32) (t : Int32 × tx_St), fx_Mo_broken_b140 k122 k130 n σ x1 x2 x3 = some t → gx l E mi_Mo_broken (some (.int t.1), t.2) σ [(0, .ref (E.1 45)), (1, .int x1), (2, .int x2), (3, .int x3)] 140 [] := by
  intro n
  induction n with
  | zero => intro σ x1 x2 x3 t hT; cases hT
  | succ n ih =>
    intro σ x1 x2 x3 t hT
    rw [fx_Mo_broken_b140] at hT
    refine gx_iload_n (pc := 140) 3 d_Mo_broken_140 rfl rfl ?_
    refine gx_aload_n (pc := 141) 0 d_Mo_broken_141 rfl rfl ?_
    refine gx_getR (pc := 142) 56 fl_Mo_40 d_Mo_broken_142 (rfl) (by decide) rfl ?_
    refine gx_iload_n (pc := 145) 2 d_Mo_broken_145 rfl rfl ?_
    obtain ⟨v19, gv19, iv19, hT⟩ := tx_rd_some hT
    refine gx_iald (pc := 146) v19 d_Mo_broken_146 (rfl) iv19 gv19 ?_
    refine gx_icmp_ge (pc := 147) 183 d_Mo_broken_147 rfl (fun h20 => ?_) (fun h20 => ?_)
    · have hT := tx_ifp h20 hT
      refine gx_iinc (pc := 183) (x2 + (1 : Int32)) 2 [(2, .int (x2 + (1 : Int32))), (0, .ref (E.1 45)), (1, .int x1), (3, .int x3)] d_Mo_broken_183 rfl (tx_inc (by decide)) (Nat.le_of_ble_eq_true rfl) rfl ?_
      refine gx_goto (pc := 186) 130 d_Mo_broken_186 rfl ?_
      refine gx_sub [1, 2, 0] rfl ?_
      exact j130 σ x1 (x2 + (1 : Int32)) _ hT
    · have hT := tx_ifn h20 hT
      refine gx_aload_n (pc := 150) 0 d_Mo_broken_150 rfl rfl ?_
      refine gx_iload_n (pc := 151) 1 d_Mo_broken_151 rfl rfl ?_
      refine gx_bipush (pc := 152) (12 : Int32) d_Mo_broken_152 (by decide) ?_
      refine gx_iload_n (pc := 154) 2 d_Mo_broken_154 rfl rfl ?_
      refine gx_imul (pc := 155) d_Mo_broken_155 ?_
      refine gx_iload_n (pc := 156) 3 d_Mo_broken_156 rfl rfl ?_
      refine gx_iadd (pc := 157) d_Mo_broken_157 ?_
      obtain ⟨r22, σ21, cσ21, hT⟩ := tx_ci_some hT
      refine gx_callV (pc := 158) (As := [.int x1, .int (((12 : Int32) * x2) + x3)]) (rest := []) cm_Mo_wild lk_Mo_203 (fx_Mo_wild_c l E σ x1 (((12 : Int32) * x2) + x3) _ cσ21) (rfl) (by decide) rfl rfl tx_fi_Mo_broken_Mo_wild (Nat.le_of_ble_eq_true rfl) d_Mo_broken_158 ?_
      change gx l E mi_Mo_broken _ σ21 [(0, .ref (E.1 45)), (1, .int x1), (2, .int x2), (3, .int x3)] 161 [.int r22]
      refine gx_if_eq (pc := 161) 177 d_Mo_broken_161 rfl (fun h23 => ?_) (fun h23 => ?_)
      · have hT := tx_ifp h23 hT
        refine gx_iinc (pc := 177) (x3 + (1 : Int32)) 3 [(3, .int (x3 + (1 : Int32))), (0, .ref (E.1 45)), (1, .int x1), (2, .int x2)] d_Mo_broken_177 rfl (tx_inc (by decide)) (Nat.le_of_ble_eq_true rfl) rfl ?_
        refine gx_goto (pc := 180) 140 d_Mo_broken_180 rfl ?_
        refine gx_sub [1, 2, 3, 0] rfl ?_
        exact ih σ21 x1 x2 (x3 + (1 : Int32)) _ hT
      · have hT := tx_ifn h23 hT
        refine gx_sipush (pc := 164) (1000 : Int32) d_Mo_broken_164 (by decide) ?_
        refine gx_iload_n (pc := 167) 1 d_Mo_broken_167 rfl rfl ?_
        refine gx_imul (pc := 168) d_Mo_broken_168 ?_
        refine gx_bipush (pc := 169) (16 : Int32) d_Mo_broken_169 (by decide) ?_
        refine gx_iload_n (pc := 171) 2 d_Mo_broken_171 rfl rfl ?_
        refine gx_imul (pc := 172) d_Mo_broken_172 ?_
        refine gx_iadd (pc := 173) d_Mo_broken_173 ?_
        refine gx_iload_n (pc := 174) 3 d_Mo_broken_174 rfl rfl ?_
        refine gx_iadd (pc := 175) d_Mo_broken_175 ?_
        cases hT
        exact gx_iret (pc := 176) d_Mo_broken_176 rfl rfl
set_option maxRecDepth 100000 in
set_option maxHeartbeats 4000000 in
theorem fx_Mo_broken_b130_w {l : Launch} {E : tx_E} (k122 : tx_St → Int32 → Option (Int32 × tx_St)) (j122 : ∀ (σ : tx_St) (x1 : Int32) (t : Int32 × tx_St), k122 σ x1 = some t → gx l E mi_Mo_broken (some (.int t.1), t.2) σ [(0, .ref (E.1 45)), (1, .int x1)] 122 []) : ∀ (n : Nat) (σ : tx_St) (x1 : Int32) (x2 : Int32) (t : Int32 × tx_St), fx_Mo_broken_b130 k122 n σ x1 x2 = some t → gx l E mi_Mo_broken (some (.int t.1), t.2) σ [(0, .ref (E.1 45)), (1, .int x1), (2, .int x2)] 130 [] := by
  intro n
  induction n with
  | zero => intro σ x1 x2 t hT; cases hT
  | succ n ih =>
    intro σ x1 x2 t hT
    rw [fx_Mo_broken_b130] at hT
    refine gx_iload_n (pc := 130) 2 d_Mo_broken_130 rfl rfl ?_
    refine gx_aload_n (pc := 131) 0 d_Mo_broken_131 rfl rfl ?_
    refine gx_getI (pc := 132) (σ 45 7) fl_Mo_91 d_Mo_broken_132 (rfl) (by decide) rfl rfl ?_
    refine gx_icmp_ge (pc := 135) 189 d_Mo_broken_135 rfl (fun h18 => ?_) (fun h18 => ?_)
    · have hT := tx_ifp h18 hT
      refine gx_iinc (pc := 189) (x1 + (1 : Int32)) 1 [(1, .int (x1 + (1 : Int32))), (0, .ref (E.1 45)), (2, .int x2)] d_Mo_broken_189 rfl (tx_inc (by decide)) (Nat.le_of_ble_eq_true rfl) rfl ?_
      refine gx_goto (pc := 192) 122 d_Mo_broken_192 rfl ?_
      refine gx_sub [1, 0] rfl ?_
      exact j122 σ (x1 + (1 : Int32)) _ hT
    · have hT := tx_ifn h18 hT
      refine gx_iconst (pc := 138) (0 : Int32) d_Mo_broken_138 (by decide) ?_
      refine gx_istore_n (pc := 139) [(3, .int (0 : Int32)), (0, .ref (E.1 45)), (1, .int x1), (2, .int x2)] d_Mo_broken_139 rfl (Nat.le_of_ble_eq_true rfl) rfl ?_
      refine gx_sub [1, 2, 3, 0] rfl ?_
      exact fx_Mo_broken_b140_w (k122) (j122) (fx_Mo_broken_b130 k122 n) (ih) tx_fu σ x1 x2 (0 : Int32) _ hT
set_option maxRecDepth 100000 in
set_option maxHeartbeats 4000000 in
theorem fx_Mo_broken_b122_w {l : Launch} {E : tx_E} : ∀ (n : Nat) (σ : tx_St) (x1 : Int32) (t : Int32 × tx_St), fx_Mo_broken_b122 n σ x1 = some t → gx l E mi_Mo_broken (some (.int t.1), t.2) σ [(0, .ref (E.1 45)), (1, .int x1)] 122 [] := by
  intro n
  induction n with
  | zero => intro σ x1 t hT; cases hT
  | succ n ih =>
    intro σ x1 t hT
    rw [fx_Mo_broken_b122] at hT
    refine gx_iload_n (pc := 122) 1 d_Mo_broken_122 rfl rfl ?_
    refine gx_bipush (pc := 123) (7 : Int32) d_Mo_broken_123 (by decide) ?_
    refine gx_icmp_gt (pc := 125) 195 d_Mo_broken_125 rfl (fun h17 => ?_) (fun h17 => ?_)
    · have hT := tx_ifp h17 hT
      refine gx_iconst (pc := 195) (0 : Int32) d_Mo_broken_195 (by decide) ?_
      cases hT
      exact gx_iret (pc := 196) d_Mo_broken_196 rfl rfl
    · have hT := tx_ifn h17 hT
      refine gx_iconst (pc := 128) (0 : Int32) d_Mo_broken_128 (by decide) ?_
      refine gx_istore_n (pc := 129) [(2, .int (0 : Int32)), (0, .ref (E.1 45)), (1, .int x1)] d_Mo_broken_129 rfl (Nat.le_of_ble_eq_true rfl) rfl ?_
      refine gx_sub [1, 2, 0] rfl ?_
      exact fx_Mo_broken_b130_w (fx_Mo_broken_b122 n) (ih) tx_fu σ x1 (0 : Int32) _ hT
set_option maxRecDepth 100000 in
set_option maxHeartbeats 4000000 in
theorem fx_Mo_broken_b92_w {l : Launch} {E : tx_E} : ∀ (n : Nat) (σ : tx_St) (x1 : Int32) (t : Int32 × tx_St), fx_Mo_broken_b92 n σ x1 = some t → gx l E mi_Mo_broken (some (.int t.1), t.2) σ [(0, .ref (E.1 45)), (1, .int x1)] 92 [] := by
  intro n
  induction n with
  | zero => intro σ x1 t hT; cases hT
  | succ n ih =>
    intro σ x1 t hT
    rw [fx_Mo_broken_b92] at hT
    refine gx_iload_n (pc := 92) 1 d_Mo_broken_92 rfl rfl ?_
    refine gx_aload_n (pc := 93) 0 d_Mo_broken_93 rfl rfl ?_
    refine gx_getI (pc := 94) (σ 45 7) fl_Mo_91 d_Mo_broken_94 (rfl) (by decide) rfl rfl ?_
    refine gx_icmp_ge (pc := 97) 120 d_Mo_broken_97 rfl (fun h13 => ?_) (fun h13 => ?_)
    · have hT := tx_ifp h13 hT
      refine gx_iconst (pc := 120) (5 : Int32) d_Mo_broken_120 (by decide) ?_
      refine gx_istore_n (pc := 121) [(1, .int (5 : Int32)), (0, .ref (E.1 45))] d_Mo_broken_121 rfl (Nat.le_of_ble_eq_true rfl) rfl ?_
      refine gx_sub [1, 0] rfl ?_
      exact fx_Mo_broken_b122_w  tx_fu σ (5 : Int32) _ hT
    · have hT := tx_ifn h13 hT
      refine gx_aload_n (pc := 100) 0 d_Mo_broken_100 rfl rfl ?_
      refine gx_iload_n (pc := 101) 1 d_Mo_broken_101 rfl rfl ?_
      obtain ⟨r15, σ14, cσ14, hT⟩ := tx_ci_some hT
      refine gx_callV (pc := 102) (As := [.int x1]) (rest := []) cm_Mo_fitsTypes lk_Mo_200 (fx_Mo_fitsTypes_c l E σ x1 _ cσ14) (rfl) (by decide) rfl rfl tx_fi_Mo_broken_Mo_fitsTypes (Nat.le_of_ble_eq_true rfl) d_Mo_broken_102 ?_
      change gx l E mi_Mo_broken _ σ14 [(0, .ref (E.1 45)), (1, .int x1)] 105 [.int r15]
      refine gx_if_ne (pc := 105) 114 d_Mo_broken_105 rfl (fun h16 => ?_) (fun h16 => ?_)
      · have hT := tx_ifn h16 hT
        refine gx_iinc (pc := 114) (x1 + (1 : Int32)) 1 [(1, .int (x1 + (1 : Int32))), (0, .ref (E.1 45))] d_Mo_broken_114 rfl (tx_inc (by decide)) (Nat.le_of_ble_eq_true rfl) rfl ?_
        refine gx_goto (pc := 117) 92 d_Mo_broken_117 rfl ?_
        refine gx_sub [1, 0] rfl ?_
        exact ih σ14 (x1 + (1 : Int32)) _ hT
      · have hT := tx_ifp h16 hT
        refine gx_sipush (pc := 108) (4000 : Int32) d_Mo_broken_108 (by decide) ?_
        refine gx_iload_n (pc := 111) 1 d_Mo_broken_111 rfl rfl ?_
        refine gx_iadd (pc := 112) d_Mo_broken_112 ?_
        cases hT
        exact gx_iret (pc := 113) d_Mo_broken_113 rfl rfl
set_option maxRecDepth 100000 in
set_option maxHeartbeats 4000000 in
theorem fx_Mo_broken_b62_w {l : Launch} {E : tx_E} : ∀ (n : Nat) (σ : tx_St) (x1 : Int32) (t : Int32 × tx_St), fx_Mo_broken_b62 n σ x1 = some t → gx l E mi_Mo_broken (some (.int t.1), t.2) σ [(0, .ref (E.1 45)), (1, .int x1)] 62 [] := by
  intro n
  induction n with
  | zero => intro σ x1 t hT; cases hT
  | succ n ih =>
    intro σ x1 t hT
    rw [fx_Mo_broken_b62] at hT
    refine gx_iload_n (pc := 62) 1 d_Mo_broken_62 rfl rfl ?_
    refine gx_aload_n (pc := 63) 0 d_Mo_broken_63 rfl rfl ?_
    refine gx_getI (pc := 64) (σ 45 7) fl_Mo_91 d_Mo_broken_64 (rfl) (by decide) rfl rfl ?_
    refine gx_icmp_ge (pc := 67) 90 d_Mo_broken_67 rfl (fun h9 => ?_) (fun h9 => ?_)
    · have hT := tx_ifp h9 hT
      refine gx_iconst (pc := 90) (0 : Int32) d_Mo_broken_90 (by decide) ?_
      refine gx_istore_n (pc := 91) [(1, .int (0 : Int32)), (0, .ref (E.1 45))] d_Mo_broken_91 rfl (Nat.le_of_ble_eq_true rfl) rfl ?_
      refine gx_sub [1, 0] rfl ?_
      exact fx_Mo_broken_b92_w  tx_fu σ (0 : Int32) _ hT
    · have hT := tx_ifn h9 hT
      refine gx_aload_n (pc := 70) 0 d_Mo_broken_70 rfl rfl ?_
      refine gx_iload_n (pc := 71) 1 d_Mo_broken_71 rfl rfl ?_
      obtain ⟨r11, σ10, cσ10, hT⟩ := tx_ci_some hT
      refine gx_callV (pc := 72) (As := [.int x1]) (rest := []) cm_Mo_unlike lk_Mo_197 (fx_Mo_unlike_c l E σ x1 _ cσ10) (rfl) (by decide) rfl rfl tx_fi_Mo_broken_Mo_unlike (Nat.le_of_ble_eq_true rfl) d_Mo_broken_72 ?_
      change gx l E mi_Mo_broken _ σ10 [(0, .ref (E.1 45)), (1, .int x1)] 75 [.int r11]
      refine gx_if_eq (pc := 75) 84 d_Mo_broken_75 rfl (fun h12 => ?_) (fun h12 => ?_)
      · have hT := tx_ifp h12 hT
        refine gx_iinc (pc := 84) (x1 + (1 : Int32)) 1 [(1, .int (x1 + (1 : Int32))), (0, .ref (E.1 45))] d_Mo_broken_84 rfl (tx_inc (by decide)) (Nat.le_of_ble_eq_true rfl) rfl ?_
        refine gx_goto (pc := 87) 62 d_Mo_broken_87 rfl ?_
        refine gx_sub [1, 0] rfl ?_
        exact ih σ10 (x1 + (1 : Int32)) _ hT
      · have hT := tx_ifn h12 hT
        refine gx_sipush (pc := 78) (3000 : Int32) d_Mo_broken_78 (by decide) ?_
        refine gx_iload_n (pc := 81) 1 d_Mo_broken_81 rfl rfl ?_
        refine gx_iadd (pc := 82) d_Mo_broken_82 ?_
        cases hT
        exact gx_iret (pc := 83) d_Mo_broken_83 rfl rfl
set_option maxRecDepth 100000 in
set_option maxHeartbeats 4000000 in
theorem fx_Mo_broken_b32_w {l : Launch} {E : tx_E} : ∀ (n : Nat) (σ : tx_St) (x1 : Int32) (t : Int32 × tx_St), fx_Mo_broken_b32 n σ x1 = some t → gx l E mi_Mo_broken (some (.int t.1), t.2) σ [(0, .ref (E.1 45)), (1, .int x1)] 32 [] := by
  intro n
  induction n with
  | zero => intro σ x1 t hT; cases hT
  | succ n ih =>
    intro σ x1 t hT
    rw [fx_Mo_broken_b32] at hT
    refine gx_iload_n (pc := 32) 1 d_Mo_broken_32 rfl rfl ?_
    refine gx_aload_n (pc := 33) 0 d_Mo_broken_33 rfl rfl ?_
    refine gx_getI (pc := 34) (σ 45 3) fl_Mo_101 d_Mo_broken_34 (rfl) (by decide) rfl rfl ?_
    refine gx_icmp_ge (pc := 37) 60 d_Mo_broken_37 rfl (fun h5 => ?_) (fun h5 => ?_)
    · have hT := tx_ifp h5 hT
      refine gx_iconst (pc := 60) (0 : Int32) d_Mo_broken_60 (by decide) ?_
      refine gx_istore_n (pc := 61) [(1, .int (0 : Int32)), (0, .ref (E.1 45))] d_Mo_broken_61 rfl (Nat.le_of_ble_eq_true rfl) rfl ?_
      refine gx_sub [1, 0] rfl ?_
      exact fx_Mo_broken_b62_w  tx_fu σ (0 : Int32) _ hT
    · have hT := tx_ifn h5 hT
      refine gx_aload_n (pc := 40) 0 d_Mo_broken_40 rfl rfl ?_
      refine gx_iload_n (pc := 41) 1 d_Mo_broken_41 rfl rfl ?_
      obtain ⟨r7, σ6, cσ6, hT⟩ := tx_ci_some hT
      refine gx_callV (pc := 42) (As := [.int x1]) (rest := []) cm_Mo_looseField lk_Mo_194 (fx_Mo_looseField_c l E σ x1 _ cσ6) (rfl) (by decide) rfl rfl tx_fi_Mo_broken_Mo_looseField (Nat.le_of_ble_eq_true rfl) d_Mo_broken_42 ?_
      change gx l E mi_Mo_broken _ σ6 [(0, .ref (E.1 45)), (1, .int x1)] 45 [.int r7]
      refine gx_if_eq (pc := 45) 54 d_Mo_broken_45 rfl (fun h8 => ?_) (fun h8 => ?_)
      · have hT := tx_ifp h8 hT
        refine gx_iinc (pc := 54) (x1 + (1 : Int32)) 1 [(1, .int (x1 + (1 : Int32))), (0, .ref (E.1 45))] d_Mo_broken_54 rfl (tx_inc (by decide)) (Nat.le_of_ble_eq_true rfl) rfl ?_
        refine gx_goto (pc := 57) 32 d_Mo_broken_57 rfl ?_
        refine gx_sub [1, 0] rfl ?_
        exact ih σ6 (x1 + (1 : Int32)) _ hT
      · have hT := tx_ifn h8 hT
        refine gx_sipush (pc := 48) (2000 : Int32) d_Mo_broken_48 (by decide) ?_
        refine gx_iload_n (pc := 51) 1 d_Mo_broken_51 rfl rfl ?_
        refine gx_iadd (pc := 52) d_Mo_broken_52 ?_
        cases hT
        exact gx_iret (pc := 53) d_Mo_broken_53 rfl rfl
set_option maxRecDepth 100000 in
set_option maxHeartbeats 4000000 in
theorem fx_Mo_broken_b2_w {l : Launch} {E : tx_E} : ∀ (n : Nat) (σ : tx_St) (x1 : Int32) (t : Int32 × tx_St), fx_Mo_broken_b2 n σ x1 = some t → gx l E mi_Mo_broken (some (.int t.1), t.2) σ [(0, .ref (E.1 45)), (1, .int x1)] 2 [] := by
  intro n
  induction n with
  | zero => intro σ x1 t hT; cases hT
  | succ n ih =>
    intro σ x1 t hT
    rw [fx_Mo_broken_b2] at hT
    refine gx_iload_n (pc := 2) 1 d_Mo_broken_2 rfl rfl ?_
    refine gx_aload_n (pc := 3) 0 d_Mo_broken_3 rfl rfl ?_
    refine gx_getI (pc := 4) (σ 45 3) fl_Mo_101 d_Mo_broken_4 (rfl) (by decide) rfl rfl ?_
    refine gx_icmp_ge (pc := 7) 30 d_Mo_broken_7 rfl (fun h1 => ?_) (fun h1 => ?_)
    · have hT := tx_ifp h1 hT
      refine gx_iconst (pc := 30) (0 : Int32) d_Mo_broken_30 (by decide) ?_
      refine gx_istore_n (pc := 31) [(1, .int (0 : Int32)), (0, .ref (E.1 45))] d_Mo_broken_31 rfl (Nat.le_of_ble_eq_true rfl) rfl ?_
      refine gx_sub [1, 0] rfl ?_
      exact fx_Mo_broken_b32_w  tx_fu σ (0 : Int32) _ hT
    · have hT := tx_ifn h1 hT
      refine gx_aload_n (pc := 10) 0 d_Mo_broken_10 rfl rfl ?_
      refine gx_iload_n (pc := 11) 1 d_Mo_broken_11 rfl rfl ?_
      obtain ⟨r3, σ2, cσ2, hT⟩ := tx_ci_some hT
      refine gx_callV (pc := 12) (As := [.int x1]) (rest := []) cm_Mo_looseStatic lk_Mo_191 (fx_Mo_looseStatic_c l E σ x1 _ cσ2) (rfl) (by decide) rfl rfl tx_fi_Mo_broken_Mo_looseStatic (Nat.le_of_ble_eq_true rfl) d_Mo_broken_12 ?_
      change gx l E mi_Mo_broken _ σ2 [(0, .ref (E.1 45)), (1, .int x1)] 15 [.int r3]
      refine gx_if_eq (pc := 15) 24 d_Mo_broken_15 rfl (fun h4 => ?_) (fun h4 => ?_)
      · have hT := tx_ifp h4 hT
        refine gx_iinc (pc := 24) (x1 + (1 : Int32)) 1 [(1, .int (x1 + (1 : Int32))), (0, .ref (E.1 45))] d_Mo_broken_24 rfl (tx_inc (by decide)) (Nat.le_of_ble_eq_true rfl) rfl ?_
        refine gx_goto (pc := 27) 2 d_Mo_broken_27 rfl ?_
        refine gx_sub [1, 0] rfl ?_
        exact ih σ2 (x1 + (1 : Int32)) _ hT
      · have hT := tx_ifn h4 hT
        refine gx_sipush (pc := 18) (1000 : Int32) d_Mo_broken_18 (by decide) ?_
        refine gx_iload_n (pc := 21) 1 d_Mo_broken_21 rfl rfl ?_
        refine gx_iadd (pc := 22) d_Mo_broken_22 ?_
        cases hT
        exact gx_iret (pc := 23) d_Mo_broken_23 rfl rfl
set_option maxRecDepth 100000 in
set_option maxHeartbeats 4000000 in
theorem fx_Mo_broken_c (l : Launch) (E : tx_E) (σ : tx_St) (t : Int32 × tx_St) (hT : fx_Mo_broken σ  = some t) : tx_MX l E y_Mo_broken mi_Mo_broken (some (.int t.1), t.2) [.ref (E.1 45)] σ := by
  refine tx_MX_of (by decide) rfl (Nat.le_of_ble_eq_true rfl) ?_
  show gx l E mi_Mo_broken (some (.int t.1), t.2) σ [(0, .ref (E.1 45))] 0 []
  unfold fx_Mo_broken at hT
  refine gx_iconst (pc := 0) (0 : Int32) d_Mo_broken_0 (by decide) ?_
  refine gx_istore_n (pc := 1) [(1, .int (0 : Int32)), (0, .ref (E.1 45))] d_Mo_broken_1 rfl (Nat.le_of_ble_eq_true rfl) rfl ?_
  refine gx_sub [1, 0] rfl ?_
  exact fx_Mo_broken_b2_w  tx_fu σ (0 : Int32) _ hT
theorem d_Mo_check_0 : decode c_Mo_check 0 = .ok (.aload_n 0, 1) := by decide +kernel
theorem d_Mo_check_1 : decode c_Mo_check 1 = .ok (.getfield 94, 3) := by decide +kernel
theorem d_Mo_check_4 : decode c_Mo_check 4 = .ok (.ifCond .eq (5), 3) := by decide +kernel
theorem d_Mo_check_7 : decode c_Mo_check 7 = .ok (.iconst (0), 1) := by decide +kernel
theorem d_Mo_check_8 : decode c_Mo_check 8 = .ok (.ireturn, 1) := by decide +kernel
theorem d_Mo_check_9 : decode c_Mo_check 9 = .ok (.aload_n 0, 1) := by decide +kernel
theorem d_Mo_check_10 : decode c_Mo_check 10 = .ok (.invokevirtual 206, 3) := by decide +kernel
theorem d_Mo_check_13 : decode c_Mo_check 13 = .ok (.istore_n 1, 1) := by decide +kernel
theorem d_Mo_check_14 : decode c_Mo_check 14 = .ok (.aload_n 0, 1) := by decide +kernel
theorem d_Mo_check_15 : decode c_Mo_check 15 = .ok (.iload_n 1, 1) := by decide +kernel
theorem d_Mo_check_16 : decode c_Mo_check 16 = .ok (.ifCond .ne (7), 3) := by decide +kernel
theorem d_Mo_check_19 : decode c_Mo_check 19 = .ok (.iconst (1), 1) := by decide +kernel
theorem d_Mo_check_20 : decode c_Mo_check 20 = .ok (.goto (4), 3) := by decide +kernel
theorem d_Mo_check_23 : decode c_Mo_check 23 = .ok (.iconst (0), 1) := by decide +kernel
theorem d_Mo_check_24 : decode c_Mo_check 24 = .ok (.putfield 94, 3) := by decide +kernel
theorem d_Mo_check_27 : decode c_Mo_check 27 = .ok (.iload_n 1, 1) := by decide +kernel
theorem d_Mo_check_28 : decode c_Mo_check 28 = .ok (.ireturn, 1) := by decide +kernel
def fx_Mo_check_b24 (σ : tx_St) (x1 : Int32) (s0 : Int32) : Option (Int32 × tx_St) := tx_pz σ 45 16 s0 fun σ5 => some (x1, σ5)
def fx_Mo_check (σ : tx_St) : Option (Int32 × tx_St) := (if (σ 45 16) = 0 then tx_ci (fx_Mo_broken σ) fun r3 σ2 => (if r3 = 0 then fx_Mo_check_b24  σ2 r3 (1 : Int32) else fx_Mo_check_b24  σ2 r3 (0 : Int32)) else some ((0 : Int32), σ))
set_option maxRecDepth 100000 in
set_option maxHeartbeats 4000000 in
theorem fx_Mo_check_b24_w {l : Launch} {E : tx_E} (σ : tx_St) (x1 : Int32) (s0 : Int32) (t : Int32 × tx_St) (hT : fx_Mo_check_b24 σ x1 s0 = some t) : gx l E mi_Mo_check (some (.int t.1), t.2) σ [(1, .int x1)] 24 [.int s0, .ref (E.1 45)] := by
  unfold fx_Mo_check_b24 at hT
  obtain ⟨σ5, gσ5, bσ5, hT⟩ := tx_pz_some hT
  refine gx_putZ (pc := 24) fp_Mo_94 d_Mo_check_24 (rfl) (by decide) rfl bσ5 ?_
  rw [gσ5]
  refine gx_iload_n (pc := 27) 0 d_Mo_check_27 rfl rfl ?_
  cases hT
  exact gx_iret (pc := 28) d_Mo_check_28 rfl rfl
set_option maxRecDepth 100000 in
set_option maxHeartbeats 4000000 in
theorem fx_Mo_check_c (l : Launch) (E : tx_E) (σ : tx_St) (t : Int32 × tx_St) (hT : fx_Mo_check σ  = some t) : tx_MX l E y_Mo_check mi_Mo_check (some (.int t.1), t.2) [.ref (E.1 45)] σ := by
  refine tx_MX_of (by decide) rfl (Nat.le_of_ble_eq_true rfl) ?_
  show gx l E mi_Mo_check (some (.int t.1), t.2) σ [(0, .ref (E.1 45))] 0 []
  unfold fx_Mo_check at hT
  refine gx_aload_n (pc := 0) 0 d_Mo_check_0 rfl rfl ?_
  refine gx_getI (pc := 1) (σ 45 16) fl_Mo_94 d_Mo_check_1 (rfl) (by decide) rfl rfl ?_
  refine gx_if_eq (pc := 4) 9 d_Mo_check_4 rfl (fun h1 => ?_) (fun h1 => ?_)
  · have hT := tx_ifp h1 hT
    refine gx_aload_n (pc := 9) 0 d_Mo_check_9 rfl rfl ?_
    obtain ⟨r3, σ2, cσ2, hT⟩ := tx_ci_some hT
    refine gx_callV (pc := 10) (As := []) (rest := []) cm_Mo_broken lk_Mo_206 (fx_Mo_broken_c l E σ _ cσ2) (rfl) (by decide) rfl rfl tx_fi_Mo_check_Mo_broken (Nat.le_of_ble_eq_true rfl) d_Mo_check_10 ?_
    change gx l E mi_Mo_check _ σ2 [(0, .ref (E.1 45))] 13 [.int r3]
    refine gx_istore_n (pc := 13) [(1, .int r3), (0, .ref (E.1 45))] d_Mo_check_13 rfl (Nat.le_of_ble_eq_true rfl) rfl ?_
    refine gx_aload_n (pc := 14) 1 d_Mo_check_14 rfl rfl ?_
    refine gx_iload_n (pc := 15) 0 d_Mo_check_15 rfl rfl ?_
    refine gx_if_ne (pc := 16) 23 d_Mo_check_16 rfl (fun h4 => ?_) (fun h4 => ?_)
    · have hT := tx_ifn h4 hT
      refine gx_iconst (pc := 23) (0 : Int32) d_Mo_check_23 (by decide) ?_
      refine gx_sub [0] rfl ?_
      exact fx_Mo_check_b24_w  σ2 r3 (0 : Int32) _ hT
    · have hT := tx_ifp h4 hT
      refine gx_iconst (pc := 19) (1 : Int32) d_Mo_check_19 (by decide) ?_
      refine gx_goto (pc := 20) 24 d_Mo_check_20 rfl ?_
      refine gx_sub [0] rfl ?_
      exact fx_Mo_check_b24_w  σ2 r3 (1 : Int32) _ hT
  · have hT := tx_ifn h1 hT
    refine gx_iconst (pc := 7) (0 : Int32) d_Mo_check_7 (by decide) ?_
    cases hT
    exact gx_iret (pc := 8) d_Mo_check_8 rfl rfl
theorem d_Mo_typesAt_0 : decode c_Mo_typesAt 0 = .ok (.aload_n 0, 1) := by decide +kernel
theorem d_Mo_typesAt_1 : decode c_Mo_typesAt 1 = .ok (.getfield 94, 3) := by decide +kernel
theorem d_Mo_typesAt_4 : decode c_Mo_typesAt 4 = .ok (.ifCond .eq (25), 3) := by decide +kernel
theorem d_Mo_typesAt_7 : decode c_Mo_typesAt 7 = .ok (.aload_n 0, 1) := by decide +kernel
theorem d_Mo_typesAt_8 : decode c_Mo_typesAt 8 = .ok (.iload_n 1, 1) := by decide +kernel
theorem d_Mo_typesAt_9 : decode c_Mo_typesAt 9 = .ok (.invokevirtual 108, 3) := by decide +kernel
theorem d_Mo_typesAt_12 : decode c_Mo_typesAt 12 = .ok (.ifCond .eq (17), 3) := by decide +kernel
theorem d_Mo_typesAt_15 : decode c_Mo_typesAt 15 = .ok (.iload_n 2, 1) := by decide +kernel
theorem d_Mo_typesAt_16 : decode c_Mo_typesAt 16 = .ok (.ifCond .lt (13), 3) := by decide +kernel
theorem d_Mo_typesAt_19 : decode c_Mo_typesAt 19 = .ok (.iload_n 2, 1) := by decide +kernel
theorem d_Mo_typesAt_20 : decode c_Mo_typesAt 20 = .ok (.aload_n 0, 1) := by decide +kernel
theorem d_Mo_typesAt_21 : decode c_Mo_typesAt 21 = .ok (.getfield 40, 3) := by decide +kernel
theorem d_Mo_typesAt_24 : decode c_Mo_typesAt 24 = .ok (.iload_n 1, 1) := by decide +kernel
theorem d_Mo_typesAt_25 : decode c_Mo_typesAt 25 = .ok (.iaload, 1) := by decide +kernel
theorem d_Mo_typesAt_26 : decode c_Mo_typesAt 26 = .ok (.if_icmp .lt (7), 3) := by decide +kernel
theorem d_Mo_typesAt_29 : decode c_Mo_typesAt 29 = .ok (.iconst (-1), 1) := by decide +kernel
theorem d_Mo_typesAt_30 : decode c_Mo_typesAt 30 = .ok (.goto (14), 3) := by decide +kernel
theorem d_Mo_typesAt_33 : decode c_Mo_typesAt 33 = .ok (.aload_n 0, 1) := by decide +kernel
theorem d_Mo_typesAt_34 : decode c_Mo_typesAt 34 = .ok (.getfield 49, 3) := by decide +kernel
theorem d_Mo_typesAt_37 : decode c_Mo_typesAt 37 = .ok (.bipush (12), 2) := by decide +kernel
theorem d_Mo_typesAt_39 : decode c_Mo_typesAt 39 = .ok (.iload_n 1, 1) := by decide +kernel
theorem d_Mo_typesAt_40 : decode c_Mo_typesAt 40 = .ok (.imul, 1) := by decide +kernel
theorem d_Mo_typesAt_41 : decode c_Mo_typesAt 41 = .ok (.iload_n 2, 1) := by decide +kernel
theorem d_Mo_typesAt_42 : decode c_Mo_typesAt 42 = .ok (.iadd, 1) := by decide +kernel
theorem d_Mo_typesAt_43 : decode c_Mo_typesAt 43 = .ok (.iaload, 1) := by decide +kernel
theorem d_Mo_typesAt_44 : decode c_Mo_typesAt 44 = .ok (.ireturn, 1) := by decide +kernel
def fx_Mo_typesAt_b44 (σ : tx_St) (s0 : Int32) : Option (Int32 × tx_St) := some (s0, σ)
def fx_Mo_typesAt_b29 (σ : tx_St) : Option (Int32 × tx_St) := fx_Mo_typesAt_b44  σ (-1 : Int32)
def fx_Mo_typesAt (σ : tx_St) (x1 : Int32) (x2 : Int32) : Option (Int32 × tx_St) := (if (σ 45 16) = 0 then fx_Mo_typesAt_b29  σ else tx_ci (fx_Mo_isMethod σ x1) fun r3 σ2 => (if r3 = 0 then fx_Mo_typesAt_b29  σ2 else (if x2 < 0 then fx_Mo_typesAt_b29  σ2 else tx_rd σ2 56 8 x1 fun v6 => (if x2 < v6 then tx_rd σ2 59 96 (((12 : Int32) * x1) + x2) fun v8 => fx_Mo_typesAt_b44  σ2 v8 else fx_Mo_typesAt_b29  σ2))))
set_option maxRecDepth 100000 in
set_option maxHeartbeats 4000000 in
theorem fx_Mo_typesAt_b44_w {l : Launch} {E : tx_E} (σ : tx_St) (s0 : Int32) (t : Int32 × tx_St) (hT : fx_Mo_typesAt_b44 σ s0 = some t) : gx l E mi_Mo_typesAt (some (.int t.1), t.2) σ [] 44 [.int s0] := by
  unfold fx_Mo_typesAt_b44 at hT
  cases hT
  exact gx_iret (pc := 44) d_Mo_typesAt_44 rfl rfl
set_option maxRecDepth 100000 in
set_option maxHeartbeats 4000000 in
theorem fx_Mo_typesAt_b29_w {l : Launch} {E : tx_E} (σ : tx_St) (t : Int32 × tx_St) (hT : fx_Mo_typesAt_b29 σ  = some t) : gx l E mi_Mo_typesAt (some (.int t.1), t.2) σ [] 29 [] := by
  unfold fx_Mo_typesAt_b29 at hT
  refine gx_iconst (pc := 29) (-1 : Int32) d_Mo_typesAt_29 (by decide) ?_
  refine gx_goto (pc := 30) 44 d_Mo_typesAt_30 rfl ?_
  exact fx_Mo_typesAt_b44_w  σ (-1 : Int32) _ hT
set_option maxRecDepth 100000 in
set_option maxHeartbeats 4000000 in
theorem fx_Mo_typesAt_c (l : Launch) (E : tx_E) (σ : tx_St) (x1 : Int32) (x2 : Int32) (t : Int32 × tx_St) (hT : fx_Mo_typesAt σ x1 x2 = some t) : tx_MX l E y_Mo_typesAt mi_Mo_typesAt (some (.int t.1), t.2) [.ref (E.1 45), .int x1, .int x2] σ := by
  refine tx_MX_of (by decide) rfl (Nat.le_of_ble_eq_true rfl) ?_
  show gx l E mi_Mo_typesAt (some (.int t.1), t.2) σ [(0, .ref (E.1 45)), (1, .int x1), (2, .int x2)] 0 []
  unfold fx_Mo_typesAt at hT
  refine gx_aload_n (pc := 0) 0 d_Mo_typesAt_0 rfl rfl ?_
  refine gx_getI (pc := 1) (σ 45 16) fl_Mo_94 d_Mo_typesAt_1 (rfl) (by decide) rfl rfl ?_
  refine gx_if_eq (pc := 4) 29 d_Mo_typesAt_4 rfl (fun h1 => ?_) (fun h1 => ?_)
  · have hT := tx_ifp h1 hT
    refine gx_sub [] rfl ?_
    exact fx_Mo_typesAt_b29_w  σ _ hT
  · have hT := tx_ifn h1 hT
    refine gx_aload_n (pc := 7) 0 d_Mo_typesAt_7 rfl rfl ?_
    refine gx_iload_n (pc := 8) 1 d_Mo_typesAt_8 rfl rfl ?_
    obtain ⟨r3, σ2, cσ2, hT⟩ := tx_ci_some hT
    refine gx_callV (pc := 9) (As := [.int x1]) (rest := []) cm_Mo_isMethod lk_Mo_108 (fx_Mo_isMethod_c l E σ x1 _ cσ2) (rfl) (by decide) rfl rfl tx_fi_Mo_typesAt_Mo_isMethod (Nat.le_of_ble_eq_true rfl) d_Mo_typesAt_9 ?_
    change gx l E mi_Mo_typesAt _ σ2 [(0, .ref (E.1 45)), (1, .int x1), (2, .int x2)] 12 [.int r3]
    refine gx_if_eq (pc := 12) 29 d_Mo_typesAt_12 rfl (fun h4 => ?_) (fun h4 => ?_)
    · have hT := tx_ifp h4 hT
      refine gx_sub [] rfl ?_
      exact fx_Mo_typesAt_b29_w  σ2 _ hT
    · have hT := tx_ifn h4 hT
      refine gx_iload_n (pc := 15) 2 d_Mo_typesAt_15 rfl rfl ?_
      refine gx_if_lt (pc := 16) 29 d_Mo_typesAt_16 rfl (fun h5 => ?_) (fun h5 => ?_)
      · have hT := tx_ifp h5 hT
        refine gx_sub [] rfl ?_
        exact fx_Mo_typesAt_b29_w  σ2 _ hT
      · have hT := tx_ifn h5 hT
        refine gx_iload_n (pc := 19) 2 d_Mo_typesAt_19 rfl rfl ?_
        refine gx_aload_n (pc := 20) 0 d_Mo_typesAt_20 rfl rfl ?_
        refine gx_getR (pc := 21) 56 fl_Mo_40 d_Mo_typesAt_21 (rfl) (by decide) rfl ?_
        refine gx_iload_n (pc := 24) 1 d_Mo_typesAt_24 rfl rfl ?_
        obtain ⟨v6, gv6, iv6, hT⟩ := tx_rd_some hT
        refine gx_iald (pc := 25) v6 d_Mo_typesAt_25 (rfl) iv6 gv6 ?_
        refine gx_icmp_lt (pc := 26) 33 d_Mo_typesAt_26 rfl (fun h7 => ?_) (fun h7 => ?_)
        · have hT := tx_ifp h7 hT
          refine gx_aload_n (pc := 33) 0 d_Mo_typesAt_33 rfl rfl ?_
          refine gx_getR (pc := 34) 59 fl_Mo_49 d_Mo_typesAt_34 (rfl) (by decide) rfl ?_
          refine gx_bipush (pc := 37) (12 : Int32) d_Mo_typesAt_37 (by decide) ?_
          refine gx_iload_n (pc := 39) 1 d_Mo_typesAt_39 rfl rfl ?_
          refine gx_imul (pc := 40) d_Mo_typesAt_40 ?_
          refine gx_iload_n (pc := 41) 2 d_Mo_typesAt_41 rfl rfl ?_
          refine gx_iadd (pc := 42) d_Mo_typesAt_42 ?_
          obtain ⟨v8, gv8, iv8, hT⟩ := tx_rd_some hT
          refine gx_iald (pc := 43) v8 d_Mo_typesAt_43 (rfl) iv8 gv8 ?_
          refine gx_sub [] rfl ?_
          exact fx_Mo_typesAt_b44_w  σ2 v8 _ hT
        · have hT := tx_ifn h7 hT
          refine gx_sub [] rfl ?_
          exact fx_Mo_typesAt_b29_w  σ2 _ hT
theorem d_Mo_holds_0 : decode c_Mo_holds 0 = .ok (.iload_n 1, 1) := by decide +kernel
theorem d_Mo_holds_1 : decode c_Mo_holds 1 = .ok (.ifCond .lt (15), 3) := by decide +kernel
theorem d_Mo_holds_4 : decode c_Mo_holds 4 = .ok (.iload_n 1, 1) := by decide +kernel
theorem d_Mo_holds_5 : decode c_Mo_holds 5 = .ok (.aload_n 0, 1) := by decide +kernel
theorem d_Mo_holds_6 : decode c_Mo_holds 6 = .ok (.getfield 111, 3) := by decide +kernel
theorem d_Mo_holds_9 : decode c_Mo_holds 9 = .ok (.if_icmp .ge (7), 3) := by decide +kernel
theorem d_Mo_holds_12 : decode c_Mo_holds 12 = .ok (.iconst (1), 1) := by decide +kernel
theorem d_Mo_holds_13 : decode c_Mo_holds 13 = .ok (.goto (4), 3) := by decide +kernel
theorem d_Mo_holds_16 : decode c_Mo_holds 16 = .ok (.iconst (0), 1) := by decide +kernel
theorem d_Mo_holds_17 : decode c_Mo_holds 17 = .ok (.ireturn, 1) := by decide +kernel
def fx_Mo_holds_b17 (σ : tx_St) (s0 : Int32) : Option (Int32 × tx_St) := tx_rz s0 σ
def fx_Mo_holds_b16 (σ : tx_St) : Option (Int32 × tx_St) := fx_Mo_holds_b17  σ (0 : Int32)
def fx_Mo_holds (σ : tx_St) (x1 : Int32) : Option (Int32 × tx_St) := (if x1 < 0 then fx_Mo_holds_b16  σ else (if (σ 45 23) ≤ x1 then fx_Mo_holds_b16  σ else fx_Mo_holds_b17  σ (1 : Int32)))
set_option maxRecDepth 100000 in
set_option maxHeartbeats 4000000 in
theorem fx_Mo_holds_b17_w {l : Launch} {E : tx_E} (σ : tx_St) (s0 : Int32) (t : Int32 × tx_St) (hT : fx_Mo_holds_b17 σ s0 = some t) : gx l E mi_Mo_holds (some (.int t.1), t.2) σ [] 17 [.int s0] := by
  unfold fx_Mo_holds_b17 at hT
  obtain ⟨hz, hT⟩ := tx_rz_some hT
  cases hT
  exact gx_zret (pc := 17) d_Mo_holds_17 rfl hz rfl
set_option maxRecDepth 100000 in
set_option maxHeartbeats 4000000 in
theorem fx_Mo_holds_b16_w {l : Launch} {E : tx_E} (σ : tx_St) (t : Int32 × tx_St) (hT : fx_Mo_holds_b16 σ  = some t) : gx l E mi_Mo_holds (some (.int t.1), t.2) σ [] 16 [] := by
  unfold fx_Mo_holds_b16 at hT
  refine gx_iconst (pc := 16) (0 : Int32) d_Mo_holds_16 (by decide) ?_
  exact fx_Mo_holds_b17_w  σ (0 : Int32) _ hT
set_option maxRecDepth 100000 in
set_option maxHeartbeats 4000000 in
theorem fx_Mo_holds_c (l : Launch) (E : tx_E) (σ : tx_St) (x1 : Int32) (t : Int32 × tx_St) (hT : fx_Mo_holds σ x1 = some t) : tx_MX l E y_Mo_holds mi_Mo_holds (some (.int t.1), t.2) [.ref (E.1 45), .int x1] σ := by
  refine tx_MX_of (by decide) rfl (Nat.le_of_ble_eq_true rfl) ?_
  show gx l E mi_Mo_holds (some (.int t.1), t.2) σ [(0, .ref (E.1 45)), (1, .int x1)] 0 []
  unfold fx_Mo_holds at hT
  refine gx_iload_n (pc := 0) 1 d_Mo_holds_0 rfl rfl ?_
  refine gx_if_lt (pc := 1) 16 d_Mo_holds_1 rfl (fun h1 => ?_) (fun h1 => ?_)
  · have hT := tx_ifp h1 hT
    refine gx_sub [] rfl ?_
    exact fx_Mo_holds_b16_w  σ _ hT
  · have hT := tx_ifn h1 hT
    refine gx_iload_n (pc := 4) 1 d_Mo_holds_4 rfl rfl ?_
    refine gx_aload_n (pc := 5) 0 d_Mo_holds_5 rfl rfl ?_
    refine gx_getI (pc := 6) (σ 45 23) fl_Mo_111 d_Mo_holds_6 (rfl) (by decide) rfl rfl ?_
    refine gx_icmp_ge (pc := 9) 16 d_Mo_holds_9 rfl (fun h2 => ?_) (fun h2 => ?_)
    · have hT := tx_ifp h2 hT
      refine gx_sub [] rfl ?_
      exact fx_Mo_holds_b16_w  σ _ hT
    · have hT := tx_ifn h2 hT
      refine gx_iconst (pc := 12) (1 : Int32) d_Mo_holds_12 (by decide) ?_
      refine gx_goto (pc := 13) 17 d_Mo_holds_13 rfl ?_
      refine gx_sub [] rfl ?_
      exact fx_Mo_holds_b17_w  σ (1 : Int32) _ hT
