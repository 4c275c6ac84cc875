theorem d_Mo_once_0 : decode c_Mo_once 0 = .ok (.aload_n 0, 1) := by decide +kernel
theorem d_Mo_once_1 : decode c_Mo_once 1 = .ok (.getfield 210, 3) := by decide +kernel
theorem d_Mo_once_4 : decode c_Mo_once 4 = .ok (.iconst (1), 1) := by decide +kernel
theorem d_Mo_once_5 : decode c_Mo_once 5 = .ok (.isub, 1) := by decide +kernel
theorem d_Mo_once_6 : decode c_Mo_once 6 = .ok (.istore_n 1, 1) := by decide +kernel
theorem d_Mo_once_7 : decode c_Mo_once 7 = .ok (.aload_n 0, 1) := by decide +kernel
theorem d_Mo_once_8 : decode c_Mo_once 8 = .ok (.getfield 72, 3) := by decide +kernel
theorem d_Mo_once_11 : decode c_Mo_once 11 = .ok (.iload_n 1, 1) := by decide +kernel
theorem d_Mo_once_12 : decode c_Mo_once 12 = .ok (.iaload, 1) := by decide +kernel
theorem d_Mo_once_13 : decode c_Mo_once 13 = .ok (.istore_n 2, 1) := by decide +kernel
theorem d_Mo_once_14 : decode c_Mo_once 14 = .ok (.aload_n 0, 1) := by decide +kernel
theorem d_Mo_once_15 : decode c_Mo_once 15 = .ok (.getfield 43, 3) := by decide +kernel
theorem d_Mo_once_18 : decode c_Mo_once 18 = .ok (.bipush (12), 2) := by decide +kernel
theorem d_Mo_once_20 : decode c_Mo_once 20 = .ok (.aload_n 0, 1) := by decide +kernel
theorem d_Mo_once_21 : decode c_Mo_once 21 = .ok (.getfield 69, 3) := by decide +kernel
theorem d_Mo_once_24 : decode c_Mo_once 24 = .ok (.iload_n 1, 1) := by decide +kernel
theorem d_Mo_once_25 : decode c_Mo_once 25 = .ok (.iaload, 1) := by decide +kernel
theorem d_Mo_once_26 : decode c_Mo_once 26 = .ok (.imul, 1) := by decide +kernel
theorem d_Mo_once_27 : decode c_Mo_once 27 = .ok (.iload_n 2, 1) := by decide +kernel
theorem d_Mo_once_28 : decode c_Mo_once 28 = .ok (.iadd, 1) := by decide +kernel
theorem d_Mo_once_29 : decode c_Mo_once 29 = .ok (.iaload, 1) := by decide +kernel
theorem d_Mo_once_30 : decode c_Mo_once 30 = .ok (.istore_n 3, 1) := by decide +kernel
theorem d_Mo_once_31 : decode c_Mo_once 31 = .ok (.aload_n 0, 1) := by decide +kernel
theorem d_Mo_once_32 : decode c_Mo_once 32 = .ok (.getfield 46, 3) := by decide +kernel
theorem d_Mo_once_35 : decode c_Mo_once 35 = .ok (.bipush (12), 2) := by decide +kernel
theorem d_Mo_once_37 : decode c_Mo_once 37 = .ok (.aload_n 0, 1) := by decide +kernel
theorem d_Mo_once_38 : decode c_Mo_once 38 = .ok (.getfield 69, 3) := by decide +kernel
theorem d_Mo_once_41 : decode c_Mo_once 41 = .ok (.iload_n 1, 1) := by decide +kernel
theorem d_Mo_once_42 : decode c_Mo_once 42 = .ok (.iaload, 1) := by decide +kernel
theorem d_Mo_once_43 : decode c_Mo_once 43 = .ok (.imul, 1) := by decide +kernel
theorem d_Mo_once_44 : decode c_Mo_once 44 = .ok (.iload_n 2, 1) := by decide +kernel
theorem d_Mo_once_45 : decode c_Mo_once 45 = .ok (.iadd, 1) := by decide +kernel
theorem d_Mo_once_46 : decode c_Mo_once 46 = .ok (.iaload, 1) := by decide +kernel
theorem d_Mo_once_47 : decode c_Mo_once 47 = .ok (.istore 4, 2) := by decide +kernel
theorem d_Mo_once_49 : decode c_Mo_once 49 = .ok (.aload_n 0, 1) := by decide +kernel
theorem d_Mo_once_50 : decode c_Mo_once 50 = .ok (.getfield 72, 3) := by decide +kernel
theorem d_Mo_once_53 : decode c_Mo_once 53 = .ok (.iload_n 1, 1) := by decide +kernel
theorem d_Mo_once_54 : decode c_Mo_once 54 = .ok (.iload_n 2, 1) := by decide +kernel
theorem d_Mo_once_55 : decode c_Mo_once 55 = .ok (.iconst (1), 1) := by decide +kernel
theorem d_Mo_once_56 : decode c_Mo_once 56 = .ok (.iadd, 1) := by decide +kernel
theorem d_Mo_once_57 : decode c_Mo_once 57 = .ok (.iastore, 1) := by decide +kernel
theorem d_Mo_once_58 : decode c_Mo_once 58 = .ok (.iload_n 3, 1) := by decide +kernel
theorem d_Mo_once_59 : decode c_Mo_once 59 = .ok (.bipush (7), 2) := by decide +kernel
theorem d_Mo_once_61 : decode c_Mo_once 61 = .ok (.if_icmp .ne (12), 3) := by decide +kernel
theorem d_Mo_once_64 : decode c_Mo_once 64 = .ok (.aload_n 0, 1) := by decide +kernel
theorem d_Mo_once_65 : decode c_Mo_once 65 = .ok (.iconst (2), 1) := by decide +kernel
theorem d_Mo_once_66 : decode c_Mo_once 66 = .ok (.iload 4, 2) := by decide +kernel
theorem d_Mo_once_68 : decode c_Mo_once 68 = .ok (.iadd, 1) := by decide +kernel
theorem d_Mo_once_69 : decode c_Mo_once 69 = .ok (.invokevirtual 239, 3) := by decide +kernel
theorem d_Mo_once_72 : decode c_Mo_once 72 = .ok (.ireturn, 1) := by decide +kernel
theorem d_Mo_once_73 : decode c_Mo_once 73 = .ok (.iload_n 3, 1) := by decide +kernel
theorem d_Mo_once_74 : decode c_Mo_once 74 = .ok (.bipush (8), 2) := by decide +kernel
theorem d_Mo_once_76 : decode c_Mo_once 76 = .ok (.if_icmp .eq (9), 3) := by decide +kernel
theorem d_Mo_once_79 : decode c_Mo_once 79 = .ok (.iload_n 3, 1) := by decide +kernel
theorem d_Mo_once_80 : decode c_Mo_once 80 = .ok (.bipush (9), 2) := by decide +kernel
theorem d_Mo_once_82 : decode c_Mo_once 82 = .ok (.if_icmp .ne (21), 3) := by decide +kernel
theorem d_Mo_once_85 : decode c_Mo_once 85 = .ok (.aload_n 0, 1) := by decide +kernel
theorem d_Mo_once_86 : decode c_Mo_once 86 = .ok (.iload_n 3, 1) := by decide +kernel
theorem d_Mo_once_87 : decode c_Mo_once 87 = .ok (.bipush (9), 2) := by decide +kernel
theorem d_Mo_once_89 : decode c_Mo_once 89 = .ok (.if_icmp .ne (7), 3) := by decide +kernel
theorem d_Mo_once_92 : decode c_Mo_once 92 = .ok (.iconst (1), 1) := by decide +kernel
theorem d_Mo_once_93 : decode c_Mo_once 93 = .ok (.goto (4), 3) := by decide +kernel
theorem d_Mo_once_96 : decode c_Mo_once 96 = .ok (.iconst (0), 1) := by decide +kernel
theorem d_Mo_once_97 : decode c_Mo_once 97 = .ok (.iload 4, 2) := by decide +kernel
theorem d_Mo_once_99 : decode c_Mo_once 99 = .ok (.invokevirtual 242, 3) := by decide +kernel
theorem d_Mo_once_102 : decode c_Mo_once 102 = .ok (.ireturn, 1) := by decide +kernel
theorem d_Mo_once_103 : decode c_Mo_once 103 = .ok (.iload_n 3, 1) := by decide +kernel
theorem d_Mo_once_104 : decode c_Mo_once 104 = .ok (.bipush (12), 2) := by decide +kernel
theorem d_Mo_once_106 : decode c_Mo_once 106 = .ok (.if_icmp .ne (10), 3) := by decide +kernel
theorem d_Mo_once_109 : decode c_Mo_once 109 = .ok (.aload_n 0, 1) := by decide +kernel
theorem d_Mo_once_110 : decode c_Mo_once 110 = .ok (.iload 4, 2) := by decide +kernel
theorem d_Mo_once_112 : decode c_Mo_once 112 = .ok (.invokevirtual 246, 3) := by decide +kernel
theorem d_Mo_once_115 : decode c_Mo_once 115 = .ok (.ireturn, 1) := by decide +kernel
theorem d_Mo_once_116 : decode c_Mo_once 116 = .ok (.iload_n 3, 1) := by decide +kernel
theorem d_Mo_once_117 : decode c_Mo_once 117 = .ok (.bipush (13), 2) := by decide +kernel
theorem d_Mo_once_119 : decode c_Mo_once 119 = .ok (.if_icmp .ne (9), 3) := by decide +kernel
theorem d_Mo_once_122 : decode c_Mo_once 122 = .ok (.aload_n 0, 1) := by decide +kernel
theorem d_Mo_once_123 : decode c_Mo_once 123 = .ok (.iconst (1), 1) := by decide +kernel
theorem d_Mo_once_124 : decode c_Mo_once 124 = .ok (.invokevirtual 239, 3) := by decide +kernel
theorem d_Mo_once_127 : decode c_Mo_once 127 = .ok (.ireturn, 1) := by decide +kernel
theorem d_Mo_once_128 : decode c_Mo_once 128 = .ok (.iload_n 3, 1) := by decide +kernel
theorem d_Mo_once_129 : decode c_Mo_once 129 = .ok (.bipush (14), 2) := by decide +kernel
theorem d_Mo_once_131 : decode c_Mo_once 131 = .ok (.if_icmp .eq (9), 3) := by decide +kernel
theorem d_Mo_once_134 : decode c_Mo_once 134 = .ok (.iload_n 3, 1) := by decide +kernel
theorem d_Mo_once_135 : decode c_Mo_once 135 = .ok (.bipush (15), 2) := by decide +kernel
theorem d_Mo_once_137 : decode c_Mo_once 137 = .ok (.if_icmp .ne (20), 3) := by decide +kernel
theorem d_Mo_once_140 : decode c_Mo_once 140 = .ok (.aload_n 0, 1) := by decide +kernel
theorem d_Mo_once_141 : decode c_Mo_once 141 = .ok (.iload_n 3, 1) := by decide +kernel
theorem d_Mo_once_142 : decode c_Mo_once 142 = .ok (.bipush (15), 2) := by decide +kernel
theorem d_Mo_once_144 : decode c_Mo_once 144 = .ok (.if_icmp .ne (7), 3) := by decide +kernel
theorem d_Mo_once_147 : decode c_Mo_once 147 = .ok (.iconst (1), 1) := by decide +kernel
theorem d_Mo_once_148 : decode c_Mo_once 148 = .ok (.goto (4), 3) := by decide +kernel
theorem d_Mo_once_151 : decode c_Mo_once 151 = .ok (.iconst (0), 1) := by decide +kernel
theorem d_Mo_once_152 : decode c_Mo_once 152 = .ok (.iconst (0), 1) := by decide +kernel
theorem d_Mo_once_153 : decode c_Mo_once 153 = .ok (.invokevirtual 242, 3) := by decide +kernel
theorem d_Mo_once_156 : decode c_Mo_once 156 = .ok (.ireturn, 1) := by decide +kernel
theorem d_Mo_once_157 : decode c_Mo_once 157 = .ok (.iload_n 3, 1) := by decide +kernel
theorem d_Mo_once_158 : decode c_Mo_once 158 = .ok (.ifCond .ne (9), 3) := by decide +kernel
theorem d_Mo_once_161 : decode c_Mo_once 161 = .ok (.aload_n 0, 1) := by decide +kernel
theorem d_Mo_once_162 : decode c_Mo_once 162 = .ok (.iload 4, 2) := by decide +kernel
theorem d_Mo_once_164 : decode c_Mo_once 164 = .ok (.invokevirtual 229, 3) := by decide +kernel
theorem d_Mo_once_167 : decode c_Mo_once 167 = .ok (.iload_n 3, 1) := by decide +kernel
theorem d_Mo_once_168 : decode c_Mo_once 168 = .ok (.iconst (1), 1) := by decide +kernel
theorem d_Mo_once_169 : decode c_Mo_once 169 = .ok (.if_icmp .ne (18), 3) := by decide +kernel
theorem d_Mo_once_172 : decode c_Mo_once 172 = .ok (.aload_n 0, 1) := by decide +kernel
theorem d_Mo_once_173 : decode c_Mo_once 173 = .ok (.aload_n 0, 1) := by decide +kernel
theorem d_Mo_once_174 : decode c_Mo_once 174 = .ok (.getfield 81, 3) := by decide +kernel
theorem d_Mo_once_177 : decode c_Mo_once 177 = .ok (.iconst (3), 1) := by decide +kernel
theorem d_Mo_once_178 : decode c_Mo_once 178 = .ok (.iload_n 1, 1) := by decide +kernel
theorem d_Mo_once_179 : decode c_Mo_once 179 = .ok (.imul, 1) := by decide +kernel
theorem d_Mo_once_180 : decode c_Mo_once 180 = .ok (.iload 4, 2) := by decide +kernel
theorem d_Mo_once_182 : decode c_Mo_once 182 = .ok (.iadd, 1) := by decide +kernel
theorem d_Mo_once_183 : decode c_Mo_once 183 = .ok (.iaload, 1) := by decide +kernel
theorem d_Mo_once_184 : decode c_Mo_once 184 = .ok (.invokevirtual 229, 3) := by decide +kernel
theorem d_Mo_once_187 : decode c_Mo_once 187 = .ok (.iload_n 3, 1) := by decide +kernel
theorem d_Mo_once_188 : decode c_Mo_once 188 = .ok (.iconst (2), 1) := by decide +kernel
theorem d_Mo_once_189 : decode c_Mo_once 189 = .ok (.if_icmp .ne (18), 3) := by decide +kernel
theorem d_Mo_once_192 : decode c_Mo_once 192 = .ok (.aload_n 0, 1) := by decide +kernel
theorem d_Mo_once_193 : decode c_Mo_once 193 = .ok (.getfield 81, 3) := by decide +kernel
theorem d_Mo_once_196 : decode c_Mo_once 196 = .ok (.iconst (3), 1) := by decide +kernel
theorem d_Mo_once_197 : decode c_Mo_once 197 = .ok (.iload_n 1, 1) := by decide +kernel
theorem d_Mo_once_198 : decode c_Mo_once 198 = .ok (.imul, 1) := by decide +kernel
theorem d_Mo_once_199 : decode c_Mo_once 199 = .ok (.iload 4, 2) := by decide +kernel
theorem d_Mo_once_201 : decode c_Mo_once 201 = .ok (.iadd, 1) := by decide +kernel
theorem d_Mo_once_202 : decode c_Mo_once 202 = .ok (.aload_n 0, 1) := by decide +kernel
theorem d_Mo_once_203 : decode c_Mo_once 203 = .ok (.invokevirtual 213, 3) := by decide +kernel
theorem d_Mo_once_206 : decode c_Mo_once 206 = .ok (.iastore, 1) := by decide +kernel
theorem d_Mo_once_207 : decode c_Mo_once 207 = .ok (.iload_n 3, 1) := by decide +kernel
theorem d_Mo_once_208 : decode c_Mo_once 208 = .ok (.iconst (3), 1) := by decide +kernel
theorem d_Mo_once_209 : decode c_Mo_once 209 = .ok (.if_icmp .eq (14), 3) := by decide +kernel
theorem d_Mo_once_212 : decode c_Mo_once 212 = .ok (.iload_n 3, 1) := by decide +kernel
theorem d_Mo_once_213 : decode c_Mo_once 213 = .ok (.iconst (4), 1) := by decide +kernel
theorem d_Mo_once_214 : decode c_Mo_once 214 = .ok (.if_icmp .eq (9), 3) := by decide +kernel
theorem d_Mo_once_217 : decode c_Mo_once 217 = .ok (.iload_n 3, 1) := by decide +kernel
theorem d_Mo_once_218 : decode c_Mo_once 218 = .ok (.bipush (16), 2) := by decide +kernel
theorem d_Mo_once_220 : decode c_Mo_once 220 = .ok (.if_icmp .ne (8), 3) := by decide +kernel
theorem d_Mo_once_223 : decode c_Mo_once 223 = .ok (.aload_n 0, 1) := by decide +kernel
theorem d_Mo_once_224 : decode c_Mo_once 224 = .ok (.iload_n 3, 1) := by decide +kernel
theorem d_Mo_once_225 : decode c_Mo_once 225 = .ok (.invokevirtual 249, 3) := by decide +kernel
theorem d_Mo_once_228 : decode c_Mo_once 228 = .ok (.iload_n 3, 1) := by decide +kernel
theorem d_Mo_once_229 : decode c_Mo_once 229 = .ok (.iconst (5), 1) := by decide +kernel
theorem d_Mo_once_230 : decode c_Mo_once 230 = .ok (.if_icmp .ne (11), 3) := by decide +kernel
theorem d_Mo_once_233 : decode c_Mo_once 233 = .ok (.aload_n 0, 1) := by decide +kernel
theorem d_Mo_once_234 : decode c_Mo_once 234 = .ok (.getfield 72, 3) := by decide +kernel
theorem d_Mo_once_237 : decode c_Mo_once 237 = .ok (.iload_n 1, 1) := by decide +kernel
theorem d_Mo_once_238 : decode c_Mo_once 238 = .ok (.iload 4, 2) := by decide +kernel
theorem d_Mo_once_240 : decode c_Mo_once 240 = .ok (.iastore, 1) := by decide +kernel
theorem d_Mo_once_241 : decode c_Mo_once 241 = .ok (.iload_n 3, 1) := by decide +kernel
theorem d_Mo_once_242 : decode c_Mo_once 242 = .ok (.bipush (6), 2) := by decide +kernel
theorem d_Mo_once_244 : decode c_Mo_once 244 = .ok (.if_icmp .ne (28), 3) := by decide +kernel
theorem d_Mo_once_247 : decode c_Mo_once 247 = .ok (.aload_n 0, 1) := by decide +kernel
theorem d_Mo_once_248 : decode c_Mo_once 248 = .ok (.invokevirtual 213, 3) := by decide +kernel
theorem d_Mo_once_251 : decode c_Mo_once 251 = .ok (.istore 5, 2) := by decide +kernel
theorem d_Mo_once_253 : decode c_Mo_once 253 = .ok (.aload_n 0, 1) := by decide +kernel
theorem d_Mo_once_254 : decode c_Mo_once 254 = .ok (.getfield 72, 3) := by decide +kernel
theorem d_Mo_once_257 : decode c_Mo_once 257 = .ok (.iload_n 1, 1) := by decide +kernel
theorem d_Mo_once_258 : decode c_Mo_once 258 = .ok (.iload 5, 2) := by decide +kernel
theorem d_Mo_once_260 : decode c_Mo_once 260 = .ok (.ifCond .ne (8), 3) := by decide +kernel
theorem d_Mo_once_263 : decode c_Mo_once 263 = .ok (.iload 4, 2) := by decide +kernel
theorem d_Mo_once_265 : decode c_Mo_once 265 = .ok (.goto (6), 3) := by decide +kernel
theorem d_Mo_once_268 : decode c_Mo_once 268 = .ok (.iload_n 2, 1) := by decide +kernel
theorem d_Mo_once_269 : decode c_Mo_once 269 = .ok (.iconst (1), 1) := by decide +kernel
theorem d_Mo_once_270 : decode c_Mo_once 270 = .ok (.iadd, 1) := by decide +kernel
theorem d_Mo_once_271 : decode c_Mo_once 271 = .ok (.iastore, 1) := by decide +kernel
theorem d_Mo_once_272 : decode c_Mo_once 272 = .ok (.iload_n 3, 1) := by decide +kernel
theorem d_Mo_once_273 : decode c_Mo_once 273 = .ok (.bipush (10), 2) := by decide +kernel
theorem d_Mo_once_275 : decode c_Mo_once 275 = .ok (.if_icmp .eq (9), 3) := by decide +kernel
theorem d_Mo_once_278 : decode c_Mo_once 278 = .ok (.iload_n 3, 1) := by decide +kernel
theorem d_Mo_once_279 : decode c_Mo_once 279 = .ok (.bipush (17), 2) := by decide +kernel
theorem d_Mo_once_281 : decode c_Mo_once 281 = .ok (.if_icmp .ne (8), 3) := by decide +kernel
theorem d_Mo_once_284 : decode c_Mo_once 284 = .ok (.aload_n 0, 1) := by decide +kernel
theorem d_Mo_once_285 : decode c_Mo_once 285 = .ok (.iconst (0), 1) := by decide +kernel
theorem d_Mo_once_286 : decode c_Mo_once 286 = .ok (.invokevirtual 229, 3) := by decide +kernel
theorem d_Mo_once_289 : decode c_Mo_once 289 = .ok (.iload_n 3, 1) := by decide +kernel
theorem d_Mo_once_290 : decode c_Mo_once 290 = .ok (.bipush (18), 2) := by decide +kernel
theorem d_Mo_once_292 : decode c_Mo_once 292 = .ok (.if_icmp .ne (9), 3) := by decide +kernel
theorem d_Mo_once_295 : decode c_Mo_once 295 = .ok (.aload_n 0, 1) := by decide +kernel
theorem d_Mo_once_296 : decode c_Mo_once 296 = .ok (.iload 4, 2) := by decide +kernel
theorem d_Mo_once_298 : decode c_Mo_once 298 = .ok (.invokevirtual 252, 3) := by decide +kernel
theorem d_Mo_once_301 : decode c_Mo_once 301 = .ok (.iload_n 3, 1) := by decide +kernel
theorem d_Mo_once_302 : decode c_Mo_once 302 = .ok (.bipush (19), 2) := by decide +kernel
theorem d_Mo_once_304 : decode c_Mo_once 304 = .ok (.if_icmp .ne (7), 3) := by decide +kernel
theorem d_Mo_once_307 : decode c_Mo_once 307 = .ok (.aload_n 0, 1) := by decide +kernel
theorem d_Mo_once_308 : decode c_Mo_once 308 = .ok (.invokevirtual 255, 3) := by decide +kernel
theorem d_Mo_once_311 : decode c_Mo_once 311 = .ok (.iconst (0), 1) := by decide +kernel
theorem d_Mo_once_312 : decode c_Mo_once 312 = .ok (.ireturn, 1) := by decide +kernel
def fx_Mo_once_b97 (σ : tx_St) (x4 : Int32) (s0 : Int32) : Option (Int32 × tx_St) := tx_ci (fx_Mo_slotted σ s0 x4) fun r28 σ27 => some (r28, σ27)
def fx_Mo_once_b85 (σ : tx_St) (x3 : Int32) (x4 : Int32) : Option (Int32 × tx_St) := (if x3 = (9 : Int32) then fx_Mo_once_b97  σ x4 (1 : Int32) else fx_Mo_once_b97  σ x4 (0 : Int32))
def fx_Mo_once_b152 (σ : tx_St) (s0 : Int32) : Option (Int32 × tx_St) := tx_ci (fx_Mo_slotted σ s0 (0 : Int32)) fun r30 σ29 => some (r30, σ29)
def fx_Mo_once_b140 (σ : tx_St) (x3 : Int32) : Option (Int32 × tx_St) := (if x3 = (15 : Int32) then fx_Mo_once_b152  σ (1 : Int32) else fx_Mo_once_b152  σ (0 : Int32))
def fx_Mo_once_b311 (σ : tx_St) : Option (Int32 × tx_St) := some ((0 : Int32), σ)
def fx_Mo_once_b301 (σ : tx_St) (x3 : Int32) : Option (Int32 × tx_St) := (if x3 = (19 : Int32) then tx_cv (fx_Mo_back σ) fun σ52 => fx_Mo_once_b311  σ52 else fx_Mo_once_b311  σ)
def fx_Mo_once_b289 (σ : tx_St) (x3 : Int32) (x4 : Int32) : Option (Int32 × tx_St) := (if x3 = (18 : Int32) then tx_cv (fx_Mo_library σ x4) fun σ50 => fx_Mo_once_b301  σ50 x3 else fx_Mo_once_b301  σ x3)
def fx_Mo_once_b284 (σ : tx_St) (x3 : Int32) (x4 : Int32) : Option (Int32 × tx_St) := tx_cv (fx_Mo_push σ (0 : Int32)) fun σ48 => fx_Mo_once_b289  σ48 x3 x4
def fx_Mo_once_b272 (σ : tx_St) (x3 : Int32) (x4 : Int32) : Option (Int32 × tx_St) := (if x3 = (10 : Int32) then fx_Mo_once_b284  σ x3 x4 else (if x3 = (17 : Int32) then fx_Mo_once_b284  σ x3 x4 else fx_Mo_once_b289  σ x3 x4))
def fx_Mo_once_b271 (σ : tx_St) (x3 : Int32) (x4 : Int32) (s0 : Int32) (s1 : Int32) : Option (Int32 × tx_St) := tx_wr σ 65 6 s1 s0 fun σ47 => fx_Mo_once_b272  σ47 x3 x4
def fx_Mo_once_b241 (σ : tx_St) (x1 : Int32) (x2 : Int32) (x3 : Int32) (x4 : Int32) : Option (Int32 × tx_St) := (if x3 = (6 : Int32) then tx_ci (fx_Mo_pop σ) fun r43 σ42 => (if r43 = 0 then fx_Mo_once_b271  σ42 x3 x4 x4 x1 else fx_Mo_once_b271  σ42 x3 x4 (x2 + (1 : Int32)) x1) else fx_Mo_once_b272  σ x3 x4)
def fx_Mo_once_b228 (σ : tx_St) (x1 : Int32) (x2 : Int32) (x3 : Int32) (x4 : Int32) : Option (Int32 × tx_St) := (if x3 = (5 : Int32) then tx_wr σ 65 6 x1 x4 fun σ40 => fx_Mo_once_b241  σ40 x1 x2 x3 x4 else fx_Mo_once_b241  σ x1 x2 x3 x4)
def fx_Mo_once_b223 (σ : tx_St) (x1 : Int32) (x2 : Int32) (x3 : Int32) (x4 : Int32) : Option (Int32 × tx_St) := tx_cv (fx_Mo_sum σ x3) fun σ38 => fx_Mo_once_b228  σ38 x1 x2 x3 x4
def fx_Mo_once_b207 (σ : tx_St) (x1 : Int32) (x2 : Int32) (x3 : Int32) (x4 : Int32) : Option (Int32 × tx_St) := (if x3 = (3 : Int32) then fx_Mo_once_b223  σ x1 x2 x3 x4 else (if x3 = (4 : Int32) then fx_Mo_once_b223  σ x1 x2 x3 x4 else (if x3 = (16 : Int32) then fx_Mo_once_b223  σ x1 x2 x3 x4 else fx_Mo_once_b228  σ x1 x2 x3 x4)))
def fx_Mo_once_b187 (σ : tx_St) (x1 : Int32) (x2 : Int32) (x3 : Int32) (x4 : Int32) : Option (Int32 × tx_St) := (if x3 = (2 : Int32) then tx_ci (fx_Mo_pop σ) fun r33 σ32 => tx_wr σ32 68 18 (((3 : Int32) * x1) + x4) r33 fun σ34 => fx_Mo_once_b207  σ34 x1 x2 x3 x4 else fx_Mo_once_b207  σ x1 x2 x3 x4)
def fx_Mo_once_b167 (σ : tx_St) (x1 : Int32) (x2 : Int32) (x3 : Int32) (x4 : Int32) : Option (Int32 × tx_St) := (if x3 = (1 : Int32) then tx_rd σ 68 18 (((3 : Int32) * x1) + x4) fun v25 => tx_cv (fx_Mo_push σ v25) fun σ26 => fx_Mo_once_b187  σ26 x1 x2 x3 x4 else fx_Mo_once_b187  σ x1 x2 x3 x4)
def fx_Mo_once (σ : tx_St) : Option (Int32 × tx_St) := tx_rd σ 65 6 ((σ 45 28) - (1 : Int32)) fun v1 => tx_rd σ 64 6 ((σ 45 28) - (1 : Int32)) fun v2 => tx_rd σ 57 96 (((12 : Int32) * v2) + v1) fun v3 => tx_rd σ 64 6 ((σ 45 28) - (1 : Int32)) fun v4 => tx_rd σ 58 96 (((12 : Int32) * v4) + v1) fun v5 => tx_wr σ 65 6 ((σ 45 28) - (1 : Int32)) (v1 + (1 : Int32)) fun σ6 => (if v3 = (7 : Int32) then tx_ci (fx_Mo_make σ6 ((2 : Int32) + v5)) fun r21 σ20 => some (r21, σ20) else (if v3 = (8 : Int32) then fx_Mo_once_b85  σ6 v3 v5 else (if v3 = (9 : Int32) then fx_Mo_once_b85  σ6 v3 v5 else (if v3 = (12 : Int32) then tx_ci (fx_Mo_call σ6 v5) fun r19 σ18 => some (r19, σ18) else (if v3 = (13 : Int32) then tx_ci (fx_Mo_make σ6 (1 : Int32)) fun r17 σ16 => some (r17, σ16) else (if v3 = (14 : Int32) then fx_Mo_once_b140  σ6 v3 else (if v3 = (15 : Int32) then fx_Mo_once_b140  σ6 v3 else (if v3 = 0 then tx_cv (fx_Mo_push σ6 v5) fun σ15 => fx_Mo_once_b167  σ15 ((σ 45 28) - (1 : Int32)) v1 v3 v5 else fx_Mo_once_b167  σ6 ((σ 45 28) - (1 : Int32)) v1 v3 v5))))))))
set_option maxRecDepth 100000 in
set_option maxHeartbeats 4000000 in
theorem fx_Mo_once_b97_w {l : Launch} {E : tx_E} (σ : tx_St) (x4 : Int32) (s0 : Int32) (t : Int32 × tx_St) (hT : fx_Mo_once_b97 σ x4 s0 = some t) : gx l E mi_Mo_once (some (.int t.1), t.2) σ [(4, .int x4)] 97 [.int s0, .ref (E.1 45)] := by
  unfold fx_Mo_once_b97 at hT
  refine gx_iload (pc := 97) 0 d_Mo_once_97 rfl ?_
  obtain ⟨r28, σ27, cσ27, hT⟩ := tx_ci_some hT
  refine gx_callV (pc := 99) (As := [.int s0, .int x4]) (rest := []) cm_Mo_slotted lk_Mo_242 (fx_Mo_slotted_c l E σ s0 x4 _ cσ27) (rfl) (by decide) rfl rfl tx_fi_Mo_once_Mo_slotted (Nat.le_of_ble_eq_true rfl) d_Mo_once_99 ?_
  change gx l E mi_Mo_once _ σ27 [(4, .int x4)] 102 [.int r28]
  cases hT
  exact gx_iret (pc := 102) d_Mo_once_102 rfl rfl
set_option maxRecDepth 100000 in
set_option maxHeartbeats 4000000 in
theorem fx_Mo_once_b85_w {l : Launch} {E : tx_E} (σ : tx_St) (x3 : Int32) (x4 : Int32) (t : Int32 × tx_St) (hT : fx_Mo_once_b85 σ x3 x4 = some t) : gx l E mi_Mo_once (some (.int t.1), t.2) σ [(0, .ref (E.1 45)), (3, .int x3), (4, .int x4)] 85 [] := by
  unfold fx_Mo_once_b85 at hT
  refine gx_aload_n (pc := 85) 0 d_Mo_once_85 rfl rfl ?_
  refine gx_iload_n (pc := 86) 1 d_Mo_once_86 rfl rfl ?_
  refine gx_bipush (pc := 87) (9 : Int32) d_Mo_once_87 (by decide) ?_
  refine gx_icmp_ne (pc := 89) 96 d_Mo_once_89 rfl (fun h22 => ?_) (fun h22 => ?_)
  · have hT := tx_ifn h22 hT
    refine gx_iconst (pc := 96) (0 : Int32) d_Mo_once_96 (by decide) ?_
    refine gx_sub [2] rfl ?_
    exact fx_Mo_once_b97_w  σ x4 (0 : Int32) _ hT
  · have hT := tx_ifp h22 hT
    refine gx_iconst (pc := 92) (1 : Int32) d_Mo_once_92 (by decide) ?_
    refine gx_goto (pc := 93) 97 d_Mo_once_93 rfl ?_
    refine gx_sub [2] rfl ?_
    exact fx_Mo_once_b97_w  σ x4 (1 : Int32) _ hT
set_option maxRecDepth 100000 in
set_option maxHeartbeats 4000000 in
theorem fx_Mo_once_b152_w {l : Launch} {E : tx_E} (σ : tx_St) (s0 : Int32) (t : Int32 × tx_St) (hT : fx_Mo_once_b152 σ s0 = some t) : gx l E mi_Mo_once (some (.int t.1), t.2) σ [] 152 [.int s0, .ref (E.1 45)] := by
  unfold fx_Mo_once_b152 at hT
  refine gx_iconst (pc := 152) (0 : Int32) d_Mo_once_152 (by decide) ?_
  obtain ⟨r30, σ29, cσ29, hT⟩ := tx_ci_some hT
  refine gx_callV (pc := 153) (As := [.int s0, .int (0 : Int32)]) (rest := []) cm_Mo_slotted lk_Mo_242 (fx_Mo_slotted_c l E σ s0 (0 : Int32) _ cσ29) (rfl) (by decide) rfl rfl tx_fi_Mo_once_Mo_slotted (Nat.le_of_ble_eq_true rfl) d_Mo_once_153 ?_
  change gx l E mi_Mo_once _ σ29 [] 156 [.int r30]
  cases hT
  exact gx_iret (pc := 156) d_Mo_once_156 rfl rfl
set_option maxRecDepth 100000 in
set_option maxHeartbeats 4000000 in
theorem fx_Mo_once_b140_w {l : Launch} {E : tx_E} (σ : tx_St) (x3 : Int32) (t : Int32 × tx_St) (hT : fx_Mo_once_b140 σ x3 = some t) : gx l E mi_Mo_once (some (.int t.1), t.2) σ [(0, .ref (E.1 45)), (3, .int x3)] 140 [] := by
  unfold fx_Mo_once_b140 at hT
  refine gx_aload_n (pc := 140) 0 d_Mo_once_140 rfl rfl ?_
  refine gx_iload_n (pc := 141) 1 d_Mo_once_141 rfl rfl ?_
  refine gx_bipush (pc := 142) (15 : Int32) d_Mo_once_142 (by decide) ?_
  refine gx_icmp_ne (pc := 144) 151 d_Mo_once_144 rfl (fun h23 => ?_) (fun h23 => ?_)
  · have hT := tx_ifn h23 hT
    refine gx_iconst (pc := 151) (0 : Int32) d_Mo_once_151 (by decide) ?_
    refine gx_sub [] rfl ?_
    exact fx_Mo_once_b152_w  σ (0 : Int32) _ hT
  · have hT := tx_ifp h23 hT
    refine gx_iconst (pc := 147) (1 : Int32) d_Mo_once_147 (by decide) ?_
    refine gx_goto (pc := 148) 152 d_Mo_once_148 rfl ?_
    refine gx_sub [] rfl ?_
    exact fx_Mo_once_b152_w  σ (1 : Int32) _ hT
set_option maxRecDepth 100000 in
set_option maxHeartbeats 4000000 in
theorem fx_Mo_once_b311_w {l : Launch} {E : tx_E} (σ : tx_St) (t : Int32 × tx_St) (hT : fx_Mo_once_b311 σ  = some t) : gx l E mi_Mo_once (some (.int t.1), t.2) σ [] 311 [] := by
  unfold fx_Mo_once_b311 at hT
  refine gx_iconst (pc := 311) (0 : Int32) d_Mo_once_311 (by decide) ?_
  cases hT
  exact gx_iret (pc := 312) d_Mo_once_312 rfl rfl
set_option maxRecDepth 100000 in
set_option maxHeartbeats 4000000 in
theorem fx_Mo_once_b301_w {l : Launch} {E : tx_E} (σ : tx_St) (x3 : Int32) (t : Int32 × tx_St) (hT : fx_Mo_once_b301 σ x3 = some t) : gx l E mi_Mo_once (some (.int t.1), t.2) σ [(0, .ref (E.1 45)), (3, .int x3)] 301 [] := by
  unfold fx_Mo_once_b301 at hT
  refine gx_iload_n (pc := 301) 1 d_Mo_once_301 rfl rfl ?_
  refine gx_bipush (pc := 302) (19 : Int32) d_Mo_once_302 (by decide) ?_
  refine gx_icmp_ne (pc := 304) 311 d_Mo_once_304 rfl (fun h51 => ?_) (fun h51 => ?_)
  · have hT := tx_ifn h51 hT
    refine gx_sub [] rfl ?_
    exact fx_Mo_once_b311_w  σ _ hT
  · have hT := tx_ifp h51 hT
    refine gx_aload_n (pc := 307) 0 d_Mo_once_307 rfl rfl ?_
    obtain ⟨σ52, cσ52, hT⟩ := tx_cv_some hT
    refine gx_callV (pc := 308) (As := []) (rest := []) cm_Mo_back lk_Mo_255 (fx_Mo_back_c l E σ _ cσ52) (rfl) (by decide) rfl rfl tx_fi_Mo_once_Mo_back (Nat.le_of_ble_eq_true rfl) d_Mo_once_308 ?_
    change gx l E mi_Mo_once _ σ52 [(0, .ref (E.1 45)), (3, .int x3)] 311 []
    refine gx_sub [] rfl ?_
    exact fx_Mo_once_b311_w  σ52 _ hT
set_option maxRecDepth 100000 in
set_option maxHeartbeats 4000000 in
theorem fx_Mo_once_b289_w {l : Launch} {E : tx_E} (σ : tx_St) (x3 : Int32) (x4 : Int32) (t : Int32 × tx_St) (hT : fx_Mo_once_b289 σ x3 x4 = some t) : gx l E mi_Mo_once (some (.int t.1), t.2) σ [(0, .ref (E.1 45)), (3, .int x3), (4, .int x4)] 289 [] := by
  unfold fx_Mo_once_b289 at hT
  refine gx_iload_n (pc := 289) 1 d_Mo_once_289 rfl rfl ?_
  refine gx_bipush (pc := 290) (18 : Int32) d_Mo_once_290 (by decide) ?_
  refine gx_icmp_ne (pc := 292) 301 d_Mo_once_292 rfl (fun h49 => ?_) (fun h49 => ?_)
  · have hT := tx_ifn h49 hT
    refine gx_sub [0, 1] rfl ?_
    exact fx_Mo_once_b301_w  σ x3 _ hT
  · have hT := tx_ifp h49 hT
    refine gx_aload_n (pc := 295) 0 d_Mo_once_295 rfl rfl ?_
    refine gx_iload (pc := 296) 2 d_Mo_once_296 rfl ?_
    obtain ⟨σ50, cσ50, hT⟩ := tx_cv_some hT
    refine gx_callV (pc := 298) (As := [.int x4]) (rest := []) cm_Mo_library lk_Mo_252 (fx_Mo_library_c l E σ x4 _ cσ50) (rfl) (by decide) rfl rfl tx_fi_Mo_once_Mo_library (Nat.le_of_ble_eq_true rfl) d_Mo_once_298 ?_
    change gx l E mi_Mo_once _ σ50 [(0, .ref (E.1 45)), (3, .int x3), (4, .int x4)] 301 []
    refine gx_sub [0, 1] rfl ?_
    exact fx_Mo_once_b301_w  σ50 x3 _ hT
set_option maxRecDepth 100000 in
set_option maxHeartbeats 4000000 in
theorem fx_Mo_once_b284_w {l : Launch} {E : tx_E} (σ : tx_St) (x3 : Int32) (x4 : Int32) (t : Int32 × tx_St) (hT : fx_Mo_once_b284 σ x3 x4 = some t) : gx l E mi_Mo_once (some (.int t.1), t.2) σ [(0, .ref (E.1 45)), (3, .int x3), (4, .int x4)] 284 [] := by
  unfold fx_Mo_once_b284 at hT
  refine gx_aload_n (pc := 284) 0 d_Mo_once_284 rfl rfl ?_
  refine gx_iconst (pc := 285) (0 : Int32) d_Mo_once_285 (by decide) ?_
  obtain ⟨σ48, cσ48, hT⟩ := tx_cv_some hT
  refine gx_callV (pc := 286) (As := [.int (0 : Int32)]) (rest := []) cm_Mo_push lk_Mo_229 (fx_Mo_push_c l E σ (0 : Int32) _ cσ48) (rfl) (by decide) rfl rfl tx_fi_Mo_once_Mo_push (Nat.le_of_ble_eq_true rfl) d_Mo_once_286 ?_
  change gx l E mi_Mo_once _ σ48 [(0, .ref (E.1 45)), (3, .int x3), (4, .int x4)] 289 []
  exact fx_Mo_once_b289_w  σ48 x3 x4 _ hT
set_option maxRecDepth 100000 in
set_option maxHeartbeats 4000000 in
theorem fx_Mo_once_b272_w {l : Launch} {E : tx_E} (σ : tx_St) (x3 : Int32) (x4 : Int32) (t : Int32 × tx_St) (hT : fx_Mo_once_b272 σ x3 x4 = some t) : gx l E mi_Mo_once (some (.int t.1), t.2) σ [(0, .ref (E.1 45)), (3, .int x3), (4, .int x4)] 272 [] := by
  unfold fx_Mo_once_b272 at hT
  refine gx_iload_n (pc := 272) 1 d_Mo_once_272 rfl rfl ?_
  refine gx_bipush (pc := 273) (10 : Int32) d_Mo_once_273 (by decide) ?_
  refine gx_icmp_eq (pc := 275) 284 d_Mo_once_275 rfl (fun h45 => ?_) (fun h45 => ?_)
  · have hT := tx_ifp h45 hT
    exact fx_Mo_once_b284_w  σ x3 x4 _ hT
  · have hT := tx_ifn h45 hT
    refine gx_iload_n (pc := 278) 1 d_Mo_once_278 rfl rfl ?_
    refine gx_bipush (pc := 279) (17 : Int32) d_Mo_once_279 (by decide) ?_
    refine gx_icmp_ne (pc := 281) 289 d_Mo_once_281 rfl (fun h46 => ?_) (fun h46 => ?_)
    · have hT := tx_ifn h46 hT
      exact fx_Mo_once_b289_w  σ x3 x4 _ hT
    · have hT := tx_ifp h46 hT
      exact fx_Mo_once_b284_w  σ x3 x4 _ hT
set_option maxRecDepth 100000 in
set_option maxHeartbeats 4000000 in
theorem fx_Mo_once_b271_w {l : Launch} {E : tx_E} (σ : tx_St) (x3 : Int32) (x4 : Int32) (s0 : Int32) (s1 : Int32) (t : Int32 × tx_St) (hT : fx_Mo_once_b271 σ x3 x4 s0 s1 = some t) : gx l E mi_Mo_once (some (.int t.1), t.2) σ [(0, .ref (E.1 45)), (3, .int x3), (4, .int x4)] 271 [.int s0, .int s1, .ref (E.1 65)] := by
  unfold fx_Mo_once_b271 at hT
  obtain ⟨σ47, gσ47, iσ47, hT⟩ := tx_wr_some hT
  refine gx_iast (pc := 271) d_Mo_once_271 (rfl) iσ47 ?_
  rw [gσ47]
  exact fx_Mo_once_b272_w  σ47 x3 x4 _ hT
set_option maxRecDepth 100000 in
set_option maxHeartbeats 4000000 in
theorem fx_Mo_once_b241_w {l : Launch} {E : tx_E} (σ : tx_St) (x1 : Int32) (x2 : Int32) (x3 : Int32) (x4 : Int32) (t : Int32 × tx_St) (hT : fx_Mo_once_b241 σ x1 x2 x3 x4 = some t) : gx l E mi_Mo_once (some (.int t.1), t.2) σ [(0, .ref (E.1 45)), (1, .int x1), (2, .int x2), (3, .int x3), (4, .int x4)] 241 [] := by
  unfold fx_Mo_once_b241 at hT
  refine gx_iload_n (pc := 241) 3 d_Mo_once_241 rfl rfl ?_
  refine gx_bipush (pc := 242) (6 : Int32) d_Mo_once_242 (by decide) ?_
  refine gx_icmp_ne (pc := 244) 272 d_Mo_once_244 rfl (fun h41 => ?_) (fun h41 => ?_)
  · have hT := tx_ifn h41 hT
    refine gx_sub [0, 3, 4] rfl ?_
    exact fx_Mo_once_b272_w  σ x3 x4 _ hT
  · have hT := tx_ifp h41 hT
    refine gx_aload_n (pc := 247) 0 d_Mo_once_247 rfl rfl ?_
    obtain ⟨r43, σ42, cσ42, hT⟩ := tx_ci_some hT
    refine gx_callV (pc := 248) (As := []) (rest := []) cm_Mo_pop lk_Mo_213 (fx_Mo_pop_c l E σ _ cσ42) (rfl) (by decide) rfl rfl tx_fi_Mo_once_Mo_pop (Nat.le_of_ble_eq_true rfl) d_Mo_once_248 ?_
    change gx l E mi_Mo_once _ σ42 [(0, .ref (E.1 45)), (1, .int x1), (2, .int x2), (3, .int x3), (4, .int x4)] 251 [.int r43]
    refine gx_istore (pc := 251) [(5, .int r43), (0, .ref (E.1 45)), (1, .int x1), (2, .int x2), (3, .int x3), (4, .int x4)] d_Mo_once_251 (Nat.le_of_ble_eq_true rfl) rfl ?_
    refine gx_aload_n (pc := 253) 1 d_Mo_once_253 rfl rfl ?_
    refine gx_getR (pc := 254) 65 fl_Mo_72 d_Mo_once_254 (rfl) (by decide) rfl ?_
    refine gx_iload_n (pc := 257) 2 d_Mo_once_257 rfl rfl ?_
    refine gx_iload (pc := 258) 0 d_Mo_once_258 rfl ?_
    refine gx_if_ne (pc := 260) 268 d_Mo_once_260 rfl (fun h44 => ?_) (fun h44 => ?_)
    · have hT := tx_ifn h44 hT
      refine gx_iload_n (pc := 268) 3 d_Mo_once_268 rfl rfl ?_
      refine gx_iconst (pc := 269) (1 : Int32) d_Mo_once_269 (by decide) ?_
      refine gx_iadd (pc := 270) d_Mo_once_270 ?_
      refine gx_sub [1, 4, 5] rfl ?_
      exact fx_Mo_once_b271_w  σ42 x3 x4 (x2 + (1 : Int32)) x1 _ hT
    · have hT := tx_ifp h44 hT
      refine gx_iload (pc := 263) 5 d_Mo_once_263 rfl ?_
      refine gx_goto (pc := 265) 271 d_Mo_once_265 rfl ?_
      refine gx_sub [1, 4, 5] rfl ?_
      exact fx_Mo_once_b271_w  σ42 x3 x4 x4 x1 _ hT
set_option maxRecDepth 100000 in
set_option maxHeartbeats 4000000 in
theorem fx_Mo_once_b228_w {l : Launch} {E : tx_E} (σ : tx_St) (x1 : Int32) (x2 : Int32) (x3 : Int32) (x4 : Int32) (t : Int32 × tx_St) (hT : fx_Mo_once_b228 σ x1 x2 x3 x4 = some t) : gx l E mi_Mo_once (some (.int t.1), t.2) σ [(0, .ref (E.1 45)), (1, .int x1), (2, .int x2), (3, .int x3), (4, .int x4)] 228 [] := by
  unfold fx_Mo_once_b228 at hT
  refine gx_iload_n (pc := 228) 3 d_Mo_once_228 rfl rfl ?_
  refine gx_iconst (pc := 229) (5 : Int32) d_Mo_once_229 (by decide) ?_
  refine gx_icmp_ne (pc := 230) 241 d_Mo_once_230 rfl (fun h39 => ?_) (fun h39 => ?_)
  · have hT := tx_ifn h39 hT
    exact fx_Mo_once_b241_w  σ x1 x2 x3 x4 _ hT
  · have hT := tx_ifp h39 hT
    refine gx_aload_n (pc := 233) 0 d_Mo_once_233 rfl rfl ?_
    refine gx_getR (pc := 234) 65 fl_Mo_72 d_Mo_once_234 (rfl) (by decide) rfl ?_
    refine gx_iload_n (pc := 237) 1 d_Mo_once_237 rfl rfl ?_
    refine gx_iload (pc := 238) 4 d_Mo_once_238 rfl ?_
    obtain ⟨σ40, gσ40, iσ40, hT⟩ := tx_wr_some hT
    refine gx_iast (pc := 240) d_Mo_once_240 (rfl) iσ40 ?_
    rw [gσ40]
    exact fx_Mo_once_b241_w  σ40 x1 x2 x3 x4 _ hT
set_option maxRecDepth 100000 in
set_option maxHeartbeats 4000000 in
theorem fx_Mo_once_b223_w {l : Launch} {E : tx_E} (σ : tx_St) (x1 : Int32) (x2 : Int32) (x3 : Int32) (x4 : Int32) (t : Int32 × tx_St) (hT : fx_Mo_once_b223 σ x1 x2 x3 x4 = some t) : gx l E mi_Mo_once (some (.int t.1), t.2) σ [(0, .ref (E.1 45)), (1, .int x1), (2, .int x2), (3, .int x3), (4, .int x4)] 223 [] := by
  unfold fx_Mo_once_b223 at hT
  refine gx_aload_n (pc := 223) 0 d_Mo_once_223 rfl rfl ?_
  refine gx_iload_n (pc := 224) 3 d_Mo_once_224 rfl rfl ?_
  obtain ⟨σ38, cσ38, hT⟩ := tx_cv_some hT
  refine gx_callV (pc := 225) (As := [.int x3]) (rest := []) cm_Mo_sum lk_Mo_249 (fx_Mo_sum_c l E σ x3 _ cσ38) (rfl) (by decide) rfl rfl tx_fi_Mo_once_Mo_sum (Nat.le_of_ble_eq_true rfl) d_Mo_once_225 ?_
  change gx l E mi_Mo_once _ σ38 [(0, .ref (E.1 45)), (1, .int x1), (2, .int x2), (3, .int x3), (4, .int x4)] 228 []
  exact fx_Mo_once_b228_w  σ38 x1 x2 x3 x4 _ hT
set_option maxRecDepth 100000 in
set_option maxHeartbeats 4000000 in
theorem fx_Mo_once_b207_w {l : Launch} {E : tx_E} (σ : tx_St) (x1 : Int32) (x2 : Int32) (x3 : Int32) (x4 : Int32) (t : Int32 × tx_St) (hT : fx_Mo_once_b207 σ x1 x2 x3 x4 = some t) : gx l E mi_Mo_once (some (.int t.1), t.2) σ [(0, .ref (E.1 45)), (1, .int x1), (2, .int x2), (3, .int x3), (4, .int x4)] 207 [] := by
  unfold fx_Mo_once_b207 at hT
  refine gx_iload_n (pc := 207) 3 d_Mo_once_207 rfl rfl ?_
  refine gx_iconst (pc := 208) (3 : Int32) d_Mo_once_208 (by decide) ?_
  refine gx_icmp_eq (pc := 209) 223 d_Mo_once_209 rfl (fun h35 => ?_) (fun h35 => ?_)
  · have hT := tx_ifp h35 hT
    exact fx_Mo_once_b223_w  σ x1 x2 x3 x4 _ hT
  · have hT := tx_ifn h35 hT
    refine gx_iload_n (pc := 212) 3 d_Mo_once_212 rfl rfl ?_
    refine gx_iconst (pc := 213) (4 : Int32) d_Mo_once_213 (by decide) ?_
    refine gx_icmp_eq (pc := 214) 223 d_Mo_once_214 rfl (fun h36 => ?_) (fun h36 => ?_)
    · have hT := tx_ifp h36 hT
      exact fx_Mo_once_b223_w  σ x1 x2 x3 x4 _ hT
    · have hT := tx_ifn h36 hT
      refine gx_iload_n (pc := 217) 3 d_Mo_once_217 rfl rfl ?_
      refine gx_bipush (pc := 218) (16 : Int32) d_Mo_once_218 (by decide) ?_
      refine gx_icmp_ne (pc := 220) 228 d_Mo_once_220 rfl (fun h37 => ?_) (fun h37 => ?_)
      · have hT := tx_ifn h37 hT
        exact fx_Mo_once_b228_w  σ x1 x2 x3 x4 _ hT
      · have hT := tx_ifp h37 hT
        exact fx_Mo_once_b223_w  σ x1 x2 x3 x4 _ hT
set_option maxRecDepth 100000 in
set_option maxHeartbeats 4000000 in
theorem fx_Mo_once_b187_w {l : Launch} {E : tx_E} (σ : tx_St) (x1 : Int32) (x2 : Int32) (x3 : Int32) (x4 : Int32) (t : Int32 × tx_St) (hT : fx_Mo_once_b187 σ x1 x2 x3 x4 = some t) : gx l E mi_Mo_once (some (.int t.1), t.2) σ [(0, .ref (E.1 45)), (1, .int x1), (2, .int x2), (3, .int x3), (4, .int x4)] 187 [] := by
  unfold fx_Mo_once_b187 at hT
  refine gx_iload_n (pc := 187) 3 d_Mo_once_187 rfl rfl ?_
  refine gx_iconst (pc := 188) (2 : Int32) d_Mo_once_188 (by decide) ?_
  refine gx_icmp_ne (pc := 189) 207 d_Mo_once_189 rfl (fun h31 => ?_) (fun h31 => ?_)
  · have hT := tx_ifn h31 hT
    exact fx_Mo_once_b207_w  σ x1 x2 x3 x4 _ hT
  · have hT := tx_ifp h31 hT
    refine gx_aload_n (pc := 192) 0 d_Mo_once_192 rfl rfl ?_
    refine gx_getR (pc := 193) 68 fl_Mo_81 d_Mo_once_193 (rfl) (by decide) rfl ?_
    refine gx_iconst (pc := 196) (3 : Int32) d_Mo_once_196 (by decide) ?_
    refine gx_iload_n (pc := 197) 1 d_Mo_once_197 rfl rfl ?_
    refine gx_imul (pc := 198) d_Mo_once_198 ?_
    refine gx_iload (pc := 199) 4 d_Mo_once_199 rfl ?_
    refine gx_iadd (pc := 201) d_Mo_once_201 ?_
    refine gx_aload_n (pc := 202) 0 d_Mo_once_202 rfl rfl ?_
    obtain ⟨r33, σ32, cσ32, hT⟩ := tx_ci_some hT
    refine gx_callV (pc := 203) (As := []) (rest := [.int (((3 : Int32) * x1) + x4), .ref (E.1 68)]) cm_Mo_pop lk_Mo_213 (fx_Mo_pop_c l E σ _ cσ32) (rfl) (by decide) rfl rfl tx_fi_Mo_once_Mo_pop (Nat.le_of_ble_eq_true rfl) d_Mo_once_203 ?_
    change gx l E mi_Mo_once _ σ32 [(0, .ref (E.1 45)), (1, .int x1), (2, .int x2), (3, .int x3), (4, .int x4)] 206 [.int r33, .int (((3 : Int32) * x1) + x4), .ref (E.1 68)]
    obtain ⟨σ34, gσ34, iσ34, hT⟩ := tx_wr_some hT
    refine gx_iast (pc := 206) d_Mo_once_206 (rfl) iσ34 ?_
    rw [gσ34]
    exact fx_Mo_once_b207_w  σ34 x1 x2 x3 x4 _ hT
set_option maxRecDepth 100000 in
set_option maxHeartbeats 4000000 in
theorem fx_Mo_once_b167_w {l : Launch} {E : tx_E} (σ : tx_St) (x1 : Int32) (x2 : Int32) (x3 : Int32) (x4 : Int32) (t : Int32 × tx_St) (hT : fx_Mo_once_b167 σ x1 x2 x3 x4 = some t) : gx l E mi_Mo_once (some (.int t.1), t.2) σ [(0, .ref (E.1 45)), (1, .int x1), (2, .int x2), (3, .int x3), (4, .int x4)] 167 [] := by
  unfold fx_Mo_once_b167 at hT
  refine gx_iload_n (pc := 167) 3 d_Mo_once_167 rfl rfl ?_
  refine gx_iconst (pc := 168) (1 : Int32) d_Mo_once_168 (by decide) ?_
  refine gx_icmp_ne (pc := 169) 187 d_Mo_once_169 rfl (fun h24 => ?_) (fun h24 => ?_)
  · have hT := tx_ifn h24 hT
    exact fx_Mo_once_b187_w  σ x1 x2 x3 x4 _ hT
  · have hT := tx_ifp h24 hT
    refine gx_aload_n (pc := 172) 0 d_Mo_once_172 rfl rfl ?_
    refine gx_aload_n (pc := 173) 0 d_Mo_once_173 rfl rfl ?_
    refine gx_getR (pc := 174) 68 fl_Mo_81 d_Mo_once_174 (rfl) (by decide) rfl ?_
    refine gx_iconst (pc := 177) (3 : Int32) d_Mo_once_177 (by decide) ?_
    refine gx_iload_n (pc := 178) 1 d_Mo_once_178 rfl rfl ?_
    refine gx_imul (pc := 179) d_Mo_once_179 ?_
    refine gx_iload (pc := 180) 4 d_Mo_once_180 rfl ?_
    refine gx_iadd (pc := 182) d_Mo_once_182 ?_
    obtain ⟨v25, gv25, iv25, hT⟩ := tx_rd_some hT
    refine gx_iald (pc := 183) v25 d_Mo_once_183 (rfl) iv25 gv25 ?_
    obtain ⟨σ26, cσ26, hT⟩ := tx_cv_some hT
    refine gx_callV (pc := 184) (As := [.int v25]) (rest := []) cm_Mo_push lk_Mo_229 (fx_Mo_push_c l E σ v25 _ cσ26) (rfl) (by decide) rfl rfl tx_fi_Mo_once_Mo_push (Nat.le_of_ble_eq_true rfl) d_Mo_once_184 ?_
    change gx l E mi_Mo_once _ σ26 [(0, .ref (E.1 45)), (1, .int x1), (2, .int x2), (3, .int x3), (4, .int x4)] 187 []
    exact fx_Mo_once_b187_w  σ26 x1 x2 x3 x4 _ hT
set_option maxRecDepth 100000 in
set_option maxHeartbeats 4000000 in
theorem fx_Mo_once_c (l : Launch) (E : tx_E) (σ : tx_St) (t : Int32 × tx_St) (hT : fx_Mo_once σ  = some t) : tx_MX l E y_Mo_once mi_Mo_once (some (.int t.1), t.2) [.ref (E.1 45)] σ := by
  refine tx_MX_of (by decide) rfl (Nat.le_of_ble_eq_true rfl) ?_
  show gx l E mi_Mo_once (some (.int t.1), t.2) σ [(0, .ref (E.1 45))] 0 []
  unfold fx_Mo_once at hT
  refine gx_aload_n (pc := 0) 0 d_Mo_once_0 rfl rfl ?_
  refine gx_getI (pc := 1) (σ 45 28) fl_Mo_210 d_Mo_once_1 (rfl) (by decide) rfl rfl ?_
  refine gx_iconst (pc := 4) (1 : Int32) d_Mo_once_4 (by decide) ?_
  refine gx_isub (pc := 5) d_Mo_once_5 ?_
  refine gx_istore_n (pc := 6) [(1, .int ((σ 45 28) - (1 : Int32))), (0, .ref (E.1 45))] d_Mo_once_6 rfl (Nat.le_of_ble_eq_true rfl) rfl ?_
  refine gx_aload_n (pc := 7) 1 d_Mo_once_7 rfl rfl ?_
  refine gx_getR (pc := 8) 65 fl_Mo_72 d_Mo_once_8 (rfl) (by decide) rfl ?_
  refine gx_iload_n (pc := 11) 0 d_Mo_once_11 rfl rfl ?_
  obtain ⟨v1, gv1, iv1, hT⟩ := tx_rd_some hT
  refine gx_iald (pc := 12) v1 d_Mo_once_12 (rfl) iv1 gv1 ?_
  refine gx_istore_n (pc := 13) [(2, .int v1), (1, .int ((σ 45 28) - (1 : Int32))), (0, .ref (E.1 45))] d_Mo_once_13 rfl (Nat.le_of_ble_eq_true rfl) rfl ?_
  refine gx_aload_n (pc := 14) 2 d_Mo_once_14 rfl rfl ?_
  refine gx_getR (pc := 15) 57 fl_Mo_43 d_Mo_once_15 (rfl) (by decide) rfl ?_
  refine gx_bipush (pc := 18) (12 : Int32) d_Mo_once_18 (by decide) ?_
  refine gx_aload_n (pc := 20) 2 d_Mo_once_20 rfl rfl ?_
  refine gx_getR (pc := 21) 64 fl_Mo_69 d_Mo_once_21 (rfl) (by decide) rfl ?_
  refine gx_iload_n (pc := 24) 1 d_Mo_once_24 rfl rfl ?_
  obtain ⟨v2, gv2, iv2, hT⟩ := tx_rd_some hT
  refine gx_iald (pc := 25) v2 d_Mo_once_25 (rfl) iv2 gv2 ?_
  refine gx_imul (pc := 26) d_Mo_once_26 ?_
  refine gx_iload_n (pc := 27) 0 d_Mo_once_27 rfl rfl ?_
  refine gx_iadd (pc := 28) d_Mo_once_28 ?_
  obtain ⟨v3, gv3, iv3, hT⟩ := tx_rd_some hT
  refine gx_iald (pc := 29) v3 d_Mo_once_29 (rfl) iv3 gv3 ?_
  refine gx_istore_n (pc := 30) [(3, .int v3), (2, .int v1), (1, .int ((σ 45 28) - (1 : Int32))), (0, .ref (E.1 45))] d_Mo_once_30 rfl (Nat.le_of_ble_eq_true rfl) rfl ?_
  refine gx_aload_n (pc := 31) 3 d_Mo_once_31 rfl rfl ?_
  refine gx_getR (pc := 32) 58 fl_Mo_46 d_Mo_once_32 (rfl) (by decide) rfl ?_
  refine gx_bipush (pc := 35) (12 : Int32) d_Mo_once_35 (by decide) ?_
  refine gx_aload_n (pc := 37) 3 d_Mo_once_37 rfl rfl ?_
  refine gx_getR (pc := 38) 64 fl_Mo_69 d_Mo_once_38 (rfl) (by decide) rfl ?_
  refine gx_iload_n (pc := 41) 2 d_Mo_once_41 rfl rfl ?_
  obtain ⟨v4, gv4, iv4, hT⟩ := tx_rd_some hT
  refine gx_iald (pc := 42) v4 d_Mo_once_42 (rfl) iv4 gv4 ?_
  refine gx_imul (pc := 43) d_Mo_once_43 ?_
  refine gx_iload_n (pc := 44) 1 d_Mo_once_44 rfl rfl ?_
  refine gx_iadd (pc := 45) d_Mo_once_45 ?_
  obtain ⟨v5, gv5, iv5, hT⟩ := tx_rd_some hT
  refine gx_iald (pc := 46) v5 d_Mo_once_46 (rfl) iv5 gv5 ?_
  refine gx_istore (pc := 47) [(4, .int v5), (3, .int v3), (2, .int v1), (1, .int ((σ 45 28) - (1 : Int32))), (0, .ref (E.1 45))] d_Mo_once_47 (Nat.le_of_ble_eq_true rfl) rfl ?_
  refine gx_aload_n (pc := 49) 4 d_Mo_once_49 rfl rfl ?_
  refine gx_getR (pc := 50) 65 fl_Mo_72 d_Mo_once_50 (rfl) (by decide) rfl ?_
  refine gx_iload_n (pc := 53) 3 d_Mo_once_53 rfl rfl ?_
  refine gx_iload_n (pc := 54) 2 d_Mo_once_54 rfl rfl ?_
  refine gx_iconst (pc := 55) (1 : Int32) d_Mo_once_55 (by decide) ?_
  refine gx_iadd (pc := 56) d_Mo_once_56 ?_
  obtain ⟨σ6, gσ6, iσ6, hT⟩ := tx_wr_some hT
  refine gx_iast (pc := 57) d_Mo_once_57 (rfl) iσ6 ?_
  rw [gσ6]
  refine gx_iload_n (pc := 58) 1 d_Mo_once_58 rfl rfl ?_
  refine gx_bipush (pc := 59) (7 : Int32) d_Mo_once_59 (by decide) ?_
  refine gx_icmp_ne (pc := 61) 73 d_Mo_once_61 rfl (fun h7 => ?_) (fun h7 => ?_)
  · have hT := tx_ifn h7 hT
    refine gx_iload_n (pc := 73) 1 d_Mo_once_73 rfl rfl ?_
    refine gx_bipush (pc := 74) (8 : Int32) d_Mo_once_74 (by decide) ?_
    refine gx_icmp_eq (pc := 76) 85 d_Mo_once_76 rfl (fun h8 => ?_) (fun h8 => ?_)
    · have hT := tx_ifp h8 hT
      refine gx_sub [4, 1, 0] rfl ?_
      exact fx_Mo_once_b85_w  σ6 v3 v5 _ hT
    · have hT := tx_ifn h8 hT
      refine gx_iload_n (pc := 79) 1 d_Mo_once_79 rfl rfl ?_
      refine gx_bipush (pc := 80) (9 : Int32) d_Mo_once_80 (by decide) ?_
      refine gx_icmp_ne (pc := 82) 103 d_Mo_once_82 rfl (fun h9 => ?_) (fun h9 => ?_)
      · have hT := tx_ifn h9 hT
        refine gx_iload_n (pc := 103) 1 d_Mo_once_103 rfl rfl ?_
        refine gx_bipush (pc := 104) (12 : Int32) d_Mo_once_104 (by decide) ?_
        refine gx_icmp_ne (pc := 106) 116 d_Mo_once_106 rfl (fun h10 => ?_) (fun h10 => ?_)
        · have hT := tx_ifn h10 hT
          refine gx_iload_n (pc := 116) 1 d_Mo_once_116 rfl rfl ?_
          refine gx_bipush (pc := 117) (13 : Int32) d_Mo_once_117 (by decide) ?_
          refine gx_icmp_ne (pc := 119) 128 d_Mo_once_119 rfl (fun h11 => ?_) (fun h11 => ?_)
          · have hT := tx_ifn h11 hT
            refine gx_iload_n (pc := 128) 1 d_Mo_once_128 rfl rfl ?_
            refine gx_bipush (pc := 129) (14 : Int32) d_Mo_once_129 (by decide) ?_
            refine gx_icmp_eq (pc := 131) 140 d_Mo_once_131 rfl (fun h12 => ?_) (fun h12 => ?_)
            · have hT := tx_ifp h12 hT
              refine gx_sub [4, 1] rfl ?_
              exact fx_Mo_once_b140_w  σ6 v3 _ hT
            · have hT := tx_ifn h12 hT
              refine gx_iload_n (pc := 134) 1 d_Mo_once_134 rfl rfl ?_
              refine gx_bipush (pc := 135) (15 : Int32) d_Mo_once_135 (by decide) ?_
              refine gx_icmp_ne (pc := 137) 157 d_Mo_once_137 rfl (fun h13 => ?_) (fun h13 => ?_)
              · have hT := tx_ifn h13 hT
                refine gx_iload_n (pc := 157) 1 d_Mo_once_157 rfl rfl ?_
                refine gx_if_ne (pc := 158) 167 d_Mo_once_158 rfl (fun h14 => ?_) (fun h14 => ?_)
                · have hT := tx_ifn h14 hT
                  refine gx_sub [4, 3, 2, 1, 0] rfl ?_
                  exact fx_Mo_once_b167_w  σ6 ((σ 45 28) - (1 : Int32)) v1 v3 v5 _ hT
                · have hT := tx_ifp h14 hT
                  refine gx_aload_n (pc := 161) 4 d_Mo_once_161 rfl rfl ?_
                  refine gx_iload (pc := 162) 0 d_Mo_once_162 rfl ?_
                  obtain ⟨σ15, cσ15, hT⟩ := tx_cv_some hT
                  refine gx_callV (pc := 164) (As := [.int v5]) (rest := []) cm_Mo_push lk_Mo_229 (fx_Mo_push_c l E σ6 v5 _ cσ15) (rfl) (by decide) rfl rfl tx_fi_Mo_once_Mo_push (Nat.le_of_ble_eq_true rfl) d_Mo_once_164 ?_
                  change gx l E mi_Mo_once _ σ15 [(4, .int v5), (3, .int v3), (2, .int v1), (1, .int ((σ 45 28) - (1 : Int32))), (0, .ref (E.1 45))] 167 []
                  refine gx_sub [4, 3, 2, 1, 0] rfl ?_
                  exact fx_Mo_once_b167_w  σ15 ((σ 45 28) - (1 : Int32)) v1 v3 v5 _ hT
              · have hT := tx_ifp h13 hT
                refine gx_sub [4, 1] rfl ?_
                exact fx_Mo_once_b140_w  σ6 v3 _ hT
          · have hT := tx_ifp h11 hT
            refine gx_aload_n (pc := 122) 4 d_Mo_once_122 rfl rfl ?_
            refine gx_iconst (pc := 123) (1 : Int32) d_Mo_once_123 (by decide) ?_
            obtain ⟨r17, σ16, cσ16, hT⟩ := tx_ci_some hT
            refine gx_callV (pc := 124) (As := [.int (1 : Int32)]) (rest := []) cm_Mo_make lk_Mo_239 (fx_Mo_make_c l E σ6 (1 : Int32) _ cσ16) (rfl) (by decide) rfl rfl tx_fi_Mo_once_Mo_make (Nat.le_of_ble_eq_true rfl) d_Mo_once_124 ?_
            change gx l E mi_Mo_once _ σ16 [(4, .int v5), (3, .int v3), (2, .int v1), (1, .int ((σ 45 28) - (1 : Int32))), (0, .ref (E.1 45))] 127 [.int r17]
            cases hT
            exact gx_iret (pc := 127) d_Mo_once_127 rfl rfl
        · have hT := tx_ifp h10 hT
          refine gx_aload_n (pc := 109) 4 d_Mo_once_109 rfl rfl ?_
          refine gx_iload (pc := 110) 0 d_Mo_once_110 rfl ?_
          obtain ⟨r19, σ18, cσ18, hT⟩ := tx_ci_some hT
          refine gx_callV (pc := 112) (As := [.int v5]) (rest := []) cm_Mo_call lk_Mo_246 (fx_Mo_call_c l E σ6 v5 _ cσ18) (rfl) (by decide) rfl rfl tx_fi_Mo_once_Mo_call (Nat.le_of_ble_eq_true rfl) d_Mo_once_112 ?_
          change gx l E mi_Mo_once _ σ18 [(4, .int v5), (3, .int v3), (2, .int v1), (1, .int ((σ 45 28) - (1 : Int32))), (0, .ref (E.1 45))] 115 [.int r19]
          cases hT
          exact gx_iret (pc := 115) d_Mo_once_115 rfl rfl
      · have hT := tx_ifp h9 hT
        refine gx_sub [4, 1, 0] rfl ?_
        exact fx_Mo_once_b85_w  σ6 v3 v5 _ hT
  · have hT := tx_ifp h7 hT
    refine gx_aload_n (pc := 64) 4 d_Mo_once_64 rfl rfl ?_
    refine gx_iconst (pc := 65) (2 : Int32) d_Mo_once_65 (by decide) ?_
    refine gx_iload (pc := 66) 0 d_Mo_once_66 rfl ?_
    refine gx_iadd (pc := 68) d_Mo_once_68 ?_
    obtain ⟨r21, σ20, cσ20, hT⟩ := tx_ci_some hT
    refine gx_callV (pc := 69) (As := [.int ((2 : Int32) + v5)]) (rest := []) cm_Mo_make lk_Mo_239 (fx_Mo_make_c l E σ6 ((2 : Int32) + v5) _ cσ20) (rfl) (by decide) rfl rfl tx_fi_Mo_once_Mo_make (Nat.le_of_ble_eq_true rfl) d_Mo_once_69 ?_
    change gx l E mi_Mo_once _ σ20 [(4, .int v5), (3, .int v3), (2, .int v1), (1, .int ((σ 45 28) - (1 : Int32))), (0, .ref (E.1 45))] 72 [.int r21]
    cases hT
    exact gx_iret (pc := 72) d_Mo_once_72 rfl rfl
theorem d_Mo_shown_0 : decode c_Mo_shown 0 = .ok (.iload_n 1, 1) := by decide +kernel
theorem d_Mo_shown_1 : decode c_Mo_shown 1 = .ok (.ifCond .ne (7), 3) := by decide +kernel
theorem d_Mo_shown_4 : decode c_Mo_shown 4 = .ok (.ldc2_w 258, 3) := by decide +kernel
theorem d_Mo_shown_7 : decode c_Mo_shown 7 = .ok (.lreturn, 1) := by decide +kernel
theorem d_Mo_shown_8 : decode c_Mo_shown 8 = .ok (.iconst (0), 1) := by decide +kernel
theorem d_Mo_shown_9 : decode c_Mo_shown 9 = .ok (.istore_n 2, 1) := by decide +kernel
theorem d_Mo_shown_10 : decode c_Mo_shown 10 = .ok (.iload_n 2, 1) := by decide +kernel
theorem d_Mo_shown_11 : decode c_Mo_shown 11 = .ok (.aload_n 0, 1) := by decide +kernel
theorem d_Mo_shown_12 : decode c_Mo_shown 12 = .ok (.getfield 111, 3) := by decide +kernel
theorem d_Mo_shown_15 : decode c_Mo_shown 15 = .ok (.if_icmp .ge (26), 3) := by decide +kernel
theorem d_Mo_shown_18 : decode c_Mo_shown 18 = .ok (.aload_n 0, 1) := by decide +kernel
theorem d_Mo_shown_19 : decode c_Mo_shown 19 = .ok (.getfield 62, 3) := by decide +kernel
theorem d_Mo_shown_22 : decode c_Mo_shown 22 = .ok (.iload_n 2, 1) := by decide +kernel
theorem d_Mo_shown_23 : decode c_Mo_shown 23 = .ok (.iaload, 1) := by decide +kernel
theorem d_Mo_shown_24 : decode c_Mo_shown 24 = .ok (.iload_n 1, 1) := by decide +kernel
theorem d_Mo_shown_25 : decode c_Mo_shown 25 = .ok (.if_icmp .ne (10), 3) := by decide +kernel
theorem d_Mo_shown_28 : decode c_Mo_shown 28 = .ok (.ldc2_w 260, 3) := by decide +kernel
theorem d_Mo_shown_31 : decode c_Mo_shown 31 = .ok (.iload_n 2, 1) := by decide +kernel
theorem d_Mo_shown_32 : decode c_Mo_shown 32 = .ok (.i2l, 1) := by decide +kernel
theorem d_Mo_shown_33 : decode c_Mo_shown 33 = .ok (.ladd, 1) := by decide +kernel
theorem d_Mo_shown_34 : decode c_Mo_shown 34 = .ok (.lreturn, 1) := by decide +kernel
theorem d_Mo_shown_35 : decode c_Mo_shown 35 = .ok (.iinc 2 (1), 3) := by decide +kernel
theorem d_Mo_shown_38 : decode c_Mo_shown 38 = .ok (.goto (-28), 3) := by decide +kernel
theorem d_Mo_shown_41 : decode c_Mo_shown 41 = .ok (.ldc2_w 262, 3) := by decide +kernel
theorem d_Mo_shown_44 : decode c_Mo_shown 44 = .ok (.lreturn, 1) := by decide +kernel
def fx_Mo_shown_b10 : Nat → tx_St → Int32 → Int32 → Option (Int64 × tx_St)
  | 0, _, _, _ => none
  | n + 1, σ, x1, x2 => (if (σ 45 23) ≤ x2 then some ((34359738368 : Int64), σ) else tx_rd σ 63 16 x2 fun v3 => (if v3 = x1 then some (((8589934592 : Int64) + x2.toInt64), σ) else fx_Mo_shown_b10 n σ x1 (x2 + (1 : Int32))))
def fx_Mo_shown (σ : tx_St) (x1 : Int32) : Option (Int64 × tx_St) := (if x1 = 0 then some ((4294967296 : Int64), σ) else fx_Mo_shown_b10  tx_fu σ x1 (0 : Int32))
set_option maxRecDepth 100000 in
set_option maxHeartbeats 4000000 in
theorem fx_Mo_shown_b10_w {l : Launch} {E : tx_E} : ∀ (n : Nat) (σ : tx_St) (x1 : Int32) (x2 : Int32) (t : Int64 × tx_St), fx_Mo_shown_b10 n σ x1 x2 = some t → gx l E mi_Mo_shown (some (.long t.1), t.2) σ [(0, .ref (E.1 45)), (1, .int x1), (2, .int x2)] 10 [] := by
  intro n
  induction n with
  | zero => intro σ x1 x2 t hT; cases hT
  | succ n ih =>
    intro σ x1 x2 t hT
    rw [fx_Mo_shown_b10] at hT
    refine gx_iload_n (pc := 10) 2 d_Mo_shown_10 rfl rfl ?_
    refine gx_aload_n (pc := 11) 0 d_Mo_shown_11 rfl rfl ?_
    refine gx_getI (pc := 12) (σ 45 23) fl_Mo_111 d_Mo_shown_12 (rfl) (by decide) rfl rfl ?_
    refine gx_icmp_ge (pc := 15) 41 d_Mo_shown_15 rfl (fun h2 => ?_) (fun h2 => ?_)
    · have hT := tx_ifp h2 hT
      refine gx_ldc2 (pc := 41) (v := (34359738368 : Int64)) d_Mo_shown_41 tw_5_12 ?_
      cases hT
      exact gx_lret (pc := 44) d_Mo_shown_44 rfl rfl
    · have hT := tx_ifn h2 hT
      refine gx_aload_n (pc := 18) 0 d_Mo_shown_18 rfl rfl ?_
      refine gx_getR (pc := 19) 63 fl_Mo_62 d_Mo_shown_19 (rfl) (by decide) rfl ?_
      refine gx_iload_n (pc := 22) 2 d_Mo_shown_22 rfl rfl ?_
      obtain ⟨v3, gv3, iv3, hT⟩ := tx_rd_some hT
      refine gx_iald (pc := 23) v3 d_Mo_shown_23 (rfl) iv3 gv3 ?_
      refine gx_iload_n (pc := 24) 1 d_Mo_shown_24 rfl rfl ?_
      refine gx_icmp_ne (pc := 25) 35 d_Mo_shown_25 rfl (fun h4 => ?_) (fun h4 => ?_)
      · have hT := tx_ifn h4 hT
        refine gx_iinc (pc := 35) (x2 + (1 : Int32)) 2 [(2, .int (x2 + (1 : Int32))), (0, .ref (E.1 45)), (1, .int x1)] d_Mo_shown_35 rfl (tx_inc (by decide)) (Nat.le_of_ble_eq_true rfl) rfl ?_
        refine gx_goto (pc := 38) 10 d_Mo_shown_38 rfl ?_
        refine gx_sub [1, 2, 0] rfl ?_
        exact ih σ x1 (x2 + (1 : Int32)) _ hT
      · have hT := tx_ifp h4 hT
        refine gx_ldc2 (pc := 28) (v := (8589934592 : Int64)) d_Mo_shown_28 tw_5_11 ?_
        refine gx_iload_n (pc := 31) 2 d_Mo_shown_31 rfl rfl ?_
        refine gx_i2l (pc := 32) d_Mo_shown_32 ?_
        refine gx_ladd (pc := 33) d_Mo_shown_33 ?_
        cases hT
        exact gx_lret (pc := 34) d_Mo_shown_34 rfl rfl
set_option maxRecDepth 100000 in
set_option maxHeartbeats 4000000 in
theorem fx_Mo_shown_c (l : Launch) (E : tx_E) (σ : tx_St) (x1 : Int32) (t : Int64 × tx_St) (hT : fx_Mo_shown σ x1 = some t) : tx_MX l E y_Mo_shown mi_Mo_shown (some (.long t.1), t.2) [.ref (E.1 45), .int x1] σ := by
  refine tx_MX_of (by decide) rfl (Nat.le_of_ble_eq_true rfl) ?_
  show gx l E mi_Mo_shown (some (.long t.1), t.2) σ [(0, .ref (E.1 45)), (1, .int x1)] 0 []
  unfold fx_Mo_shown at hT
  refine gx_iload_n (pc := 0) 1 d_Mo_shown_0 rfl rfl ?_
  refine gx_if_ne (pc := 1) 8 d_Mo_shown_1 rfl (fun h1 => ?_) (fun h1 => ?_)
  · have hT := tx_ifn h1 hT
    refine gx_iconst (pc := 8) (0 : Int32) d_Mo_shown_8 (by decide) ?_
    refine gx_istore_n (pc := 9) [(2, .int (0 : Int32)), (0, .ref (E.1 45)), (1, .int x1)] d_Mo_shown_9 rfl (Nat.le_of_ble_eq_true rfl) rfl ?_
    refine gx_sub [1, 2, 0] rfl ?_
    exact fx_Mo_shown_b10_w  tx_fu σ x1 (0 : Int32) _ hT
  · have hT := tx_ifp h1 hT
    refine gx_ldc2 (pc := 4) (v := (4294967296 : Int64)) d_Mo_shown_4 tw_5_10 ?_
    cases hT
    exact gx_lret (pc := 7) d_Mo_shown_7 rfl rfl
theorem d_Mo_run_0 : decode c_Mo_run 0 = .ok (.aload_n 0, 1) := by decide +kernel
theorem d_Mo_run_1 : decode c_Mo_run 1 = .ok (.iload_n 1, 1) := by decide +kernel
theorem d_Mo_run_2 : decode c_Mo_run 2 = .ok (.iload_n 2, 1) := by decide +kernel
theorem d_Mo_run_3 : decode c_Mo_run 3 = .ok (.iload_n 3, 1) := by decide +kernel
theorem d_Mo_run_4 : decode c_Mo_run 4 = .ok (.invokevirtual 270, 3) := by decide +kernel
theorem d_Mo_run_7 : decode c_Mo_run 7 = .ok (.ifCond .eq (7), 3) := by decide +kernel
theorem d_Mo_run_10 : decode c_Mo_run 10 = .ok (.ldc2_w 273, 3) := by decide +kernel
theorem d_Mo_run_13 : decode c_Mo_run 13 = .ok (.lreturn, 1) := by decide +kernel
theorem d_Mo_run_14 : decode c_Mo_run 14 = .ok (.aload_n 0, 1) := by decide +kernel
theorem d_Mo_run_15 : decode c_Mo_run 15 = .ok (.getfield 28, 3) := by decide +kernel
theorem d_Mo_run_18 : decode c_Mo_run 18 = .ok (.iload_n 1, 1) := by decide +kernel
theorem d_Mo_run_19 : decode c_Mo_run 19 = .ok (.iaload, 1) := by decide +kernel
theorem d_Mo_run_20 : decode c_Mo_run 20 = .ok (.ifCond .ne (12), 3) := by decide +kernel
theorem d_Mo_run_23 : decode c_Mo_run 23 = .ok (.aload_n 0, 1) := by decide +kernel
theorem d_Mo_run_24 : decode c_Mo_run 24 = .ok (.getfield 62, 3) := by decide +kernel
theorem d_Mo_run_27 : decode c_Mo_run 27 = .ok (.iload_n 2, 1) := by decide +kernel
theorem d_Mo_run_28 : decode c_Mo_run 28 = .ok (.iaload, 1) := by decide +kernel
theorem d_Mo_run_29 : decode c_Mo_run 29 = .ok (.goto (4), 3) := by decide +kernel
theorem d_Mo_run_32 : decode c_Mo_run 32 = .ok (.iconst (0), 1) := by decide +kernel
theorem d_Mo_run_33 : decode c_Mo_run 33 = .ok (.istore 4, 2) := by decide +kernel
theorem d_Mo_run_35 : decode c_Mo_run 35 = .ok (.aload_n 0, 1) := by decide +kernel
theorem d_Mo_run_36 : decode c_Mo_run 36 = .ok (.getfield 34, 3) := by decide +kernel
theorem d_Mo_run_39 : decode c_Mo_run 39 = .ok (.iload_n 1, 1) := by decide +kernel
theorem d_Mo_run_40 : decode c_Mo_run 40 = .ok (.iaload, 1) := by decide +kernel
theorem d_Mo_run_41 : decode c_Mo_run 41 = .ok (.iconst (1), 1) := by decide +kernel
theorem d_Mo_run_42 : decode c_Mo_run 42 = .ok (.if_icmp .ge (7), 3) := by decide +kernel
theorem d_Mo_run_45 : decode c_Mo_run 45 = .ok (.iload_n 3, 1) := by decide +kernel
theorem d_Mo_run_46 : decode c_Mo_run 46 = .ok (.goto (18), 3) := by decide +kernel
theorem d_Mo_run_49 : decode c_Mo_run 49 = .ok (.iload_n 3, 1) := by decide +kernel
theorem d_Mo_run_50 : decode c_Mo_run 50 = .ok (.iconst (-1), 1) := by decide +kernel
theorem d_Mo_run_51 : decode c_Mo_run 51 = .ok (.if_icmp .ne (7), 3) := by decide +kernel
theorem d_Mo_run_54 : decode c_Mo_run 54 = .ok (.iconst (0), 1) := by decide +kernel
theorem d_Mo_run_55 : decode c_Mo_run 55 = .ok (.goto (9), 3) := by decide +kernel
theorem d_Mo_run_58 : decode c_Mo_run 58 = .ok (.aload_n 0, 1) := by decide +kernel
theorem d_Mo_run_59 : decode c_Mo_run 59 = .ok (.getfield 62, 3) := by decide +kernel
theorem d_Mo_run_62 : decode c_Mo_run 62 = .ok (.iload_n 3, 1) := by decide +kernel
theorem d_Mo_run_63 : decode c_Mo_run 63 = .ok (.iaload, 1) := by decide +kernel
theorem d_Mo_run_64 : decode c_Mo_run 64 = .ok (.istore 5, 2) := by decide +kernel
theorem d_Mo_run_66 : decode c_Mo_run 66 = .ok (.aload_n 0, 1) := by decide +kernel
theorem d_Mo_run_67 : decode c_Mo_run 67 = .ok (.dup, 1) := by decide +kernel
theorem d_Mo_run_68 : decode c_Mo_run 68 = .ok (.getfield 264, 3) := by decide +kernel
theorem d_Mo_run_71 : decode c_Mo_run 71 = .ok (.iconst (1), 1) := by decide +kernel
theorem d_Mo_run_72 : decode c_Mo_run 72 = .ok (.iadd, 1) := by decide +kernel
theorem d_Mo_run_73 : decode c_Mo_run 73 = .ok (.putfield 264, 3) := by decide +kernel
theorem d_Mo_run_76 : decode c_Mo_run 76 = .ok (.aload_n 0, 1) := by decide +kernel
theorem d_Mo_run_77 : decode c_Mo_run 77 = .ok (.iconst (0), 1) := by decide +kernel
theorem d_Mo_run_78 : decode c_Mo_run 78 = .ok (.putfield 65, 3) := by decide +kernel
theorem d_Mo_run_81 : decode c_Mo_run 81 = .ok (.aload_n 0, 1) := by decide +kernel
theorem d_Mo_run_82 : decode c_Mo_run 82 = .ok (.iconst (0), 1) := by decide +kernel
theorem d_Mo_run_83 : decode c_Mo_run 83 = .ok (.putfield 223, 3) := by decide +kernel
theorem d_Mo_run_86 : decode c_Mo_run 86 = .ok (.aload_n 0, 1) := by decide +kernel
theorem d_Mo_run_87 : decode c_Mo_run 87 = .ok (.iconst (0), 1) := by decide +kernel
theorem d_Mo_run_88 : decode c_Mo_run 88 = .ok (.putfield 210, 3) := by decide +kernel
theorem d_Mo_run_91 : decode c_Mo_run 91 = .ok (.aload_n 0, 1) := by decide +kernel
theorem d_Mo_run_92 : decode c_Mo_run 92 = .ok (.aload_n 0, 1) := by decide +kernel
theorem d_Mo_run_93 : decode c_Mo_run 93 = .ok (.iload_n 1, 1) := by decide +kernel
theorem d_Mo_run_94 : decode c_Mo_run 94 = .ok (.iload 4, 2) := by decide +kernel
theorem d_Mo_run_96 : decode c_Mo_run 96 = .ok (.invokevirtual 216, 3) := by decide +kernel
theorem d_Mo_run_99 : decode c_Mo_run 99 = .ok (.iload 4, 2) := by decide +kernel
theorem d_Mo_run_101 : decode c_Mo_run 101 = .ok (.iload 5, 2) := by decide +kernel
theorem d_Mo_run_103 : decode c_Mo_run 103 = .ok (.invokevirtual 219, 3) := by decide +kernel
theorem d_Mo_run_106 : decode c_Mo_run 106 = .ok (.aload_n 0, 1) := by decide +kernel
theorem d_Mo_run_107 : decode c_Mo_run 107 = .ok (.getfield 210, 3) := by decide +kernel
theorem d_Mo_run_110 : decode c_Mo_run 110 = .ok (.ifCond .le (48), 3) := by decide +kernel
theorem d_Mo_run_113 : decode c_Mo_run 113 = .ok (.aload_n 0, 1) := by decide +kernel
theorem d_Mo_run_114 : decode c_Mo_run 114 = .ok (.getfield 65, 3) := by decide +kernel
theorem d_Mo_run_117 : decode c_Mo_run 117 = .ok (.bipush (64), 2) := by decide +kernel
theorem d_Mo_run_119 : decode c_Mo_run 119 = .ok (.if_icmp .ne (7), 3) := by decide +kernel
theorem d_Mo_run_122 : decode c_Mo_run 122 = .ok (.ldc2_w 275, 3) := by decide +kernel
theorem d_Mo_run_125 : decode c_Mo_run 125 = .ok (.lreturn, 1) := by decide +kernel
theorem d_Mo_run_126 : decode c_Mo_run 126 = .ok (.aload_n 0, 1) := by decide +kernel
theorem d_Mo_run_127 : decode c_Mo_run 127 = .ok (.dup, 1) := by decide +kernel
theorem d_Mo_run_128 : decode c_Mo_run 128 = .ok (.getfield 65, 3) := by decide +kernel
theorem d_Mo_run_131 : decode c_Mo_run 131 = .ok (.iconst (1), 1) := by decide +kernel
theorem d_Mo_run_132 : decode c_Mo_run 132 = .ok (.iadd, 1) := by decide +kernel
theorem d_Mo_run_133 : decode c_Mo_run 133 = .ok (.putfield 65, 3) := by decide +kernel
theorem d_Mo_run_136 : decode c_Mo_run 136 = .ok (.aload_n 0, 1) := by decide +kernel
theorem d_Mo_run_137 : decode c_Mo_run 137 = .ok (.invokevirtual 277, 3) := by decide +kernel
theorem d_Mo_run_140 : decode c_Mo_run 140 = .ok (.istore 6, 2) := by decide +kernel
theorem d_Mo_run_142 : decode c_Mo_run 142 = .ok (.iload 6, 2) := by decide +kernel
theorem d_Mo_run_144 : decode c_Mo_run 144 = .ok (.ifCond .le (11), 3) := by decide +kernel
theorem d_Mo_run_147 : decode c_Mo_run 147 = .ok (.ldc2_w 280, 3) := by decide +kernel
theorem d_Mo_run_150 : decode c_Mo_run 150 = .ok (.iload 6, 2) := by decide +kernel
theorem d_Mo_run_152 : decode c_Mo_run 152 = .ok (.i2l, 1) := by decide +kernel
theorem d_Mo_run_153 : decode c_Mo_run 153 = .ok (.ladd, 1) := by decide +kernel
theorem d_Mo_run_154 : decode c_Mo_run 154 = .ok (.lreturn, 1) := by decide +kernel
theorem d_Mo_run_155 : decode c_Mo_run 155 = .ok (.goto (-49), 3) := by decide +kernel
theorem d_Mo_run_158 : decode c_Mo_run 158 = .ok (.aload_n 0, 1) := by decide +kernel
theorem d_Mo_run_159 : decode c_Mo_run 159 = .ok (.getfield 37, 3) := by decide +kernel
theorem d_Mo_run_162 : decode c_Mo_run 162 = .ok (.iload_n 1, 1) := by decide +kernel
theorem d_Mo_run_163 : decode c_Mo_run 163 = .ok (.iaload, 1) := by decide +kernel
theorem d_Mo_run_164 : decode c_Mo_run 164 = .ok (.ifCond .ne (9), 3) := by decide +kernel
theorem d_Mo_run_167 : decode c_Mo_run 167 = .ok (.aload_n 0, 1) := by decide +kernel
theorem d_Mo_run_168 : decode c_Mo_run 168 = .ok (.getfield 236, 3) := by decide +kernel
theorem d_Mo_run_171 : decode c_Mo_run 171 = .ok (.i2l, 1) := by decide +kernel
theorem d_Mo_run_172 : decode c_Mo_run 172 = .ok (.lreturn, 1) := by decide +kernel
theorem d_Mo_run_173 : decode c_Mo_run 173 = .ok (.aload_n 0, 1) := by decide +kernel
theorem d_Mo_run_174 : decode c_Mo_run 174 = .ok (.aload_n 0, 1) := by decide +kernel
theorem d_Mo_run_175 : decode c_Mo_run 175 = .ok (.getfield 236, 3) := by decide +kernel
theorem d_Mo_run_178 : decode c_Mo_run 178 = .ok (.invokevirtual 282, 3) := by decide +kernel
theorem d_Mo_run_181 : decode c_Mo_run 181 = .ok (.ldc2_w 262, 3) := by decide +kernel
theorem d_Mo_run_184 : decode c_Mo_run 184 = .ok (.lcmp, 1) := by decide +kernel
theorem d_Mo_run_185 : decode c_Mo_run 185 = .ok (.ifCond .ne (35), 3) := by decide +kernel
theorem d_Mo_run_188 : decode c_Mo_run 188 = .ok (.aload_n 0, 1) := by decide +kernel
theorem d_Mo_run_189 : decode c_Mo_run 189 = .ok (.getfield 111, 3) := by decide +kernel
theorem d_Mo_run_192 : decode c_Mo_run 192 = .ok (.bipush (16), 2) := by decide +kernel
theorem d_Mo_run_194 : decode c_Mo_run 194 = .ok (.if_icmp .ge (26), 3) := by decide +kernel
theorem d_Mo_run_197 : decode c_Mo_run 197 = .ok (.aload_n 0, 1) := by decide +kernel
theorem d_Mo_run_198 : decode c_Mo_run 198 = .ok (.getfield 62, 3) := by decide +kernel
theorem d_Mo_run_201 : decode c_Mo_run 201 = .ok (.aload_n 0, 1) := by decide +kernel
theorem d_Mo_run_202 : decode c_Mo_run 202 = .ok (.getfield 111, 3) := by decide +kernel
theorem d_Mo_run_205 : decode c_Mo_run 205 = .ok (.aload_n 0, 1) := by decide +kernel
theorem d_Mo_run_206 : decode c_Mo_run 206 = .ok (.getfield 236, 3) := by decide +kernel
theorem d_Mo_run_209 : decode c_Mo_run 209 = .ok (.iastore, 1) := by decide +kernel
theorem d_Mo_run_210 : decode c_Mo_run 210 = .ok (.aload_n 0, 1) := by decide +kernel
theorem d_Mo_run_211 : decode c_Mo_run 211 = .ok (.dup, 1) := by decide +kernel
theorem d_Mo_run_212 : decode c_Mo_run 212 = .ok (.getfield 111, 3) := by decide +kernel
theorem d_Mo_run_215 : decode c_Mo_run 215 = .ok (.iconst (1), 1) := by decide +kernel
theorem d_Mo_run_216 : decode c_Mo_run 216 = .ok (.iadd, 1) := by decide +kernel
theorem d_Mo_run_217 : decode c_Mo_run 217 = .ok (.putfield 111, 3) := by decide +kernel
theorem d_Mo_run_220 : decode c_Mo_run 220 = .ok (.aload_n 0, 1) := by decide +kernel
theorem d_Mo_run_221 : decode c_Mo_run 221 = .ok (.aload_n 0, 1) := by decide +kernel
theorem d_Mo_run_222 : decode c_Mo_run 222 = .ok (.getfield 236, 3) := by decide +kernel
theorem d_Mo_run_225 : decode c_Mo_run 225 = .ok (.invokevirtual 282, 3) := by decide +kernel
theorem d_Mo_run_228 : decode c_Mo_run 228 = .ok (.lreturn, 1) := by decide +kernel
def fx_Mo_run_b220 (σ : tx_St) : Option (Int64 × tx_St) := tx_cl8 (fx_Mo_shown σ (σ 45 34)) fun r33 σ32 => some (r33, σ32)
def fx_Mo_run_b106 : Nat → tx_St → Int32 → Option (Int64 × tx_St)
  | 0, _, _ => none
  | n + 1, σ, x1 => (if (σ 45 28) ≤ 0 then tx_rd σ 55 8 x1 fun v19 => (if v19 = 0 then some ((σ 45 34).toInt64, σ) else tx_cl8 (fx_Mo_shown σ (σ 45 34)) fun r22 σ21 => (if (lg_cmp r22 (34359738368 : Int64)) = 0 then (if (16 : Int32) ≤ (σ21 45 23) then fx_Mo_run_b220  σ21 else tx_wr σ21 63 16 (σ21 45 23) (σ21 45 34) fun σ25 => tx_pt σ25 45 23 ((σ25 45 23) + (1 : Int32)) fun σ26 => fx_Mo_run_b220  σ26) else fx_Mo_run_b220  σ21)) else (if (σ 45 26) = (64 : Int32) then some ((17179869186 : Int64), σ) else tx_pt σ 45 26 ((σ 45 26) + (1 : Int32)) fun σ28 => tx_ci (fx_Mo_once σ28) fun r30 σ29 => (if r30 ≤ 0 then fx_Mo_run_b106 n σ29 x1 else some (((17179869184 : Int64) + r30.toInt64), σ29))))
def fx_Mo_run_b64 (σ : tx_St) (x1 : Int32) (x4 : Int32) (s0 : Int32) : Option (Int64 × tx_St) := tx_pt σ 45 25 ((σ 45 25) + (1 : Int32)) fun σ11 => tx_pt σ11 45 26 (0 : Int32) fun σ12 => tx_pt σ12 45 27 (0 : Int32) fun σ13 => tx_pt σ13 45 28 (0 : Int32) fun σ14 => tx_ci (fx_Mo_chosen σ14 x1 x4) fun r16 σ15 => tx_cv (fx_Mo_enter σ15 r16 x4 s0) fun σ17 => fx_Mo_run_b106  tx_fu σ17 x1
def fx_Mo_run_b33 (σ : tx_St) (x1 : Int32) (x3 : Int32) (s0 : Int32) : Option (Int64 × tx_St) := tx_rd σ 54 8 x1 fun v7 => (if (1 : Int32) ≤ v7 then (if x3 = (-1 : Int32) then fx_Mo_run_b64  σ x1 s0 (0 : Int32) else tx_rd σ 63 16 x3 fun v10 => fx_Mo_run_b64  σ x1 s0 v10) else fx_Mo_run_b64  σ x1 s0 x3)
def fx_Mo_run (σ : tx_St) (x1 : Int32) (x2 : Int32) (x3 : Int32) : Option (Int64 × tx_St) := tx_ci (fx_Mo_refuses σ x1 x2 x3) fun r2 σ1 => (if r2 = 0 then tx_rd σ1 52 8 x1 fun v4 => (if v4 = 0 then tx_rd σ1 63 16 x2 fun v6 => fx_Mo_run_b33  σ1 x1 x3 v6 else fx_Mo_run_b33  σ1 x1 x3 (0 : Int32)) else some ((68719476736 : Int64), σ1))
set_option maxRecDepth 100000 in
set_option maxHeartbeats 4000000 in
theorem fx_Mo_run_b220_w {l : Launch} {E : tx_E} (σ : tx_St) (t : Int64 × tx_St) (hT : fx_Mo_run_b220 σ  = some t) : gx l E mi_Mo_run (some (.long t.1), t.2) σ [(0, .ref (E.1 45))] 220 [] := by
  unfold fx_Mo_run_b220 at hT
  refine gx_aload_n (pc := 220) 0 d_Mo_run_220 rfl rfl ?_
  refine gx_aload_n (pc := 221) 0 d_Mo_run_221 rfl rfl ?_
  refine gx_getI (pc := 222) (σ 45 34) fl_Mo_236 d_Mo_run_222 (rfl) (by decide) rfl rfl ?_
  obtain ⟨r33, σ32, cσ32, hT⟩ := tx_cl_some hT
  refine gx_callV (pc := 225) (As := [.int (σ 45 34)]) (rest := []) cm_Mo_shown lk_Mo_282 (fx_Mo_shown_c l E σ (σ 45 34) _ cσ32) (rfl) (by decide) rfl rfl tx_fi_Mo_run_Mo_shown (Nat.le_of_ble_eq_true rfl) d_Mo_run_225 ?_
  change gx l E mi_Mo_run _ σ32 [(0, .ref (E.1 45))] 228 [.long r33]
  cases hT
  exact gx_lret (pc := 228) d_Mo_run_228 rfl rfl
set_option maxRecDepth 100000 in
set_option maxHeartbeats 4000000 in
theorem fx_Mo_run_b106_w {l : Launch} {E : tx_E} : ∀ (n : Nat) (σ : tx_St) (x1 : Int32) (t : Int64 × tx_St), fx_Mo_run_b106 n σ x1 = some t → gx l E mi_Mo_run (some (.long t.1), t.2) σ [(0, .ref (E.1 45)), (1, .int x1)] 106 [] := by
  intro n
  induction n with
  | zero => intro σ x1 t hT; cases hT
  | succ n ih =>
    intro σ x1 t hT
    rw [fx_Mo_run_b106] at hT
    refine gx_aload_n (pc := 106) 0 d_Mo_run_106 rfl rfl ?_
    refine gx_getI (pc := 107) (σ 45 28) fl_Mo_210 d_Mo_run_107 (rfl) (by decide) rfl rfl ?_
    refine gx_if_le (pc := 110) 158 d_Mo_run_110 rfl (fun h18 => ?_) (fun h18 => ?_)
    · have hT := tx_ifp h18 hT
      refine gx_aload_n (pc := 158) 0 d_Mo_run_158 rfl rfl ?_
      refine gx_getR (pc := 159) 55 fl_Mo_37 d_Mo_run_159 (rfl) (by decide) rfl ?_
      refine gx_iload_n (pc := 162) 1 d_Mo_run_162 rfl rfl ?_
      obtain ⟨v19, gv19, iv19, hT⟩ := tx_rd_some hT
      refine gx_iald (pc := 163) v19 d_Mo_run_163 (rfl) iv19 gv19 ?_
      refine gx_if_ne (pc := 164) 173 d_Mo_run_164 rfl (fun h20 => ?_) (fun h20 => ?_)
      · have hT := tx_ifn h20 hT
        refine gx_aload_n (pc := 173) 0 d_Mo_run_173 rfl rfl ?_
        refine gx_aload_n (pc := 174) 0 d_Mo_run_174 rfl rfl ?_
        refine gx_getI (pc := 175) (σ 45 34) fl_Mo_236 d_Mo_run_175 (rfl) (by decide) rfl rfl ?_
        obtain ⟨r22, σ21, cσ21, hT⟩ := tx_cl_some hT
        refine gx_callV (pc := 178) (As := [.int (σ 45 34)]) (rest := []) cm_Mo_shown lk_Mo_282 (fx_Mo_shown_c l E σ (σ 45 34) _ cσ21) (rfl) (by decide) rfl rfl tx_fi_Mo_run_Mo_shown (Nat.le_of_ble_eq_true rfl) d_Mo_run_178 ?_
        change gx l E mi_Mo_run _ σ21 [(0, .ref (E.1 45)), (1, .int x1)] 181 [.long r22]
        refine gx_ldc2 (pc := 181) (v := (34359738368 : Int64)) d_Mo_run_181 tw_5_12 ?_
        refine gx_lcmp (pc := 184) d_Mo_run_184 ?_
        refine gx_if_ne (pc := 185) 220 d_Mo_run_185 rfl (fun h23 => ?_) (fun h23 => ?_)
        · have hT := tx_ifn h23 hT
          refine gx_sub [0] rfl ?_
          exact fx_Mo_run_b220_w  σ21 _ hT
        · have hT := tx_ifp h23 hT
          refine gx_aload_n (pc := 188) 0 d_Mo_run_188 rfl rfl ?_
          refine gx_getI (pc := 189) (σ21 45 23) fl_Mo_111 d_Mo_run_189 (rfl) (by decide) rfl rfl ?_
          refine gx_bipush (pc := 192) (16 : Int32) d_Mo_run_192 (by decide) ?_
          refine gx_icmp_ge (pc := 194) 220 d_Mo_run_194 rfl (fun h24 => ?_) (fun h24 => ?_)
          · have hT := tx_ifp h24 hT
            refine gx_sub [0] rfl ?_
            exact fx_Mo_run_b220_w  σ21 _ hT
          · have hT := tx_ifn h24 hT
            refine gx_aload_n (pc := 197) 0 d_Mo_run_197 rfl rfl ?_
            refine gx_getR (pc := 198) 63 fl_Mo_62 d_Mo_run_198 (rfl) (by decide) rfl ?_
            refine gx_aload_n (pc := 201) 0 d_Mo_run_201 rfl rfl ?_
            refine gx_getI (pc := 202) (σ21 45 23) fl_Mo_111 d_Mo_run_202 (rfl) (by decide) rfl rfl ?_
            refine gx_aload_n (pc := 205) 0 d_Mo_run_205 rfl rfl ?_
            refine gx_getI (pc := 206) (σ21 45 34) fl_Mo_236 d_Mo_run_206 (rfl) (by decide) rfl rfl ?_
            obtain ⟨σ25, gσ25, iσ25, hT⟩ := tx_wr_some hT
            refine gx_iast (pc := 209) d_Mo_run_209 (rfl) iσ25 ?_
            rw [gσ25]
            refine gx_aload_n (pc := 210) 0 d_Mo_run_210 rfl rfl ?_
            refine gx_dup (pc := 211) d_Mo_run_211 rfl ?_
            refine gx_getI (pc := 212) (σ25 45 23) fl_Mo_111 d_Mo_run_212 (rfl) (by decide) rfl rfl ?_
            refine gx_iconst (pc := 215) (1 : Int32) d_Mo_run_215 (by decide) ?_
            refine gx_iadd (pc := 216) d_Mo_run_216 ?_
            obtain ⟨σ26, gσ26, hT⟩ := tx_pt_some hT
            refine gx_putI (pc := 217) fp_Mo_111 d_Mo_run_217 (rfl) (by decide) rfl ?_
            rw [gσ26]
            refine gx_sub [0] rfl ?_
            exact fx_Mo_run_b220_w  σ26 _ hT
      · have hT := tx_ifp h20 hT
        refine gx_aload_n (pc := 167) 0 d_Mo_run_167 rfl rfl ?_
        refine gx_getI (pc := 168) (σ 45 34) fl_Mo_236 d_Mo_run_168 (rfl) (by decide) rfl rfl ?_
        refine gx_i2l (pc := 171) d_Mo_run_171 ?_
        cases hT
        exact gx_lret (pc := 172) d_Mo_run_172 rfl rfl
    · have hT := tx_ifn h18 hT
      refine gx_aload_n (pc := 113) 0 d_Mo_run_113 rfl rfl ?_
      refine gx_getI (pc := 114) (σ 45 26) fl_Mo_65 d_Mo_run_114 (rfl) (by decide) rfl rfl ?_
      refine gx_bipush (pc := 117) (64 : Int32) d_Mo_run_117 (by decide) ?_
      refine gx_icmp_ne (pc := 119) 126 d_Mo_run_119 rfl (fun h27 => ?_) (fun h27 => ?_)
      · have hT := tx_ifn h27 hT
        refine gx_aload_n (pc := 126) 0 d_Mo_run_126 rfl rfl ?_
        refine gx_dup (pc := 127) d_Mo_run_127 rfl ?_
        refine gx_getI (pc := 128) (σ 45 26) fl_Mo_65 d_Mo_run_128 (rfl) (by decide) rfl rfl ?_
        refine gx_iconst (pc := 131) (1 : Int32) d_Mo_run_131 (by decide) ?_
        refine gx_iadd (pc := 132) d_Mo_run_132 ?_
        obtain ⟨σ28, gσ28, hT⟩ := tx_pt_some hT
        refine gx_putI (pc := 133) fp_Mo_65 d_Mo_run_133 (rfl) (by decide) rfl ?_
        rw [gσ28]
        refine gx_aload_n (pc := 136) 0 d_Mo_run_136 rfl rfl ?_
        obtain ⟨r30, σ29, cσ29, hT⟩ := tx_ci_some hT
        refine gx_callV (pc := 137) (As := []) (rest := []) cm_Mo_once lk_Mo_277 (fx_Mo_once_c l E σ28 _ cσ29) (rfl) (by decide) rfl rfl tx_fi_Mo_run_Mo_once (Nat.le_of_ble_eq_true rfl) d_Mo_run_137 ?_
        change gx l E mi_Mo_run _ σ29 [(0, .ref (E.1 45)), (1, .int x1)] 140 [.int r30]
        refine gx_istore (pc := 140) [(6, .int r30), (0, .ref (E.1 45)), (1, .int x1)] d_Mo_run_140 (Nat.le_of_ble_eq_true rfl) rfl ?_
        refine gx_iload (pc := 142) 0 d_Mo_run_142 rfl ?_
        refine gx_if_le (pc := 144) 155 d_Mo_run_144 rfl (fun h31 => ?_) (fun h31 => ?_)
        · have hT := tx_ifp h31 hT
          refine gx_goto (pc := 155) 106 d_Mo_run_155 rfl ?_
          refine gx_sub [1, 2] rfl ?_
          exact ih σ29 x1 _ hT
        · have hT := tx_ifn h31 hT
          refine gx_ldc2 (pc := 147) (v := (17179869184 : Int64)) d_Mo_run_147 tw_5_5 ?_
          refine gx_iload (pc := 150) 0 d_Mo_run_150 rfl ?_
          refine gx_i2l (pc := 152) d_Mo_run_152 ?_
          refine gx_ladd (pc := 153) d_Mo_run_153 ?_
          cases hT
          exact gx_lret (pc := 154) d_Mo_run_154 rfl rfl
      · have hT := tx_ifp h27 hT
        refine gx_ldc2 (pc := 122) (v := (17179869186 : Int64)) d_Mo_run_122 tw_4_205 ?_
        cases hT
        exact gx_lret (pc := 125) d_Mo_run_125 rfl rfl
set_option maxRecDepth 100000 in
set_option maxHeartbeats 4000000 in
theorem fx_Mo_run_b64_w {l : Launch} {E : tx_E} (σ : tx_St) (x1 : Int32) (x4 : Int32) (s0 : Int32) (t : Int64 × tx_St) (hT : fx_Mo_run_b64 σ x1 x4 s0 = some t) : gx l E mi_Mo_run (some (.long t.1), t.2) σ [(0, .ref (E.1 45)), (1, .int x1), (4, .int x4)] 64 [.int s0] := by
  unfold fx_Mo_run_b64 at hT
  refine gx_istore (pc := 64) [(5, .int s0), (0, .ref (E.1 45)), (1, .int x1), (4, .int x4)] d_Mo_run_64 (Nat.le_of_ble_eq_true rfl) rfl ?_
  refine gx_aload_n (pc := 66) 1 d_Mo_run_66 rfl rfl ?_
  refine gx_dup (pc := 67) d_Mo_run_67 rfl ?_
  refine gx_getI (pc := 68) (σ 45 25) fl_Mo_264 d_Mo_run_68 (rfl) (by decide) rfl rfl ?_
  refine gx_iconst (pc := 71) (1 : Int32) d_Mo_run_71 (by decide) ?_
  refine gx_iadd (pc := 72) d_Mo_run_72 ?_
  obtain ⟨σ11, gσ11, hT⟩ := tx_pt_some hT
  refine gx_putI (pc := 73) fp_Mo_264 d_Mo_run_73 (rfl) (by decide) rfl ?_
  rw [gσ11]
  refine gx_aload_n (pc := 76) 1 d_Mo_run_76 rfl rfl ?_
  refine gx_iconst (pc := 77) (0 : Int32) d_Mo_run_77 (by decide) ?_
  obtain ⟨σ12, gσ12, hT⟩ := tx_pt_some hT
  refine gx_putI (pc := 78) fp_Mo_65 d_Mo_run_78 (rfl) (by decide) rfl ?_
  rw [gσ12]
  refine gx_aload_n (pc := 81) 1 d_Mo_run_81 rfl rfl ?_
  refine gx_iconst (pc := 82) (0 : Int32) d_Mo_run_82 (by decide) ?_
  obtain ⟨σ13, gσ13, hT⟩ := tx_pt_some hT
  refine gx_putI (pc := 83) fp_Mo_223 d_Mo_run_83 (rfl) (by decide) rfl ?_
  rw [gσ13]
  refine gx_aload_n (pc := 86) 1 d_Mo_run_86 rfl rfl ?_
  refine gx_iconst (pc := 87) (0 : Int32) d_Mo_run_87 (by decide) ?_
  obtain ⟨σ14, gσ14, hT⟩ := tx_pt_some hT
  refine gx_putI (pc := 88) fp_Mo_210 d_Mo_run_88 (rfl) (by decide) rfl ?_
  rw [gσ14]
  refine gx_aload_n (pc := 91) 1 d_Mo_run_91 rfl rfl ?_
  refine gx_aload_n (pc := 92) 1 d_Mo_run_92 rfl rfl ?_
  refine gx_iload_n (pc := 93) 2 d_Mo_run_93 rfl rfl ?_
  refine gx_iload (pc := 94) 3 d_Mo_run_94 rfl ?_
  obtain ⟨r16, σ15, cσ15, hT⟩ := tx_ci_some hT
  refine gx_callV (pc := 96) (As := [.int x1, .int x4]) (rest := [.ref (E.1 45)]) cm_Mo_chosen lk_Mo_216 (fx_Mo_chosen_c l E σ14 x1 x4 _ cσ15) (rfl) (by decide) rfl rfl tx_fi_Mo_run_Mo_chosen (Nat.le_of_ble_eq_true rfl) d_Mo_run_96 ?_
  change gx l E mi_Mo_run _ σ15 [(5, .int s0), (0, .ref (E.1 45)), (1, .int x1), (4, .int x4)] 99 [.int r16, .ref (E.1 45)]
  refine gx_iload (pc := 99) 3 d_Mo_run_99 rfl ?_
  refine gx_iload (pc := 101) 0 d_Mo_run_101 rfl ?_
  obtain ⟨σ17, cσ17, hT⟩ := tx_cv_some hT
  refine gx_callV (pc := 103) (As := [.int r16, .int x4, .int s0]) (rest := []) cm_Mo_enter lk_Mo_219 (fx_Mo_enter_c l E σ15 r16 x4 s0 _ cσ17) (rfl) (by decide) rfl rfl tx_fi_Mo_run_Mo_enter (Nat.le_of_ble_eq_true rfl) d_Mo_run_103 ?_
  change gx l E mi_Mo_run _ σ17 [(5, .int s0), (0, .ref (E.1 45)), (1, .int x1), (4, .int x4)] 106 []
  refine gx_sub [1, 2] rfl ?_
  exact fx_Mo_run_b106_w  tx_fu σ17 x1 _ hT
set_option maxRecDepth 100000 in
set_option maxHeartbeats 4000000 in
theorem fx_Mo_run_b33_w {l : Launch} {E : tx_E} (σ : tx_St) (x1 : Int32) (x3 : Int32) (s0 : Int32) (t : Int64 × tx_St) (hT : fx_Mo_run_b33 σ x1 x3 s0 = some t) : gx l E mi_Mo_run (some (.long t.1), t.2) σ [(0, .ref (E.1 45)), (1, .int x1), (3, .int x3)] 33 [.int s0] := by
  unfold fx_Mo_run_b33 at hT
  refine gx_istore (pc := 33) [(4, .int s0), (0, .ref (E.1 45)), (1, .int x1), (3, .int x3)] d_Mo_run_33 (Nat.le_of_ble_eq_true rfl) rfl ?_
  refine gx_aload_n (pc := 35) 1 d_Mo_run_35 rfl rfl ?_
  refine gx_getR (pc := 36) 54 fl_Mo_34 d_Mo_run_36 (rfl) (by decide) rfl ?_
  refine gx_iload_n (pc := 39) 2 d_Mo_run_39 rfl rfl ?_
  obtain ⟨v7, gv7, iv7, hT⟩ := tx_rd_some hT
  refine gx_iald (pc := 40) v7 d_Mo_run_40 (rfl) iv7 gv7 ?_
  refine gx_iconst (pc := 41) (1 : Int32) d_Mo_run_41 (by decide) ?_
  refine gx_icmp_ge (pc := 42) 49 d_Mo_run_42 rfl (fun h8 => ?_) (fun h8 => ?_)
  · have hT := tx_ifp h8 hT
    refine gx_iload_n (pc := 49) 3 d_Mo_run_49 rfl rfl ?_
    refine gx_iconst (pc := 50) (-1 : Int32) d_Mo_run_50 (by decide) ?_
    refine gx_icmp_ne (pc := 51) 58 d_Mo_run_51 rfl (fun h9 => ?_) (fun h9 => ?_)
    · have hT := tx_ifn h9 hT
      refine gx_aload_n (pc := 58) 1 d_Mo_run_58 rfl rfl ?_
      refine gx_getR (pc := 59) 63 fl_Mo_62 d_Mo_run_59 (rfl) (by decide) rfl ?_
      refine gx_iload_n (pc := 62) 3 d_Mo_run_62 rfl rfl ?_
      obtain ⟨v10, gv10, iv10, hT⟩ := tx_rd_some hT
      refine gx_iald (pc := 63) v10 d_Mo_run_63 (rfl) iv10 gv10 ?_
      refine gx_sub [1, 2, 0] rfl ?_
      exact fx_Mo_run_b64_w  σ x1 s0 v10 _ hT
    · have hT := tx_ifp h9 hT
      refine gx_iconst (pc := 54) (0 : Int32) d_Mo_run_54 (by decide) ?_
      refine gx_goto (pc := 55) 64 d_Mo_run_55 rfl ?_
      refine gx_sub [1, 2, 0] rfl ?_
      exact fx_Mo_run_b64_w  σ x1 s0 (0 : Int32) _ hT
  · have hT := tx_ifn h8 hT
    refine gx_iload_n (pc := 45) 3 d_Mo_run_45 rfl rfl ?_
    refine gx_goto (pc := 46) 64 d_Mo_run_46 rfl ?_
    refine gx_sub [1, 2, 0] rfl ?_
    exact fx_Mo_run_b64_w  σ x1 s0 x3 _ hT
set_option maxRecDepth 100000 in
set_option maxHeartbeats 4000000 in
theorem fx_Mo_run_c (l : Launch) (E : tx_E) (σ : tx_St) (x1 : Int32) (x2 : Int32) (x3 : Int32) (t : Int64 × tx_St) (hT : fx_Mo_run σ x1 x2 x3 = some t) : tx_MX l E y_Mo_run mi_Mo_run (some (.long t.1), t.2) [.ref (E.1 45), .int x1, .int x2, .int x3] σ := by
  refine tx_MX_of (by decide) rfl (Nat.le_of_ble_eq_true rfl) ?_
  show gx l E mi_Mo_run (some (.long t.1), t.2) σ [(0, .ref (E.1 45)), (1, .int x1), (2, .int x2), (3, .int x3)] 0 []
  unfold fx_Mo_run at hT
  refine gx_aload_n (pc := 0) 0 d_Mo_run_0 rfl rfl ?_
  refine gx_iload_n (pc := 1) 1 d_Mo_run_1 rfl rfl ?_
  refine gx_iload_n (pc := 2) 2 d_Mo_run_2 rfl rfl ?_
  refine gx_iload_n (pc := 3) 3 d_Mo_run_3 rfl rfl ?_
  obtain ⟨r2, σ1, cσ1, hT⟩ := tx_ci_some hT
  refine gx_callV (pc := 4) (As := [.int x1, .int x2, .int x3]) (rest := []) cm_Mo_refuses lk_Mo_270 (fx_Mo_refuses_c l E σ x1 x2 x3 _ cσ1) (rfl) (by decide) rfl rfl tx_fi_Mo_run_Mo_refuses (Nat.le_of_ble_eq_true rfl) d_Mo_run_4 ?_
  change gx l E mi_Mo_run _ σ1 [(0, .ref (E.1 45)), (1, .int x1), (2, .int x2), (3, .int x3)] 7 [.int r2]
  refine gx_if_eq (pc := 7) 14 d_Mo_run_7 rfl (fun h3 => ?_) (fun h3 => ?_)
  · have hT := tx_ifp h3 hT
    refine gx_aload_n (pc := 14) 0 d_Mo_run_14 rfl rfl ?_
    refine gx_getR (pc := 15) 52 fl_Mo_28 d_Mo_run_15 (rfl) (by decide) rfl ?_
    refine gx_iload_n (pc := 18) 1 d_Mo_run_18 rfl rfl ?_
    obtain ⟨v4, gv4, iv4, hT⟩ := tx_rd_some hT
    refine gx_iald (pc := 19) v4 d_Mo_run_19 (rfl) iv4 gv4 ?_
    refine gx_if_ne (pc := 20) 32 d_Mo_run_20 rfl (fun h5 => ?_) (fun h5 => ?_)
    · have hT := tx_ifn h5 hT
      refine gx_iconst (pc := 32) (0 : Int32) d_Mo_run_32 (by decide) ?_
      refine gx_sub [0, 1, 3] rfl ?_
      exact fx_Mo_run_b33_w  σ1 x1 x3 (0 : Int32) _ hT
    · have hT := tx_ifp h5 hT
      refine gx_aload_n (pc := 23) 0 d_Mo_run_23 rfl rfl ?_
      refine gx_getR (pc := 24) 63 fl_Mo_62 d_Mo_run_24 (rfl) (by decide) rfl ?_
      refine gx_iload_n (pc := 27) 2 d_Mo_run_27 rfl rfl ?_
      obtain ⟨v6, gv6, iv6, hT⟩ := tx_rd_some hT
      refine gx_iald (pc := 28) v6 d_Mo_run_28 (rfl) iv6 gv6 ?_
      refine gx_goto (pc := 29) 33 d_Mo_run_29 rfl ?_
      refine gx_sub [0, 1, 3] rfl ?_
      exact fx_Mo_run_b33_w  σ1 x1 x3 v6 _ hT
  · have hT := tx_ifn h3 hT
    refine gx_ldc2 (pc := 10) (v := (68719476736 : Int64)) d_Mo_run_10 tw_4_196 ?_
    cases hT
    exact gx_lret (pc := 13) d_Mo_run_13 rfl rfl
theorem d_Mo_look_0 : decode c_Mo_look 0 = .ok (.aload_n 0, 1) := by decide +kernel
theorem d_Mo_look_1 : decode c_Mo_look 1 = .ok (.iload_n 1, 1) := by decide +kernel
theorem d_Mo_look_2 : decode c_Mo_look 2 = .ok (.invokevirtual 267, 3) := by decide +kernel
theorem d_Mo_look_5 : decode c_Mo_look 5 = .ok (.ifCond .ne (7), 3) := by decide +kernel
theorem d_Mo_look_8 : decode c_Mo_look 8 = .ok (.ldc2_w 273, 3) := by decide +kernel
theorem d_Mo_look_11 : decode c_Mo_look 11 = .ok (.lreturn, 1) := by decide +kernel
theorem d_Mo_look_12 : decode c_Mo_look 12 = .ok (.aload_n 0, 1) := by decide +kernel
theorem d_Mo_look_13 : decode c_Mo_look 13 = .ok (.getfield 62, 3) := by decide +kernel
theorem d_Mo_look_16 : decode c_Mo_look 16 = .ok (.iload_n 1, 1) := by decide +kernel
theorem d_Mo_look_17 : decode c_Mo_look 17 = .ok (.iaload, 1) := by decide +kernel
theorem d_Mo_look_18 : decode c_Mo_look 18 = .ok (.istore_n 3, 1) := by decide +kernel
theorem d_Mo_look_19 : decode c_Mo_look 19 = .ok (.aload_n 0, 1) := by decide +kernel
theorem d_Mo_look_20 : decode c_Mo_look 20 = .ok (.getfield 56, 3) := by decide +kernel
theorem d_Mo_look_23 : decode c_Mo_look 23 = .ok (.iload_n 3, 1) := by decide +kernel
theorem d_Mo_look_24 : decode c_Mo_look 24 = .ok (.iconst (1), 1) := by decide +kernel
theorem d_Mo_look_25 : decode c_Mo_look 25 = .ok (.isub, 1) := by decide +kernel
theorem d_Mo_look_26 : decode c_Mo_look 26 = .ok (.iaload, 1) := by decide +kernel
theorem d_Mo_look_27 : decode c_Mo_look 27 = .ok (.istore 4, 2) := by decide +kernel
theorem d_Mo_look_29 : decode c_Mo_look 29 = .ok (.iload 4, 2) := by decide +kernel
theorem d_Mo_look_31 : decode c_Mo_look 31 = .ok (.iconst (1), 1) := by decide +kernel
theorem d_Mo_look_32 : decode c_Mo_look 32 = .ok (.if_icmp .ne (16), 3) := by decide +kernel
theorem d_Mo_look_35 : decode c_Mo_look 35 = .ok (.aload_n 0, 1) := by decide +kernel
theorem d_Mo_look_36 : decode c_Mo_look 36 = .ok (.getfield 59, 3) := by decide +kernel
theorem d_Mo_look_39 : decode c_Mo_look 39 = .ok (.bipush (12), 2) := by decide +kernel
theorem d_Mo_look_41 : decode c_Mo_look 41 = .ok (.iload_n 3, 1) := by decide +kernel
theorem d_Mo_look_42 : decode c_Mo_look 42 = .ok (.iconst (1), 1) := by decide +kernel
theorem d_Mo_look_43 : decode c_Mo_look 43 = .ok (.isub, 1) := by decide +kernel
theorem d_Mo_look_44 : decode c_Mo_look 44 = .ok (.imul, 1) := by decide +kernel
theorem d_Mo_look_45 : decode c_Mo_look 45 = .ok (.iaload, 1) := by decide +kernel
theorem d_Mo_look_46 : decode c_Mo_look 46 = .ok (.i2l, 1) := by decide +kernel
theorem d_Mo_look_47 : decode c_Mo_look 47 = .ok (.lreturn, 1) := by decide +kernel
theorem d_Mo_look_48 : decode c_Mo_look 48 = .ok (.iload_n 2, 1) := by decide +kernel
theorem d_Mo_look_49 : decode c_Mo_look 49 = .ok (.ifCond .lt (23), 3) := by decide +kernel
theorem d_Mo_look_52 : decode c_Mo_look 52 = .ok (.iload_n 2, 1) := by decide +kernel
theorem d_Mo_look_53 : decode c_Mo_look 53 = .ok (.aload_n 0, 1) := by decide +kernel
theorem d_Mo_look_54 : decode c_Mo_look 54 = .ok (.getfield 101, 3) := by decide +kernel
theorem d_Mo_look_57 : decode c_Mo_look 57 = .ok (.if_icmp .ge (15), 3) := by decide +kernel
theorem d_Mo_look_60 : decode c_Mo_look 60 = .ok (.aload_n 0, 1) := by decide +kernel
theorem d_Mo_look_61 : decode c_Mo_look 61 = .ok (.iload 4, 2) := by decide +kernel
theorem d_Mo_look_63 : decode c_Mo_look 63 = .ok (.iconst (2), 1) := by decide +kernel
theorem d_Mo_look_64 : decode c_Mo_look 64 = .ok (.isub, 1) := by decide +kernel
theorem d_Mo_look_65 : decode c_Mo_look 65 = .ok (.iload_n 2, 1) := by decide +kernel
theorem d_Mo_look_66 : decode c_Mo_look 66 = .ok (.invokevirtual 140, 3) := by decide +kernel
theorem d_Mo_look_69 : decode c_Mo_look 69 = .ok (.ifCond .ne (7), 3) := by decide +kernel
theorem d_Mo_look_72 : decode c_Mo_look 72 = .ok (.ldc2_w 273, 3) := by decide +kernel
theorem d_Mo_look_75 : decode c_Mo_look 75 = .ok (.lreturn, 1) := by decide +kernel
theorem d_Mo_look_76 : decode c_Mo_look 76 = .ok (.aload_n 0, 1) := by decide +kernel
theorem d_Mo_look_77 : decode c_Mo_look 77 = .ok (.getfield 59, 3) := by decide +kernel
theorem d_Mo_look_80 : decode c_Mo_look 80 = .ok (.bipush (12), 2) := by decide +kernel
theorem d_Mo_look_82 : decode c_Mo_look 82 = .ok (.iload_n 3, 1) := by decide +kernel
theorem d_Mo_look_83 : decode c_Mo_look 83 = .ok (.iconst (1), 1) := by decide +kernel
theorem d_Mo_look_84 : decode c_Mo_look 84 = .ok (.isub, 1) := by decide +kernel
theorem d_Mo_look_85 : decode c_Mo_look 85 = .ok (.imul, 1) := by decide +kernel
theorem d_Mo_look_86 : decode c_Mo_look 86 = .ok (.iload_n 2, 1) := by decide +kernel
theorem d_Mo_look_87 : decode c_Mo_look 87 = .ok (.iadd, 1) := by decide +kernel
theorem d_Mo_look_88 : decode c_Mo_look 88 = .ok (.iaload, 1) := by decide +kernel
theorem d_Mo_look_89 : decode c_Mo_look 89 = .ok (.istore 5, 2) := by decide +kernel
theorem d_Mo_look_91 : decode c_Mo_look 91 = .ok (.aload_n 0, 1) := by decide +kernel
theorem d_Mo_look_92 : decode c_Mo_look 92 = .ok (.getfield 22, 3) := by decide +kernel
theorem d_Mo_look_95 : decode c_Mo_look 95 = .ok (.iload_n 2, 1) := by decide +kernel
theorem d_Mo_look_96 : decode c_Mo_look 96 = .ok (.iaload, 1) := by decide +kernel
theorem d_Mo_look_97 : decode c_Mo_look 97 = .ok (.ifCond .ne (9), 3) := by decide +kernel
theorem d_Mo_look_100 : decode c_Mo_look 100 = .ok (.iload 5, 2) := by decide +kernel
theorem d_Mo_look_102 : decode c_Mo_look 102 = .ok (.i2l, 1) := by decide +kernel
theorem d_Mo_look_103 : decode c_Mo_look 103 = .ok (.goto (9), 3) := by decide +kernel
theorem d_Mo_look_106 : decode c_Mo_look 106 = .ok (.aload_n 0, 1) := by decide +kernel
theorem d_Mo_look_107 : decode c_Mo_look 107 = .ok (.iload 5, 2) := by decide +kernel
theorem d_Mo_look_109 : decode c_Mo_look 109 = .ok (.invokevirtual 282, 3) := by decide +kernel
theorem d_Mo_look_112 : decode c_Mo_look 112 = .ok (.lreturn, 1) := by decide +kernel
def fx_Mo_look_b72 (σ : tx_St) : Option (Int64 × tx_St) := some ((68719476736 : Int64), σ)
def fx_Mo_look_b112 (σ : tx_St) (s0 : Int64) : Option (Int64 × tx_St) := some (s0, σ)
def fx_Mo_look (σ : tx_St) (x1 : Int32) (x2 : Int32) : Option (Int64 × tx_St) := tx_ci (fx_Mo_holds σ x1) fun r2 σ1 => (if r2 = 0 then some ((68719476736 : Int64), σ1) else tx_rd σ1 63 16 x1 fun v4 => tx_rd σ1 61 320 (v4 - (1 : Int32)) fun v5 => (if v5 = (1 : Int32) then tx_rd σ1 62 3840 ((12 : Int32) * (v4 - (1 : Int32))) fun v17 => some (v17.toInt64, σ1) else (if x2 < 0 then fx_Mo_look_b72  σ1 else (if (σ1 45 3) ≤ x2 then fx_Mo_look_b72  σ1 else tx_ci (fx_Mo_owns σ1 (v5 - (2 : Int32)) x2) fun r10 σ9 => (if r10 = 0 then fx_Mo_look_b72  σ9 else tx_rd σ9 62 3840 (((12 : Int32) * (v4 - (1 : Int32))) + x2) fun v12 => tx_rd σ9 50 12 x2 fun v13 => (if v13 = 0 then fx_Mo_look_b112  σ9 v12.toInt64 else tx_cl8 (fx_Mo_shown σ9 v12) fun r16 σ15 => fx_Mo_look_b112  σ15 r16))))))
set_option maxRecDepth 100000 in
set_option maxHeartbeats 4000000 in
theorem fx_Mo_look_b72_w {l : Launch} {E : tx_E} (σ : tx_St) (t : Int64 × tx_St) (hT : fx_Mo_look_b72 σ  = some t) : gx l E mi_Mo_look (some (.long t.1), t.2) σ [] 72 [] := by
  unfold fx_Mo_look_b72 at hT
  refine gx_ldc2 (pc := 72) (v := (68719476736 : Int64)) d_Mo_look_72 tw_4_196 ?_
  cases hT
  exact gx_lret (pc := 75) d_Mo_look_75 rfl rfl
set_option maxRecDepth 100000 in
set_option maxHeartbeats 4000000 in
theorem fx_Mo_look_b112_w {l : Launch} {E : tx_E} (σ : tx_St) (s0 : Int64) (t : Int64 × tx_St) (hT : fx_Mo_look_b112 σ s0 = some t) : gx l E mi_Mo_look (some (.long t.1), t.2) σ [] 112 [.long s0] := by
  unfold fx_Mo_look_b112 at hT
  cases hT
  exact gx_lret (pc := 112) d_Mo_look_112 rfl rfl
set_option maxRecDepth 100000 in
set_option maxHeartbeats 4000000 in
theorem fx_Mo_look_c (l : Launch) (E : tx_E) (σ : tx_St) (x1 : Int32) (x2 : Int32) (t : Int64 × tx_St) (hT : fx_Mo_look σ x1 x2 = some t) : tx_MX l E y_Mo_look mi_Mo_look (some (.long t.1), t.2) [.ref (E.1 45), .int x1, .int x2] σ := by
  refine tx_MX_of (by decide) rfl (Nat.le_of_ble_eq_true rfl) ?_
  show gx l E mi_Mo_look (some (.long t.1), t.2) σ [(0, .ref (E.1 45)), (1, .int x1), (2, .int x2)] 0 []
  unfold fx_Mo_look at hT
  refine gx_aload_n (pc := 0) 0 d_Mo_look_0 rfl rfl ?_
  refine gx_iload_n (pc := 1) 1 d_Mo_look_1 rfl rfl ?_
  obtain ⟨r2, σ1, cσ1, hT⟩ := tx_ci_some hT
  refine gx_callV (pc := 2) (As := [.int x1]) (rest := []) cm_Mo_holds lk_Mo_267 (fx_Mo_holds_c l E σ x1 _ cσ1) (rfl) (by decide) rfl rfl tx_fi_Mo_look_Mo_holds (Nat.le_of_ble_eq_true rfl) d_Mo_look_2 ?_
  change gx l E mi_Mo_look _ σ1 [(0, .ref (E.1 45)), (1, .int x1), (2, .int x2)] 5 [.int r2]
  refine gx_if_ne (pc := 5) 12 d_Mo_look_5 rfl (fun h3 => ?_) (fun h3 => ?_)
  · have hT := tx_ifn h3 hT
    refine gx_aload_n (pc := 12) 0 d_Mo_look_12 rfl rfl ?_
    refine gx_getR (pc := 13) 63 fl_Mo_62 d_Mo_look_13 (rfl) (by decide) rfl ?_
    refine gx_iload_n (pc := 16) 1 d_Mo_look_16 rfl rfl ?_
    obtain ⟨v4, gv4, iv4, hT⟩ := tx_rd_some hT
    refine gx_iald (pc := 17) v4 d_Mo_look_17 (rfl) iv4 gv4 ?_
    refine gx_istore_n (pc := 18) [(3, .int v4), (0, .ref (E.1 45)), (1, .int x1), (2, .int x2)] d_Mo_look_18 rfl (Nat.le_of_ble_eq_true rfl) rfl ?_
    refine gx_aload_n (pc := 19) 1 d_Mo_look_19 rfl rfl ?_
    refine gx_getR (pc := 20) 61 fl_Mo_56 d_Mo_look_20 (rfl) (by decide) rfl ?_
    refine gx_iload_n (pc := 23) 0 d_Mo_look_23 rfl rfl ?_
    refine gx_iconst (pc := 24) (1 : Int32) d_Mo_look_24 (by decide) ?_
    refine gx_isub (pc := 25) d_Mo_look_25 ?_
    obtain ⟨v5, gv5, iv5, hT⟩ := tx_rd_some hT
    refine gx_iald (pc := 26) v5 d_Mo_look_26 (rfl) iv5 gv5 ?_
    refine gx_istore (pc := 27) [(4, .int v5), (3, .int v4), (0, .ref (E.1 45)), (1, .int x1), (2, .int x2)] d_Mo_look_27 (Nat.le_of_ble_eq_true rfl) rfl ?_
    refine gx_iload (pc := 29) 0 d_Mo_look_29 rfl ?_
    refine gx_iconst (pc := 31) (1 : Int32) d_Mo_look_31 (by decide) ?_
    refine gx_icmp_ne (pc := 32) 48 d_Mo_look_32 rfl (fun h6 => ?_) (fun h6 => ?_)
    · have hT := tx_ifn h6 hT
      refine gx_iload_n (pc := 48) 4 d_Mo_look_48 rfl rfl ?_
      refine gx_if_lt (pc := 49) 72 d_Mo_look_49 rfl (fun h7 => ?_) (fun h7 => ?_)
      · have hT := tx_ifp h7 hT
        refine gx_sub [] rfl ?_
        exact fx_Mo_look_b72_w  σ1 _ hT
      · have hT := tx_ifn h7 hT
        refine gx_iload_n (pc := 52) 4 d_Mo_look_52 rfl rfl ?_
        refine gx_aload_n (pc := 53) 2 d_Mo_look_53 rfl rfl ?_
        refine gx_getI (pc := 54) (σ1 45 3) fl_Mo_101 d_Mo_look_54 (rfl) (by decide) rfl rfl ?_
        refine gx_icmp_ge (pc := 57) 72 d_Mo_look_57 rfl (fun h8 => ?_) (fun h8 => ?_)
        · have hT := tx_ifp h8 hT
          refine gx_sub [] rfl ?_
          exact fx_Mo_look_b72_w  σ1 _ hT
        · have hT := tx_ifn h8 hT
          refine gx_aload_n (pc := 60) 2 d_Mo_look_60 rfl rfl ?_
          refine gx_iload (pc := 61) 0 d_Mo_look_61 rfl ?_
          refine gx_iconst (pc := 63) (2 : Int32) d_Mo_look_63 (by decide) ?_
          refine gx_isub (pc := 64) d_Mo_look_64 ?_
          refine gx_iload_n (pc := 65) 4 d_Mo_look_65 rfl rfl ?_
          obtain ⟨r10, σ9, cσ9, hT⟩ := tx_ci_some hT
          refine gx_callV (pc := 66) (As := [.int (v5 - (2 : Int32)), .int x2]) (rest := []) cm_Mo_owns lk_Mo_140 (fx_Mo_owns_c l E σ1 (v5 - (2 : Int32)) x2 _ cσ9) (rfl) (by decide) rfl rfl tx_fi_Mo_look_Mo_owns (Nat.le_of_ble_eq_true rfl) d_Mo_look_66 ?_
          change gx l E mi_Mo_look _ σ9 [(4, .int v5), (3, .int v4), (0, .ref (E.1 45)), (1, .int x1), (2, .int x2)] 69 [.int r10]
          refine gx_if_ne (pc := 69) 76 d_Mo_look_69 rfl (fun h11 => ?_) (fun h11 => ?_)
          · have hT := tx_ifn h11 hT
            refine gx_aload_n (pc := 76) 2 d_Mo_look_76 rfl rfl ?_
            refine gx_getR (pc := 77) 62 fl_Mo_59 d_Mo_look_77 (rfl) (by decide) rfl ?_
            refine gx_bipush (pc := 80) (12 : Int32) d_Mo_look_80 (by decide) ?_
            refine gx_iload_n (pc := 82) 1 d_Mo_look_82 rfl rfl ?_
            refine gx_iconst (pc := 83) (1 : Int32) d_Mo_look_83 (by decide) ?_
            refine gx_isub (pc := 84) d_Mo_look_84 ?_
            refine gx_imul (pc := 85) d_Mo_look_85 ?_
            refine gx_iload_n (pc := 86) 4 d_Mo_look_86 rfl rfl ?_
            refine gx_iadd (pc := 87) d_Mo_look_87 ?_
            obtain ⟨v12, gv12, iv12, hT⟩ := tx_rd_some hT
            refine gx_iald (pc := 88) v12 d_Mo_look_88 (rfl) iv12 gv12 ?_
            refine gx_istore (pc := 89) [(5, .int v12), (4, .int v5), (3, .int v4), (0, .ref (E.1 45)), (1, .int x1), (2, .int x2)] d_Mo_look_89 (Nat.le_of_ble_eq_true rfl) rfl ?_
            refine gx_aload_n (pc := 91) 3 d_Mo_look_91 rfl rfl ?_
            refine gx_getR (pc := 92) 50 fl_Mo_22 d_Mo_look_92 (rfl) (by decide) rfl ?_
            refine gx_iload_n (pc := 95) 5 d_Mo_look_95 rfl rfl ?_
            obtain ⟨v13, gv13, iv13, hT⟩ := tx_rd_some hT
            refine gx_iald (pc := 96) v13 d_Mo_look_96 (rfl) iv13 gv13 ?_
            refine gx_if_ne (pc := 97) 106 d_Mo_look_97 rfl (fun h14 => ?_) (fun h14 => ?_)
            · have hT := tx_ifn h14 hT
              refine gx_aload_n (pc := 106) 3 d_Mo_look_106 rfl rfl ?_
              refine gx_iload (pc := 107) 0 d_Mo_look_107 rfl ?_
              obtain ⟨r16, σ15, cσ15, hT⟩ := tx_cl_some hT
              refine gx_callV (pc := 109) (As := [.int v12]) (rest := []) cm_Mo_shown lk_Mo_282 (fx_Mo_shown_c l E σ9 v12 _ cσ15) (rfl) (by decide) rfl rfl tx_fi_Mo_look_Mo_shown (Nat.le_of_ble_eq_true rfl) d_Mo_look_109 ?_
              change gx l E mi_Mo_look _ σ15 [(5, .int v12), (4, .int v5), (3, .int v4), (0, .ref (E.1 45)), (1, .int x1), (2, .int x2)] 112 [.long r16]
              refine gx_sub [] rfl ?_
              exact fx_Mo_look_b112_w  σ15 r16 _ hT
            · have hT := tx_ifp h14 hT
              refine gx_iload (pc := 100) 0 d_Mo_look_100 rfl ?_
              refine gx_i2l (pc := 102) d_Mo_look_102 ?_
              refine gx_goto (pc := 103) 112 d_Mo_look_103 rfl ?_
              refine gx_sub [] rfl ?_
              exact fx_Mo_look_b112_w  σ9 v12.toInt64 _ hT
          · have hT := tx_ifp h11 hT
            refine gx_sub [] rfl ?_
            exact fx_Mo_look_b72_w  σ9 _ hT
    · have hT := tx_ifp h6 hT
      refine gx_aload_n (pc := 35) 2 d_Mo_look_35 rfl rfl ?_
      refine gx_getR (pc := 36) 62 fl_Mo_59 d_Mo_look_36 (rfl) (by decide) rfl ?_
      refine gx_bipush (pc := 39) (12 : Int32) d_Mo_look_39 (by decide) ?_
      refine gx_iload_n (pc := 41) 1 d_Mo_look_41 rfl rfl ?_
      refine gx_iconst (pc := 42) (1 : Int32) d_Mo_look_42 (by decide) ?_
      refine gx_isub (pc := 43) d_Mo_look_43 ?_
      refine gx_imul (pc := 44) d_Mo_look_44 ?_
      obtain ⟨v17, gv17, iv17, hT⟩ := tx_rd_some hT
      refine gx_iald (pc := 45) v17 d_Mo_look_45 (rfl) iv17 gv17 ?_
      refine gx_i2l (pc := 46) d_Mo_look_46 ?_
      cases hT
      exact gx_lret (pc := 47) d_Mo_look_47 rfl rfl
  · have hT := tx_ifp h3 hT
    refine gx_ldc2 (pc := 8) (v := (68719476736 : Int64)) d_Mo_look_8 tw_4_196 ?_
    cases hT
    exact gx_lret (pc := 11) d_Mo_look_11 rfl rfl
theorem d_Mo_held_0 : decode c_Mo_held 0 = .ok (.aload_n 0, 1) := by decide +kernel
theorem d_Mo_held_1 : decode c_Mo_held 1 = .ok (.iload_n 1, 1) := by decide +kernel
theorem d_Mo_held_2 : decode c_Mo_held 2 = .ok (.invokevirtual 267, 3) := by decide +kernel
theorem d_Mo_held_5 : decode c_Mo_held 5 = .ok (.ifCond .eq (19), 3) := by decide +kernel
theorem d_Mo_held_8 : decode c_Mo_held 8 = .ok (.aload_n 0, 1) := by decide +kernel
theorem d_Mo_held_9 : decode c_Mo_held 9 = .ok (.getfield 56, 3) := by decide +kernel
theorem d_Mo_held_12 : decode c_Mo_held 12 = .ok (.aload_n 0, 1) := by decide +kernel
theorem d_Mo_held_13 : decode c_Mo_held 13 = .ok (.getfield 62, 3) := by decide +kernel
theorem d_Mo_held_16 : decode c_Mo_held 16 = .ok (.iload_n 1, 1) := by decide +kernel
theorem d_Mo_held_17 : decode c_Mo_held 17 = .ok (.iaload, 1) := by decide +kernel
theorem d_Mo_held_18 : decode c_Mo_held 18 = .ok (.iconst (1), 1) := by decide +kernel
theorem d_Mo_held_19 : decode c_Mo_held 19 = .ok (.isub, 1) := by decide +kernel
theorem d_Mo_held_20 : decode c_Mo_held 20 = .ok (.iaload, 1) := by decide +kernel
theorem d_Mo_held_21 : decode c_Mo_held 21 = .ok (.goto (4), 3) := by decide +kernel
theorem d_Mo_held_24 : decode c_Mo_held 24 = .ok (.iconst (-1), 1) := by decide +kernel
theorem d_Mo_held_25 : decode c_Mo_held 25 = .ok (.ireturn, 1) := by decide +kernel
def fx_Mo_held_b25 (σ : tx_St) (s0 : Int32) : Option (Int32 × tx_St) := some (s0, σ)
def fx_Mo_held (σ : tx_St) (x1 : Int32) : Option (Int32 × tx_St) := tx_ci (fx_Mo_holds σ x1) fun r2 σ1 => (if r2 = 0 then fx_Mo_held_b25  σ1 (-1 : Int32) else tx_rd σ1 63 16 x1 fun v4 => tx_rd σ1 61 320 (v4 - (1 : Int32)) fun v5 => fx_Mo_held_b25  σ1 v5)
set_option maxRecDepth 100000 in
set_option maxHeartbeats 4000000 in
theorem fx_Mo_held_b25_w {l : Launch} {E : tx_E} (σ : tx_St) (s0 : Int32) (t : Int32 × tx_St) (hT : fx_Mo_held_b25 σ s0 = some t) : gx l E mi_Mo_held (some (.int t.1), t.2) σ [] 25 [.int s0] := by
  unfold fx_Mo_held_b25 at hT
  cases hT
  exact gx_iret (pc := 25) d_Mo_held_25 rfl rfl
set_option maxRecDepth 100000 in
set_option maxHeartbeats 4000000 in
theorem fx_Mo_held_c (l : Launch) (E : tx_E) (σ : tx_St) (x1 : Int32) (t : Int32 × tx_St) (hT : fx_Mo_held σ x1 = some t) : tx_MX l E y_Mo_held mi_Mo_held (some (.int t.1), t.2) [.ref (E.1 45), .int x1] σ := by
  refine tx_MX_of (by decide) rfl (Nat.le_of_ble_eq_true rfl) ?_
  show gx l E mi_Mo_held (some (.int t.1), t.2) σ [(0, .ref (E.1 45)), (1, .int x1)] 0 []
  unfold fx_Mo_held at hT
  refine gx_aload_n (pc := 0) 0 d_Mo_held_0 rfl rfl ?_
  refine gx_iload_n (pc := 1) 1 d_Mo_held_1 rfl rfl ?_
  obtain ⟨r2, σ1, cσ1, hT⟩ := tx_ci_some hT
  refine gx_callV (pc := 2) (As := [.int x1]) (rest := []) cm_Mo_holds lk_Mo_267 (fx_Mo_holds_c l E σ x1 _ cσ1) (rfl) (by decide) rfl rfl tx_fi_Mo_held_Mo_holds (Nat.le_of_ble_eq_true rfl) d_Mo_held_2 ?_
  change gx l E mi_Mo_held _ σ1 [(0, .ref (E.1 45)), (1, .int x1)] 5 [.int r2]
  refine gx_if_eq (pc := 5) 24 d_Mo_held_5 rfl (fun h3 => ?_) (fun h3 => ?_)
  · have hT := tx_ifp h3 hT
    refine gx_iconst (pc := 24) (-1 : Int32) d_Mo_held_24 (by decide) ?_
    refine gx_sub [] rfl ?_
    exact fx_Mo_held_b25_w  σ1 (-1 : Int32) _ hT
  · have hT := tx_ifn h3 hT
    refine gx_aload_n (pc := 8) 0 d_Mo_held_8 rfl rfl ?_
    refine gx_getR (pc := 9) 61 fl_Mo_56 d_Mo_held_9 (rfl) (by decide) rfl ?_
    refine gx_aload_n (pc := 12) 0 d_Mo_held_12 rfl rfl ?_
    refine gx_getR (pc := 13) 63 fl_Mo_62 d_Mo_held_13 (rfl) (by decide) rfl ?_
    refine gx_iload_n (pc := 16) 1 d_Mo_held_16 rfl rfl ?_
    obtain ⟨v4, gv4, iv4, hT⟩ := tx_rd_some hT
    refine gx_iald (pc := 17) v4 d_Mo_held_17 (rfl) iv4 gv4 ?_
    refine gx_iconst (pc := 18) (1 : Int32) d_Mo_held_18 (by decide) ?_
    refine gx_isub (pc := 19) d_Mo_held_19 ?_
    obtain ⟨v5, gv5, iv5, hT⟩ := tx_rd_some hT
    refine gx_iald (pc := 20) v5 d_Mo_held_20 (rfl) iv5 gv5 ?_
    refine gx_goto (pc := 21) 25 d_Mo_held_21 rfl ?_
    refine gx_sub [] rfl ?_
    exact fx_Mo_held_b25_w  σ1 v5 _ hT
theorem d_Mo_runs_0 : decode c_Mo_runs 0 = .ok (.aload_n 0, 1) := by decide +kernel
theorem d_Mo_runs_1 : decode c_Mo_runs 1 = .ok (.getfield 264, 3) := by decide +kernel
theorem d_Mo_runs_4 : decode c_Mo_runs 4 = .ok (.ireturn, 1) := by decide +kernel
def fx_Mo_runs (σ : tx_St) : Option (Int32 × tx_St) := some ((σ 45 25), σ)
set_option maxRecDepth 100000 in
set_option maxHeartbeats 4000000 in
theorem fx_Mo_runs_c (l : Launch) (E : tx_E) (σ : tx_St) (t : Int32 × tx_St) (hT : fx_Mo_runs σ  = some t) : tx_MX l E y_Mo_runs mi_Mo_runs (some (.int t.1), t.2) [.ref (E.1 45)] σ := by
  refine tx_MX_of (by decide) rfl (Nat.le_of_ble_eq_true rfl) ?_
  show gx l E mi_Mo_runs (some (.int t.1), t.2) σ [(0, .ref (E.1 45))] 0 []
  unfold fx_Mo_runs at hT
  refine gx_aload_n (pc := 0) 0 d_Mo_runs_0 rfl rfl ?_
  refine gx_getI (pc := 1) (σ 45 25) fl_Mo_264 d_Mo_runs_1 (rfl) (by decide) rfl rfl ?_
  cases hT
  exact gx_iret (pc := 4) d_Mo_runs_4 rfl rfl
theorem d_Mo_steps_0 : decode c_Mo_steps 0 = .ok (.aload_n 0, 1) := by decide +kernel
theorem d_Mo_steps_1 : decode c_Mo_steps 1 = .ok (.getfield 65, 3) := by decide +kernel
theorem d_Mo_steps_4 : decode c_Mo_steps 4 = .ok (.ireturn, 1) := by decide +kernel
def fx_Mo_steps (σ : tx_St) : Option (Int32 × tx_St) := some ((σ 45 26), σ)
set_option maxRecDepth 100000 in
set_option maxHeartbeats 4000000 in
theorem fx_Mo_steps_c (l : Launch) (E : tx_E) (σ : tx_St) (t : Int32 × tx_St) (hT : fx_Mo_steps σ  = some t) : tx_MX l E y_Mo_steps mi_Mo_steps (some (.int t.1), t.2) [.ref (E.1 45)] σ := by
  refine tx_MX_of (by decide) rfl (Nat.le_of_ble_eq_true rfl) ?_
  show gx l E mi_Mo_steps (some (.int t.1), t.2) σ [(0, .ref (E.1 45))] 0 []
  unfold fx_Mo_steps at hT
  refine gx_aload_n (pc := 0) 0 d_Mo_steps_0 rfl rfl ?_
  refine gx_getI (pc := 1) (σ 45 26) fl_Mo_65 d_Mo_steps_1 (rfl) (by decide) rfl rfl ?_
  cases hT
  exact gx_iret (pc := 4) d_Mo_steps_4 rfl rfl
