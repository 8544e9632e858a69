/-! THE LAW: its code; calls of both objects -/
theorem d_law_0 : decode code 0 = .ok (.new 7, 3) := by decide +kernel
theorem d_law_3 : decode code 3 = .ok (.dup, 1) := by decide +kernel
theorem d_law_4 : decode code 4 = .ok (.invokespecial 9, 3) := by decide +kernel
theorem d_law_7 : decode code 7 = .ok (.astore_n 1, 1) := by decide +kernel
theorem d_law_8 : decode code 8 = .ok (.new 10, 3) := by decide +kernel
theorem d_law_11 : decode code 11 = .ok (.dup, 1) := by decide +kernel
theorem d_law_12 : decode code 12 = .ok (.invokespecial 12, 3) := by decide +kernel
theorem d_law_15 : decode code 15 = .ok (.astore_n 2, 1) := by decide +kernel
theorem d_law_16 : decode code 16 = .ok (.iconst 0, 1) := by decide +kernel
theorem d_law_17 : decode code 17 = .ok (.istore_n 3, 1) := by decide +kernel
theorem d_law_18 : decode code 18 = .ok (.iload_n 3, 1) := by decide +kernel
theorem d_law_19 : decode code 19 = .ok (.aload_n 0, 1) := by decide +kernel
theorem d_law_20 : decode code 20 = .ok (.arraylength, 1) := by decide +kernel
theorem d_law_21 : decode code 21 = .ok (.bipush 6, 2) := by decide +kernel
theorem d_law_23 : decode code 23 = .ok (.isub, 1) := by decide +kernel
theorem d_law_24 : decode code 24 = .ok (.if_icmp .gt 299, 3) := by decide +kernel
theorem d_law_27 : decode code 27 = .ok (.aload_n 0, 1) := by decide +kernel
theorem d_law_28 : decode code 28 = .ok (.iload_n 3, 1) := by decide +kernel
theorem d_law_29 : decode code 29 = .ok (.iaload, 1) := by decide +kernel
theorem d_law_30 : decode code 30 = .ok (.bipush 7, 2) := by decide +kernel
theorem d_law_32 : decode code 32 = .ok (.iand, 1) := by decide +kernel
theorem d_law_33 : decode code 33 = .ok (.tableswitch 284 0 6 #[43, 106, 129, 152, 175, 208, 241], 43) := by decide +kernel
theorem d_law_76 : decode code 76 = .ok (.aload_n 1, 1) := by decide +kernel
theorem d_law_77 : decode code 77 = .ok (.aload_n 0, 1) := by decide +kernel
theorem d_law_78 : decode code 78 = .ok (.iload_n 3, 1) := by decide +kernel
theorem d_law_79 : decode code 79 = .ok (.iconst 1, 1) := by decide +kernel
theorem d_law_80 : decode code 80 = .ok (.iadd, 1) := by decide +kernel
theorem d_law_81 : decode code 81 = .ok (.iaload, 1) := by decide +kernel
theorem d_law_82 : decode code 82 = .ok (.aload_n 0, 1) := by decide +kernel
theorem d_law_83 : decode code 83 = .ok (.iload_n 3, 1) := by decide +kernel
theorem d_law_84 : decode code 84 = .ok (.iconst 2, 1) := by decide +kernel
theorem d_law_85 : decode code 85 = .ok (.iadd, 1) := by decide +kernel
theorem d_law_86 : decode code 86 = .ok (.iaload, 1) := by decide +kernel
theorem d_law_87 : decode code 87 = .ok (.aload_n 0, 1) := by decide +kernel
theorem d_law_88 : decode code 88 = .ok (.iload_n 3, 1) := by decide +kernel
theorem d_law_89 : decode code 89 = .ok (.iconst 3, 1) := by decide +kernel
theorem d_law_90 : decode code 90 = .ok (.iadd, 1) := by decide +kernel
theorem d_law_91 : decode code 91 = .ok (.iaload, 1) := by decide +kernel
theorem d_law_92 : decode code 92 = .ok (.aload_n 0, 1) := by decide +kernel
theorem d_law_93 : decode code 93 = .ok (.iload_n 3, 1) := by decide +kernel
theorem d_law_94 : decode code 94 = .ok (.iconst 4, 1) := by decide +kernel
theorem d_law_95 : decode code 95 = .ok (.iadd, 1) := by decide +kernel
theorem d_law_96 : decode code 96 = .ok (.iaload, 1) := by decide +kernel
theorem d_law_97 : decode code 97 = .ok (.aload_n 0, 1) := by decide +kernel
theorem d_law_98 : decode code 98 = .ok (.iload_n 3, 1) := by decide +kernel
theorem d_law_99 : decode code 99 = .ok (.iconst 5, 1) := by decide +kernel
theorem d_law_100 : decode code 100 = .ok (.iadd, 1) := by decide +kernel
theorem d_law_101 : decode code 101 = .ok (.iaload, 1) := by decide +kernel
theorem d_law_102 : decode code 102 = .ok (.invokevirtual 13, 3) := by decide +kernel
theorem d_law_105 : decode code 105 = .ok (.aload_n 2, 1) := by decide +kernel
theorem d_law_106 : decode code 106 = .ok (.aload_n 0, 1) := by decide +kernel
theorem d_law_107 : decode code 107 = .ok (.iload_n 3, 1) := by decide +kernel
theorem d_law_108 : decode code 108 = .ok (.iconst 1, 1) := by decide +kernel
theorem d_law_109 : decode code 109 = .ok (.iadd, 1) := by decide +kernel
theorem d_law_110 : decode code 110 = .ok (.iaload, 1) := by decide +kernel
theorem d_law_111 : decode code 111 = .ok (.aload_n 0, 1) := by decide +kernel
theorem d_law_112 : decode code 112 = .ok (.iload_n 3, 1) := by decide +kernel
theorem d_law_113 : decode code 113 = .ok (.iconst 2, 1) := by decide +kernel
theorem d_law_114 : decode code 114 = .ok (.iadd, 1) := by decide +kernel
theorem d_law_115 : decode code 115 = .ok (.iaload, 1) := by decide +kernel
theorem d_law_116 : decode code 116 = .ok (.aload_n 0, 1) := by decide +kernel
theorem d_law_117 : decode code 117 = .ok (.iload_n 3, 1) := by decide +kernel
theorem d_law_118 : decode code 118 = .ok (.iconst 3, 1) := by decide +kernel
theorem d_law_119 : decode code 119 = .ok (.iadd, 1) := by decide +kernel
theorem d_law_120 : decode code 120 = .ok (.iaload, 1) := by decide +kernel
theorem d_law_121 : decode code 121 = .ok (.aload_n 0, 1) := by decide +kernel
theorem d_law_122 : decode code 122 = .ok (.iload_n 3, 1) := by decide +kernel
theorem d_law_123 : decode code 123 = .ok (.iconst 4, 1) := by decide +kernel
theorem d_law_124 : decode code 124 = .ok (.iadd, 1) := by decide +kernel
theorem d_law_125 : decode code 125 = .ok (.iaload, 1) := by decide +kernel
theorem d_law_126 : decode code 126 = .ok (.aload_n 0, 1) := by decide +kernel
theorem d_law_127 : decode code 127 = .ok (.iload_n 3, 1) := by decide +kernel
theorem d_law_128 : decode code 128 = .ok (.iconst 5, 1) := by decide +kernel
theorem d_law_129 : decode code 129 = .ok (.iadd, 1) := by decide +kernel
theorem d_law_130 : decode code 130 = .ok (.iaload, 1) := by decide +kernel
theorem d_law_131 : decode code 131 = .ok (.invokevirtual 17, 3) := by decide +kernel
theorem d_law_134 : decode code 134 = .ok (.if_icmp .eq 183, 3) := by decide +kernel
theorem d_law_137 : decode code 137 = .ok (.iconst 0, 1) := by decide +kernel
theorem d_law_138 : decode code 138 = .ok (.ireturn, 1) := by decide +kernel
theorem d_law_139 : decode code 139 = .ok (.aload_n 1, 1) := by decide +kernel
theorem d_law_140 : decode code 140 = .ok (.aload_n 0, 1) := by decide +kernel
theorem d_law_141 : decode code 141 = .ok (.iload_n 3, 1) := by decide +kernel
theorem d_law_142 : decode code 142 = .ok (.iconst 1, 1) := by decide +kernel
theorem d_law_143 : decode code 143 = .ok (.iadd, 1) := by decide +kernel
theorem d_law_144 : decode code 144 = .ok (.iaload, 1) := by decide +kernel
theorem d_law_145 : decode code 145 = .ok (.invokevirtual 18, 3) := by decide +kernel
theorem d_law_148 : decode code 148 = .ok (.aload_n 2, 1) := by decide +kernel
theorem d_law_149 : decode code 149 = .ok (.aload_n 0, 1) := by decide +kernel
theorem d_law_150 : decode code 150 = .ok (.iload_n 3, 1) := by decide +kernel
theorem d_law_151 : decode code 151 = .ok (.iconst 1, 1) := by decide +kernel
theorem d_law_152 : decode code 152 = .ok (.iadd, 1) := by decide +kernel
theorem d_law_153 : decode code 153 = .ok (.iaload, 1) := by decide +kernel
theorem d_law_154 : decode code 154 = .ok (.invokevirtual 22, 3) := by decide +kernel
theorem d_law_157 : decode code 157 = .ok (.if_icmp .eq 160, 3) := by decide +kernel
theorem d_law_160 : decode code 160 = .ok (.iconst 0, 1) := by decide +kernel
theorem d_law_161 : decode code 161 = .ok (.ireturn, 1) := by decide +kernel
theorem d_law_162 : decode code 162 = .ok (.aload_n 1, 1) := by decide +kernel
theorem d_law_163 : decode code 163 = .ok (.aload_n 0, 1) := by decide +kernel
theorem d_law_164 : decode code 164 = .ok (.iload_n 3, 1) := by decide +kernel
theorem d_law_165 : decode code 165 = .ok (.iconst 1, 1) := by decide +kernel
theorem d_law_166 : decode code 166 = .ok (.iadd, 1) := by decide +kernel
theorem d_law_167 : decode code 167 = .ok (.iaload, 1) := by decide +kernel
theorem d_law_168 : decode code 168 = .ok (.invokevirtual 23, 3) := by decide +kernel
theorem d_law_171 : decode code 171 = .ok (.aload_n 2, 1) := by decide +kernel
theorem d_law_172 : decode code 172 = .ok (.aload_n 0, 1) := by decide +kernel
theorem d_law_173 : decode code 173 = .ok (.iload_n 3, 1) := by decide +kernel
theorem d_law_174 : decode code 174 = .ok (.iconst 1, 1) := by decide +kernel
theorem d_law_175 : decode code 175 = .ok (.iadd, 1) := by decide +kernel
theorem d_law_176 : decode code 176 = .ok (.iaload, 1) := by decide +kernel
theorem d_law_177 : decode code 177 = .ok (.invokevirtual 26, 3) := by decide +kernel
theorem d_law_180 : decode code 180 = .ok (.if_icmp .eq 137, 3) := by decide +kernel
theorem d_law_183 : decode code 183 = .ok (.iconst 0, 1) := by decide +kernel
theorem d_law_184 : decode code 184 = .ok (.ireturn, 1) := by decide +kernel
theorem d_law_185 : decode code 185 = .ok (.aload_n 1, 1) := by decide +kernel
theorem d_law_186 : decode code 186 = .ok (.aload_n 0, 1) := by decide +kernel
theorem d_law_187 : decode code 187 = .ok (.iload_n 3, 1) := by decide +kernel
theorem d_law_188 : decode code 188 = .ok (.iconst 1, 1) := by decide +kernel
theorem d_law_189 : decode code 189 = .ok (.iadd, 1) := by decide +kernel
theorem d_law_190 : decode code 190 = .ok (.iaload, 1) := by decide +kernel
theorem d_law_191 : decode code 191 = .ok (.invokevirtual 27, 3) := by decide +kernel
theorem d_law_194 : decode code 194 = .ok (.aload_n 2, 1) := by decide +kernel
theorem d_law_195 : decode code 195 = .ok (.aload_n 0, 1) := by decide +kernel
theorem d_law_196 : decode code 196 = .ok (.iload_n 3, 1) := by decide +kernel
theorem d_law_197 : decode code 197 = .ok (.iconst 1, 1) := by decide +kernel
theorem d_law_198 : decode code 198 = .ok (.iadd, 1) := by decide +kernel
theorem d_law_199 : decode code 199 = .ok (.iaload, 1) := by decide +kernel
theorem d_law_200 : decode code 200 = .ok (.invokevirtual 30, 3) := by decide +kernel
theorem d_law_203 : decode code 203 = .ok (.if_icmp .eq 114, 3) := by decide +kernel
theorem d_law_206 : decode code 206 = .ok (.iconst 0, 1) := by decide +kernel
theorem d_law_207 : decode code 207 = .ok (.ireturn, 1) := by decide +kernel
theorem d_law_208 : decode code 208 = .ok (.aload_n 1, 1) := by decide +kernel
theorem d_law_209 : decode code 209 = .ok (.aload_n 0, 1) := by decide +kernel
theorem d_law_210 : decode code 210 = .ok (.iload_n 3, 1) := by decide +kernel
theorem d_law_211 : decode code 211 = .ok (.iconst 1, 1) := by decide +kernel
theorem d_law_212 : decode code 212 = .ok (.iadd, 1) := by decide +kernel
theorem d_law_213 : decode code 213 = .ok (.iaload, 1) := by decide +kernel
theorem d_law_214 : decode code 214 = .ok (.aload_n 0, 1) := by decide +kernel
theorem d_law_215 : decode code 215 = .ok (.iload_n 3, 1) := by decide +kernel
theorem d_law_216 : decode code 216 = .ok (.iconst 2, 1) := by decide +kernel
theorem d_law_217 : decode code 217 = .ok (.iadd, 1) := by decide +kernel
theorem d_law_218 : decode code 218 = .ok (.iaload, 1) := by decide +kernel
theorem d_law_219 : decode code 219 = .ok (.invokevirtual 31, 3) := by decide +kernel
theorem d_law_222 : decode code 222 = .ok (.aload_n 2, 1) := by decide +kernel
theorem d_law_223 : decode code 223 = .ok (.aload_n 0, 1) := by decide +kernel
theorem d_law_224 : decode code 224 = .ok (.iload_n 3, 1) := by decide +kernel
theorem d_law_225 : decode code 225 = .ok (.iconst 1, 1) := by decide +kernel
theorem d_law_226 : decode code 226 = .ok (.iadd, 1) := by decide +kernel
theorem d_law_227 : decode code 227 = .ok (.iaload, 1) := by decide +kernel
theorem d_law_228 : decode code 228 = .ok (.aload_n 0, 1) := by decide +kernel
theorem d_law_229 : decode code 229 = .ok (.iload_n 3, 1) := by decide +kernel
theorem d_law_230 : decode code 230 = .ok (.iconst 2, 1) := by decide +kernel
theorem d_law_231 : decode code 231 = .ok (.iadd, 1) := by decide +kernel
theorem d_law_232 : decode code 232 = .ok (.iaload, 1) := by decide +kernel
theorem d_law_233 : decode code 233 = .ok (.invokevirtual 35, 3) := by decide +kernel
theorem d_law_236 : decode code 236 = .ok (.if_icmp .eq 81, 3) := by decide +kernel
theorem d_law_239 : decode code 239 = .ok (.iconst 0, 1) := by decide +kernel
theorem d_law_240 : decode code 240 = .ok (.ireturn, 1) := by decide +kernel
theorem d_law_241 : decode code 241 = .ok (.aload_n 1, 1) := by decide +kernel
theorem d_law_242 : decode code 242 = .ok (.aload_n 0, 1) := by decide +kernel
theorem d_law_243 : decode code 243 = .ok (.iload_n 3, 1) := by decide +kernel
theorem d_law_244 : decode code 244 = .ok (.iconst 1, 1) := by decide +kernel
theorem d_law_245 : decode code 245 = .ok (.iadd, 1) := by decide +kernel
theorem d_law_246 : decode code 246 = .ok (.iaload, 1) := by decide +kernel
theorem d_law_247 : decode code 247 = .ok (.aload_n 0, 1) := by decide +kernel
theorem d_law_248 : decode code 248 = .ok (.iload_n 3, 1) := by decide +kernel
theorem d_law_249 : decode code 249 = .ok (.iconst 2, 1) := by decide +kernel
theorem d_law_250 : decode code 250 = .ok (.iadd, 1) := by decide +kernel
theorem d_law_251 : decode code 251 = .ok (.iaload, 1) := by decide +kernel
theorem d_law_252 : decode code 252 = .ok (.invokevirtual 36, 3) := by decide +kernel
theorem d_law_255 : decode code 255 = .ok (.aload_n 2, 1) := by decide +kernel
theorem d_law_256 : decode code 256 = .ok (.aload_n 0, 1) := by decide +kernel
theorem d_law_257 : decode code 257 = .ok (.iload_n 3, 1) := by decide +kernel
theorem d_law_258 : decode code 258 = .ok (.iconst 1, 1) := by decide +kernel
theorem d_law_259 : decode code 259 = .ok (.iadd, 1) := by decide +kernel
theorem d_law_260 : decode code 260 = .ok (.iaload, 1) := by decide +kernel
theorem d_law_261 : decode code 261 = .ok (.aload_n 0, 1) := by decide +kernel
theorem d_law_262 : decode code 262 = .ok (.iload_n 3, 1) := by decide +kernel
theorem d_law_263 : decode code 263 = .ok (.iconst 2, 1) := by decide +kernel
theorem d_law_264 : decode code 264 = .ok (.iadd, 1) := by decide +kernel
theorem d_law_265 : decode code 265 = .ok (.iaload, 1) := by decide +kernel
theorem d_law_266 : decode code 266 = .ok (.invokevirtual 39, 3) := by decide +kernel
theorem d_law_269 : decode code 269 = .ok (.if_icmp .eq 48, 3) := by decide +kernel
theorem d_law_272 : decode code 272 = .ok (.iconst 0, 1) := by decide +kernel
theorem d_law_273 : decode code 273 = .ok (.ireturn, 1) := by decide +kernel
theorem d_law_274 : decode code 274 = .ok (.aload_n 1, 1) := by decide +kernel
theorem d_law_275 : decode code 275 = .ok (.aload_n 0, 1) := by decide +kernel
theorem d_law_276 : decode code 276 = .ok (.iload_n 3, 1) := by decide +kernel
theorem d_law_277 : decode code 277 = .ok (.iconst 1, 1) := by decide +kernel
theorem d_law_278 : decode code 278 = .ok (.iadd, 1) := by decide +kernel
theorem d_law_279 : decode code 279 = .ok (.iaload, 1) := by decide +kernel
theorem d_law_280 : decode code 280 = .ok (.aload_n 0, 1) := by decide +kernel
theorem d_law_281 : decode code 281 = .ok (.iload_n 3, 1) := by decide +kernel
theorem d_law_282 : decode code 282 = .ok (.iconst 2, 1) := by decide +kernel
theorem d_law_283 : decode code 283 = .ok (.iadd, 1) := by decide +kernel
theorem d_law_284 : decode code 284 = .ok (.iaload, 1) := by decide +kernel
theorem d_law_285 : decode code 285 = .ok (.aload_n 0, 1) := by decide +kernel
theorem d_law_286 : decode code 286 = .ok (.iload_n 3, 1) := by decide +kernel
theorem d_law_287 : decode code 287 = .ok (.iconst 3, 1) := by decide +kernel
theorem d_law_288 : decode code 288 = .ok (.iadd, 1) := by decide +kernel
theorem d_law_289 : decode code 289 = .ok (.iaload, 1) := by decide +kernel
theorem d_law_290 : decode code 290 = .ok (.invokevirtual 40, 3) := by decide +kernel
theorem d_law_293 : decode code 293 = .ok (.aload_n 2, 1) := by decide +kernel
theorem d_law_294 : decode code 294 = .ok (.aload_n 0, 1) := by decide +kernel
theorem d_law_295 : decode code 295 = .ok (.iload_n 3, 1) := by decide +kernel
theorem d_law_296 : decode code 296 = .ok (.iconst 1, 1) := by decide +kernel
theorem d_law_297 : decode code 297 = .ok (.iadd, 1) := by decide +kernel
theorem d_law_298 : decode code 298 = .ok (.iaload, 1) := by decide +kernel
theorem d_law_299 : decode code 299 = .ok (.aload_n 0, 1) := by decide +kernel
theorem d_law_300 : decode code 300 = .ok (.iload_n 3, 1) := by decide +kernel
theorem d_law_301 : decode code 301 = .ok (.iconst 2, 1) := by decide +kernel
theorem d_law_302 : decode code 302 = .ok (.iadd, 1) := by decide +kernel
theorem d_law_303 : decode code 303 = .ok (.iaload, 1) := by decide +kernel
theorem d_law_304 : decode code 304 = .ok (.aload_n 0, 1) := by decide +kernel
theorem d_law_305 : decode code 305 = .ok (.iload_n 3, 1) := by decide +kernel
theorem d_law_306 : decode code 306 = .ok (.iconst 3, 1) := by decide +kernel
theorem d_law_307 : decode code 307 = .ok (.iadd, 1) := by decide +kernel
theorem d_law_308 : decode code 308 = .ok (.iaload, 1) := by decide +kernel
theorem d_law_309 : decode code 309 = .ok (.invokevirtual 44, 3) := by decide +kernel
theorem d_law_312 : decode code 312 = .ok (.if_icmp .eq 5, 3) := by decide +kernel
theorem d_law_315 : decode code 315 = .ok (.iconst 0, 1) := by decide +kernel
theorem d_law_316 : decode code 316 = .ok (.ireturn, 1) := by decide +kernel
theorem d_law_317 : decode code 317 = .ok (.iinc 3 6, 3) := by decide +kernel
theorem d_law_320 : decode code 320 = .ok (.goto (-302), 3) := by decide +kernel
theorem d_law_323 : decode code 323 = .ok (.iconst 1, 1) := by decide +kernel
theorem d_law_324 : decode code 324 = .ok (.ireturn, 1) := by decide +kernel
theorem k_law_9 : Cond.methodLink R_law 9 (q_y 192) ∈ lw_tbl := q_lw1 (i := 25) rfl
theorem k_law_12 : Cond.methodLink R_law 12 (q_y 225) ∈ lw_tbl := q_lw8 (i := 24) rfl
theorem k_law_13 : Cond.methodLink R_law 13 (q_y 193) ∈ lw_tbl := q_lw3 (i := 79) rfl
theorem k_law_18 : Cond.methodLink R_law 18 (q_y 195) ∈ lw_tbl := q_lw3 (i := 87) rfl
theorem k_law_23 : Cond.methodLink R_law 23 (q_y 199) ∈ lw_tbl := q_lw7 (i := 234) rfl
theorem k_law_27 : Cond.methodLink R_law 27 (q_y 200) ∈ lw_tbl := q_lw7 (i := 238) rfl
theorem k_law_31 : Cond.methodLink R_law 31 (q_y 201) ∈ lw_tbl := q_lw8 (i := 6) rfl
theorem k_law_36 : Cond.methodLink R_law 36 (q_y 202) ∈ lw_tbl := q_lw8 (i := 14) rfl
theorem k_law_40 : Cond.methodLink R_law 40 (q_y 203) ∈ lw_tbl := q_lw8 (i := 18) rfl
theorem k_law_17 : Cond.methodLink R_law 17 (q_y 425) ∈ lw_tbl := q_lw9 (i := 39) rfl
theorem k_law_22 : Cond.methodLink R_law 22 (q_y 426) ∈ lw_tbl := q_lw9 (i := 43) rfl
theorem k_law_26 : Cond.methodLink R_law 26 (q_y 427) ∈ lw_tbl := q_lw12 (i := 200) rfl
theorem k_law_30 : Cond.methodLink R_law 30 (q_y 428) ∈ lw_tbl := q_lw12 (i := 204) rfl
theorem k_law_35 : Cond.methodLink R_law 35 (q_y 430) ∈ lw_tbl := q_lw12 (i := 208) rfl
theorem k_law_39 : Cond.methodLink R_law 39 (q_y 431) ∈ lw_tbl := q_lw12 (i := 216) rfl
theorem k_law_44 : Cond.methodLink R_law 44 (q_y 432) ∈ lw_tbl := q_lw12 (i := 220) rfl
theorem k_law_7 : Cond.classLink R_law 7 (q_R 11) ∈ lw_tbl := q_lw1 (i := 23) rfl
theorem k_law_10 : Cond.classLink R_law 10 (q_R 12) ∈ lw_tbl := q_lw8 (i := 22) rfl
def lw_P (b : Addr) (xs : List Int32) (args : Array Value) (s : State) : Prop := args = #[.ref b] ∧ s.IntsAt b xs ∧ xs.length ≤ 3072 ∧ (Jvm.Cond.and given_1 narrow_1).before args s = true
def lw_Q (_ : Array Value) (s : State) (o : Outcome) (t : State) : Prop := o = .returned (some (.int 1)) ∧ Framed s o t [] 396798 7911856
def lw_Z (below : List Frame) (a : Array Value) (s : State) : State → Prop := fun t => ∃ o, t.status = .running ∧ Ended t below o ∧ lw_Q a s o t
/-- the law's own end, with 1 on the stack, nothing written that was there before, its room as the claim has it -/
theorem lw_ret {p : Program} {l : Launch} {e : Env} {s : State} {m : MethodId} {below : List Frame} {meth : Method} {c : Code} {b : Nat} (hx : p.tables.exec = Jvm.exec) (hb : c.code = code) (hr : meth.sig.returnType = ret) (hlocks : meth.locks = false) {pc : Nat} {H : Heap} {ls : Array Slot} (hdg : decode code pc = .ok (.ireturn, 1)) : W p l e room_1 s m #[Value.ref b] below meth c H [] 396798 7911856 (lw_Z below #[Value.ref b] s) (F0 m pc ls [.int 1]) := by
  intro T hT X
  obtain ⟨fs, hret, hrun, hended, hW, hframe⟩ := X.leave (v := some (.int 1)) (hlocks := hlocks) (fun h => by rw [hr] at h; cases h)
  have hmeth' : T.vm.method? m = some meth := X.method'
  refine ⟨T.setFrames fs, ?_, .returned (some (.int 1)), hrun, hended, rfl, ⟨_, rfl⟩, hW, hframe⟩
  jvm_step X.here [X.here.top, hx, hb, hdg, hmeth', hr, ret, narrow_b1]
  (try refine ⟨rfl, ?_⟩); (try refine ⟨rfl, ?_⟩)
  first | (intro acts; rw [hret _ acts rfl rfl rfl]) | rw [hret _ _ rfl rfl rfl]
  exact Steps.refl _
/-- what holds at the law's entry: the machine, the code, the tables' words (any of lw_tbl by 'hts w (by decide +kernel)'), the script of L ints xs at the cell b, what the Statement gives of the start (any of its parts by flat_of_before) -/
def lw_At (p : Program) (s : State) (m : MethodId) (meth : Method) (c : Code) (b L : Nat) (xs : Nat → Int32) : Prop :=
  p.tables.exec = Jvm.exec ∧ c.code = code ∧ meth.sig.returnType = ret ∧ c.maxLocals = 4 ∧ s.vm.findClass R_law = some m.cls ∧ (∀ w ∈ lw_tbl, w.before #[Value.ref b] s = true) ∧ va_X b L xs s s.heap ∧ b < s.heap.size ∧ meth.locks = false ∧ (Jvm.Cond.and given_1 narrow_1).before #[Value.ref b] s = true
def l_St (p : Program) (s : State) (m : MethodId) (meth : Method) (c : Code) (b L : Nat) (xs : Nat → Int32) (D : va_G) (ad : Nat → Nat) (cy : Nat → ClassId) : Prop := lw_At p s m meth c b L xs ∧ va_K D vwCl (q_tys cy) s ∧ q_T ad s ∧ q_SF ad s.heap.size s s.heap
abbrev l_W (D : va_G) (s : State) (ad : Nat → Nat) (cy : Nat → ClassId) (E : q_H) (H : Heap) : Prop := q_W D s.heap.size (q_c (q_rho s.heap.size ad) cy) E H
abbrev l_S (s : State) (H : Heap) (locs : List Loc) : Prop := va_S (fun q => s.heap.size ≤ q) s.heap H locs
theorem l_good (y : Nat) (h : q_mOK y) : GoodIn q_big (q_wsm y) := by
  intro w hw
  rcases List.mem_cons.mp hw with rfl | hw
  · exact ⟨q_mem h.2.1 rfl, good_of_word rfl⟩
  · exact ⟨hw, good_of_word (List.mem_filter.mp hw).2⟩
section LAW
variable {p : Program} {l : Launch} {e : Env} {s : State} {m : MethodId} {below : List Frame} {meth : Method} {c : Code} {b L : Nat} {xs : Nat → Int32} {D : va_G} {ad : Nat → Nat} {cy : Nat → ClassId} {H : Heap} {locs : List Loc} {cells slots : Nat} {Q : State → Prop} {pc : Nat} {ls : Array Slot}
theorem l_pre {y d mc ms : Nat} {as : List Value} {E : q_H} (C0 : l_St p s m meth c b L xs D ad cy) (hw : l_W D s ad cy E H) (hS : l_S s H locs) : PreS s H (va_Pc (as.map (q_v (q_rho s.heap.size ad))) (q_Pre D s.heap.size ad cy E)) (as.map (q_v (q_rho s.heap.size ad))) := by
  obtain ⟨-, hK, hT, hF⟩ := C0
  exact ⟨q_blind, fun U hU hW => ⟨rfl, by rw [hU]; exact hw, va_K.moved hW.alike hK, hT.warm hW, by rw [hU]; exact (hF.kept hS.2.1).moved hW.alike⟩⟩
theorem l_after {v : Option Value} {A : Array Value} {mc ms : Nat} {st0 rest : List Value} {E' : q_H} (hr : va_Run p l e room_1 s m #[Value.ref b] below meth c H locs cells slots mc ms (F0 m pc ls st0) rest (q_Qc D s.heap.size ad cy v E' A) (fun q => s.heap.size ≤ q)) (hS : l_S s H locs) (kk : ∀ (H1 : Heap) (locs1 : List Loc), l_W D s ad cy E' H1 → l_S s H1 locs1 → W p l e room_1 s m #[Value.ref b] below meth c H1 locs1 (cells + mc) (slots + ms) Q (F0 m (pc + 3) ls ((v.map (q_v (q_rho s.heap.size ad))).toList ++ rest))) : W p l e room_1 s m #[Value.ref b] below meth c H locs cells slots Q (F0 m pc ls st0) := q_after hr hS kk
theorem l_inv {y idx F d a mc ms : Nat} {as : List Value} {E E1 : q_H} {v : Int32} {rest st fs : List Value} (C0 : l_St p s m meth c b L xs D ad cy) (hy : y < 442) (hcall : q_callf F d y (.ref a :: as) E = some (some (.int v), E1, mc, ms)) (hlink : Cond.methodLink R_law idx (q_y y) ∈ lw_tbl) (hdg : decode code pc = .ok (.invokevirtual idx, 3)) (hstk : st = (as.map (q_v (q_rho s.heap.size ad))).reverse ++ .ref (q_rho s.heap.size ad a) :: rest) (hna : as.length = q_na y) (hst : q_stat y = false) (hi : q_ini y = false) (ho : q_own y < 13) (hob : q_obj E a (q_own y) = some fs) (hd : d + 4 ≤ 2048) (hR : 8 + (q_maxL y + 11) + (40 * d + 100) ≤ 84000) (h8 : (rest.map fun v => v.category).sum ≤ 8) (hc : cells + mc ≤ 396798) (hs : slots + ms ≤ 7911856) (hw : l_W D s ad cy E H) (hS : l_S s H locs) (hl : ls.size = 4) (kk : ∀ (H1 : Heap) (locs1 : List Loc), l_W D s ad cy E1 H1 → l_S s H1 locs1 → W p l e room_1 s m #[Value.ref b] below meth c H1 locs1 (cells + mc) (slots + ms) Q (F0 m (pc + 3) ls (.int v :: rest))) : W p l e room_1 s m #[Value.ref b] below meth c H locs cells slots Q (F0 m pc ls st) := by
  have hpre := l_pre (y := y) (d := d) (mc := mc) (ms := ms) (as := .ref a :: as) C0 hw hS
  obtain ⟨⟨hx, hb, hr, hml, hown, hts, hX, hbl, hlocks, hgv⟩, hK, hT, hF⟩ := C0
  have htb : ∀ w ∈ q_big, w.before #[Value.ref b] s = true := fun w h => hts w (List.mem_filter.mp h).1
  have hm := q_m_ok y hy
  obtain ⟨m1, m2, m3, m4, m5, m6, m7, m8, m9, m10⟩ := id hm
  have hini : (Cond.initialized (q_y y).cls).before #[Value.ref b] s = true := htb _ (q_mem m4 rfl)
  have hM := q_call_ok l D s.heap.size ad cy F d y (.ref a :: as) E _ hm hcall
  have hG := l_good y hm
  have hrecv : ∃ cellB : Cell, H[q_rho s.heap.size ad a]? = some cellB ∧ cellB.vm.isStatics = false ∧ s.vm.findClass (q_y y).cls = some cellB.cls := by
    obtain ⟨g1, g2⟩ := q_obj_s hob
    have z := Value.ref.inj (q_ref0 (b0 := s.heap.size) (ad := ad) g1)
    rw [m3, z]
    exact va_recv hK hw.2 (q_vw _ ho) (q_ws_at (b0 := s.heap.size) (G := q_c (q_rho s.heap.size ad) cy) g2)
  subst hstk
  exact l_after (va_runV (C := (q_y y).cls) (As := as.map (q_v (q_rho s.heap.size ad))) (rest := rest) ⟨hx, hb, hml, hown, htb⟩ hM ⟨callB_of (q_na y) htb hG rfl rfl rfl hini (htb _ (q_mem hlink rfl)) m9 ⟨by show d + 3 + 1 ≤ 2048; omega, by show _ ≤ 84000; exact hR⟩, htb _ (q_mem (m6 hst) rfl), htb _ (q_mem (m7 hst hi) rfl)⟩ ⟨hpre.1, hrecv, hpre.2⟩ rfl (by rw [List.length_map]; exact hna) hl rfl (by show 2 * 0 + _ ≤ 8; omega) hdg ⟨hc, hs⟩) hS kk
theorem l_ini {y idx F d a mc ms : Nat} {E E1 : q_H} {rest st : List Value} (C0 : l_St p s m meth c b L xs D ad cy) (hy : y < 442) (hcall : q_callf F d y [.ref a] E = some (none, E1, mc, ms)) (hlink : Cond.methodLink R_law idx (q_y y) ∈ lw_tbl) (hdg : decode code pc = .ok (.invokespecial idx, 3)) (hstk : st = .ref (q_rho s.heap.size ad a) :: rest) (hna : q_na y = 0) (hst : q_stat y = false) (hi : q_ini y = true) (hrn : q_ret y = none) (hd : d + 4 ≤ 2048) (hR : 8 + (q_maxL y + 11) + (40 * d + 100) ≤ 84000) (h8 : (rest.map fun v => v.category).sum ≤ 8) (hc : cells + mc ≤ 396798) (hs : slots + ms ≤ 7911856) (hw : l_W D s ad cy E H) (hS : l_S s H locs) (hl : ls.size = 4) (kk : ∀ (H1 : Heap) (locs1 : List Loc), l_W D s ad cy E1 H1 → l_S s H1 locs1 → W p l e room_1 s m #[Value.ref b] below meth c H1 locs1 (cells + mc) (slots + ms) Q (F0 m (pc + 3) ls rest)) : W p l e room_1 s m #[Value.ref b] below meth c H locs cells slots Q (F0 m pc ls st) := by
  have hpre := l_pre (y := y) (d := d) (mc := mc) (ms := ms) (as := [.ref a]) C0 hw hS
  obtain ⟨⟨hx, hb, hr, hml, hown, hts, hX, hbl, hlocks, hgv⟩, hK, hT, hF⟩ := C0
  have htb : ∀ w ∈ q_big, w.before #[Value.ref b] s = true := fun w h => hts w (List.mem_filter.mp h).1
  have hm := q_m_ok y hy
  obtain ⟨m1, m2, m3, m4, m5, m6, m7, m8, m9, m10⟩ := id hm
  have hini : (Cond.initialized (q_y y).cls).before #[Value.ref b] s = true := htb _ (q_mem m4 rfl)
  have hM := q_call_ok l D s.heap.size ad cy F d y [.ref a] E _ hm hcall
  have hG := l_good y hm
  have hwm : q_wsm y = Cond.code (q_y y) (q_code y) (q_maxL y) none :: q_big := by unfold q_wsm; rw [hrn]
  subst hstk
  exact l_after (va_runI (As := []) (rest := rest) ⟨hx, hb, hml, hown, htb⟩ hM ⟨callB_of (q_na y) htb hG hwm rfl rfl hini (htb _ (q_mem hlink rfl)) m9 ⟨by show d + 3 + 1 ≤ 2048; omega, by show _ ≤ 84000; exact hR⟩, m8 hi, htb _ (q_mem (m6 hst) rfl)⟩ hpre rfl (by rw [hna]; rfl) hl rfl (by show 2 * 0 + _ ≤ 8; omega) hdg ⟨hc, hs⟩) hS kk
theorem l_new {idx ci : Nat} {E : q_H} {r : List Value} (C0 : l_St p s m meth c b L xs D ad cy) (h1 : ci < 13) (h3 : Cond.classLink R_law idx (q_R ci) ∈ lw_tbl) (hc : cells + 1 ≤ 396798) (hs : slots + q_N ci ≤ 7911856) (hdg : decode code pc = .ok (.new idx, 3)) (hw : l_W D s ad cy E H) (hS : l_S s H locs) (kk : ∀ (H1 : Heap) (locs1 : List Loc), l_W D s ad cy (E ++ [.inr (ci, (List.range (q_N ci)).map (fun j => defaultValue (q_Ty ci j)))]) H1 → l_S s H1 locs1 → W p l e room_1 s m #[Value.ref b] below meth c H1 locs1 (cells + 1) (slots + q_N ci) Q (F0 m (pc + 3) ls (.ref (q_rho s.heap.size ad (2 * E.length)) :: r))) : W p l e room_1 s m #[Value.ref b] below meth c H locs cells slots Q (F0 m pc ls r) := by
  obtain ⟨⟨hx, hb, hr, hml, hown, hts, hX, hbl, hlocks, hgv⟩, hK, hT, hF⟩ := C0
  have htb : ∀ w ∈ q_big, w.before #[Value.ref b] s = true := fun w h => hts w (List.mem_filter.mp h).1
  rw [q_rho0] at kk
  have hcl := q_vw _ h1
  have hKn := hK.1 ci _ hcl
  refine W.newcK hx hb hown (htb _ (q_mem h3 rfl)) (htb _ (q_mem (q_inst _ h1) rfl)) (htb _ (q_mem (q_init _ h1) rfl)) rfl hdg hc hs hKn.2.1 hw.1 fun H1 kC hkC f1 f2 f3 => ?_
  have hz : H1.size = H.size + 1 := by rw [f2, hw.1]
  have ho : ∀ q : Nat, q < H.size → H1[q]? = H[q]? := fun q hq => f3 q (by rw [← hw.1]; exact hq)
  refine kk H1 locs (q_W_app hw hz ho ?_) (q_S_app hS hz ho)
  refine ⟨_, hcl, (u_born (q_Ty ci) htb (q_lay_big h1) hKn hkC f1 (q_ty_ok _ h1)).to fun j hj => ?_⟩
  show defaultValue (q_Ty ci j) = (List.map _ _).getD j .null
  rw [List.getD_eq_getElem?_getD, List.getElem?_map, List.getElem?_map, List.getElem?_range hj]
  show _ = q_v _ (defaultValue _)
  cases q_Ty ci j <;> rfl
/-- the end of the law -/
theorem l_end (C0 : l_St p s m meth c b L xs D ad cy) (hS : l_S s H locs) (hc : cells ≤ 396798) (hs : slots ≤ 7911856) : W p l e room_1 s m #[Value.ref b] below meth c H locs cells slots (lw_Z below #[Value.ref b] s) (F0 m 323 ls []) := by
  obtain ⟨⟨hx, hb, hr, hml, hown, hts, hX, hbl, hlocks, hgv⟩, hK, hT, hF⟩ := C0
  refine lv_iconst (v := 1) hx hb d_law_323 (by decide) ?_
  refine va_forget (fun q hq => hS.2.2 q hq) ?_
  refine W.widen (k := 396798) (n := 7911856) hc hs ?_
  exact lw_ret hx hb hr hlocks d_law_324
end LAW
